/-! deeds on both sides: bottle, add, blot -/
theorem CA_bt {h : aH} {a : Nat} {P : Ps} {bt sd : Nat} (bt' : Nat) (hA : CA h a P bt sd) : CA (aU h a 4 (mI bt')) a P bt' sd := by
  obtain ⟨a1, a2, a3, a4⟩ := hA
  refine ⟨fun p hp => by rw [aU_ne (by omega)]; exact a1 p hp, fun p hp l x hx => ?_, by simp [aU_rd], by simp [aU_rd, a4]⟩
  rw [aU_ne (by omega), aU_ne (by omega), aU_ne (by omega)]
  exact a2 p hp l x hx
theorem CA_sd {h : aH} {a : Nat} {P : Ps} {bt sd : Nat} (sd' : Nat) (hA : CA h a P bt sd) : CA (aU h a 5 (nI sd')) a P bt sd' := by
  obtain ⟨a1, a2, a3, a4⟩ := hA
  refine ⟨fun p hp => by rw [aU_ne (by omega)]; exact a1 p hp, fun p hp l x hx => ?_, by simp [aU_rd, a3], by simp [aU_rd]⟩
  rw [aU_ne (by omega), aU_ne (by omega), aU_ne (by omega)]
  exact a2 p hp l x hx
theorem MA_bt {h : aH} {P : Ps} {bt : Nat} {V : Vd} (bt' : Nat) (hP : wfP V P) (hM : MA h 0 P bt) : MA (aU h 55 52 (mI bt')) 0 P bt' := by
  obtain ⟨a1, a2, a3⟩ := hM
  refine ⟨fun p hp => ?_, fun p hp l x hx => ?_, by simp [aU_rd]⟩
  · have := a1 p hp
    simp only [aU_rd]
    rw [if_pos trivial, if_neg (by omega)]; exact this
  · have := a2 p hp l x hx
    have b := wfP_at hP hx
    simp only [aU_rd]
    rw [if_pos trivial, if_neg (by omega)]; exact this
theorem wfU_pu {V : Vd} {P : Ps} {bt : Nat} {un : Un} (hU : wfU V un) (hP : wfP V P) (hb : bt ≤ 96) : wfU V (pu (P, bt) un) := by
  refine ⟨by rw [pu_len]; omega, fun S hS => ?_⟩
  have := List.mem_of_mem_take hS
  rcases List.mem_cons.mp this with z | z
  · rw [z]; exact ⟨hP, hb⟩
  · exact hU.2 S z
theorem wfP_add {V : Vd} {P : Ps} {p : Nat} {x : Lt} (hP : wfP V P) (hp : p < V 0 5) (hl : (P p).length < 12) (hx : x.1 < 96 ∧ x.2.1 < V 0 4 ∧ x.2.2 ≤ 96) : wfP V (upP P p (P p ++ [x])) := by
  intro q
  by_cases z : q = p
  · subst z
    rw [upP_p]
    refine ⟨by rw [List.length_append]; show (P q).length + 1 ≤ 12; omega, fun g => absurd g (by omega), fun y hy => ?_⟩
    rcases List.mem_append.mp hy with g | g
    · exact (hP q).2.2 y g
    · rw [List.mem_singleton.mp g]; exact hx
  · rw [upP_ne _ _ z]; exact hP q
theorem wfP_drop {V : Vd} {P : Ps} {p : Nat} {L : List Lt} {x : Lt} (hP : wfP V P) (e : P p = L ++ [x]) : wfP V (upP P p L) := by
  intro q
  by_cases z : q = p
  · subst z
    rw [upP_p]
    have b := hP q
    rw [e] at b
    refine ⟨?_, fun g => ?_, fun y hy => b.2.2 y (List.mem_append_left _ hy)⟩
    · have := b.1
      rw [List.length_append] at this
      omega
    · have := b.2.1 g
      simp at this
  · rw [upP_ne _ _ z]; exact hP q
theorem m_lookN {h : aH} {V : Vd} {p l : Nat} {x : Lt} (hV : MV h V) (hw : wfV V) (b : x.1 < 96 ∧ x.2.1 < V 0 4 ∧ x.2.2 ≤ 96) (hp : p < 4) (hl : l < 12) (e : h 55 (12 * p + l) = nI (x.1 + 96 * x.2.1 + 384 * x.2.2)) : fX8_lookOf h (nI p) (nI l) = some (nI (loS V x)) := by
  have w4 := hw.1.2.2.2.2.1
  obtain ⟨b1, b2, b3⟩ := b
  have e1 : fX8_airOf h (nI p) (nI l) = some (mI x.2.2) := by
    unfold fX8_airOf
    rw [ix12', if_pos (ck_t (by omega) (by omega)), tn_nI (by omega), e, show nI (x.1 + 96 * x.2.1 + 384 * x.2.2) / 384 = nI ((x.1 + 96 * x.2.1 + 384 * x.2.2) / 384) from pk_div (d := 384) (by omega) (by omega) (by omega), show (x.1 + 96 * x.2.1 + 384 * x.2.2) / 384 = x.2.2 by omega]
    rfl
  have e2 : fX8_handOf h (nI p) (nI l) = some (nI x.2.1) := by
    unfold fX8_handOf
    rw [ix12', if_pos (ck_t (by omega) (by omega)), tn_nI (by omega), e, show nI (x.1 + 96 * x.2.1 + 384 * x.2.2) / 96 = nI ((x.1 + 96 * x.2.1 + 384 * x.2.2) / 96) from pk_div (d := 96) (by omega) (by omega) (by omega), show rmd (nI ((x.1 + 96 * x.2.1 + 384 * x.2.2) / 96)) 4 = nI ((x.1 + 96 * x.2.1 + 384 * x.2.2) / 96 % 4) from rmd_nI (d := 4) (by omega) (by omega) (by omega), show (x.1 + 96 * x.2.1 + 384 * x.2.2) / 96 % 4 = x.2.1 by omega]
  have e3 : fX8_hourOf h (nI p) (nI l) = some (nI x.1) := by
    unfold fX8_hourOf
    rw [ix12', if_pos (ck_t (by omega) (by omega)), tn_nI (by omega), e, show rmd (nI (x.1 + 96 * x.2.1 + 384 * x.2.2)) 96 = nI ((x.1 + 96 * x.2.1 + 384 * x.2.2) % 96) from rmd_nI (d := 96) (by omega) (by omega) (by omega), show (x.1 + 96 * x.2.1 + 384 * x.2.2) % 96 = x.1 by omega]
  unfold fX8_lookOf
  rw [e1, bn_s, e2, bn_s]
  unfold loS
  by_cases g : x.2.2 = 0
  · rw [if_neg (fun z => ((mI_nn (by omega)).mp z) g), if_pos g, e3, bn_s, m_look hV hw b2 b1]; rfl
  · rw [if_pos ((mI_nn (by omega)).mpr g), if_neg g]
    obtain ⟨k, hk⟩ : ∃ k, x.2.2 = k + 1 := ⟨x.2.2 - 1, by omega⟩
    rw [hk, mI_s, Nat.add_sub_cancel, m_look hV hw b2 (by omega)]; rfl
section Ops6
variable {h : aH} {v w : Nat} {tx : List Nat} {ft : Int32} {V : Vd} {P : Ps} {bt sd : Nat} {im : Im} {un : Un} {ms : Nat → Nat} {bk : Bk}
/-- a deed done on both sides -/
theorem fin6 (hC : RC h v w tx ft V P bt sd im un ms bk) (hM : RM h tx ft V P bt sd im un ms bk) (hW : WF v w tx V P bt sd im un ms bk) {h1 h2 : aH} {P' : Ps} {bt' sd' : Nat} {un' : Un} (c1 : ∀ k, k < 3 ∨ 8 ≤ k → k < 18 ∨ 24 ≤ k → h1 k = h k) (c2 : CA h1 3 P' bt' sd') (c3 : UnC h1 P' bt' un') (d1 : ∀ k, k ≠ 54 → k ≠ 55 → h2 k = h1 k) (d2 : ∀ j, j ≠ 25 → h2 54 j = h1 54 j) (d3 : ∀ i, 54 ≤ i → i < 162 → h2 55 i = h1 55 i) (d4 : MA h2 0 P' bt') (d5 : h2 55 53 = nI sd') (d6 : UnM h2 un') (e1 : wfP V P') (e2 : bt' ≤ 96) (e3 : sd' < 2 ^ 31) (e4 : wfU V un') : RC h2 v w tx ft V P' bt' sd' im un' ms bk ∧ RM h2 tx ft V P' bt' sd' im un' ms bk ∧ WF v w tx V P' bt' sd' im un' ms bk := by
  obtain ⟨w1, w2, w3, w4, w5, w6, w7, w8, w9, w10⟩ := hW
  obtain ⟨r1, r2, r3, r4, r5, r6, r7, r8, r9⟩ := hC
  obtain ⟨m1, m2, m3, m4, m5, m6, m7, m8, m9, m10⟩ := hM
  have q : ∀ k, k < 3 ∨ 8 ≤ k → k < 18 ∨ 24 ≤ k → k ≠ 54 → k ≠ 55 → h2 k = h k := fun k a b c d => by rw [d1 k c d, c1 k a b]
  have q54 : ∀ j, j ≠ 25 → h2 54 j = h 54 j := fun j hj => by rw [d2 j hj, c1 54 (by omega) (by omega)]
  have q55 : ∀ i, 54 ≤ i → i < 162 → h2 55 i = h 55 i := fun i a b => by rw [d3 i a b, c1 55 (by omega) (by omega)]
  have g : ∀ k, k < 3 ∨ 8 ≤ k → k < 18 ∨ 24 ≤ k → k < 54 → h2 k = h k := fun k a b c => q k a b (by omega) (by omega)
  have gm : ∀ k, 56 ≤ k → h2 k = h k := fun k a => q k (by omega) (by omega) (by omega) (by omega)
  refine ⟨⟨by rw [g 0 (by omega) (by omega) (by omega)]; exact r1, TxC_c (g 1 (by omega) (by omega) (by omega)) (g 2 (by omega) (by omega) (by omega)) r2, CV_c (fun k _ _ => g k (by omega) (by omega) (by omega)) r3, CL_c (g _ (by omega) (by omega) (by omega)) r4, CA_c (fun k _ _ => d1 k (by omega) (by omega)) c2, ImC_c (fun k _ _ => g k (by omega) (by omega) (by omega)) r6, UnC_c (fun k _ _ => d1 k (by omega) (by omega)) c3, MsC_c (g 35 (by omega) (by omega) (by omega)) r8, CB_c (fun k _ _ => g k (by omega) (by omega) (by omega)) r9⟩, ⟨by rw [q54 23 (by omega)]; exact m1, TxM_c (q54 19 (by omega)) (gm 65 (by omega)) m2, MV_c (q54 2 (by omega)) (q54 6 (by omega)) (q54 11 (by omega)) (q54 16 (by omega)) (fun k _ _ => gm k (by omega)) m3, d4, d5, ImM_c w7 (gm 56 (by omega)) q55 m6, d6, MsM_c (gm 66 (by omega)) m8, MB_c (q54 32 (by omega)) (fun k _ _ => gm k (by omega)) m9, fun j hj => by rw [gm 68 (by omega)]; exact m10 j hj⟩, ⟨w1, w2, w3, e1, e2, e3, w7, e4, w9, w10⟩⟩
theorem op_bottle (hC : RC h v w tx ft V P bt sd im un ms bk) (hM : RM h tx ft V P bt sd im un ms bk) (hW : WF v w tx V P bt sd im un ms bk) (x : Int32) : Ok2 h (fun h => fX7_bottle h x) (fun h => fX8_bottle h x) := by
  have hI : Inv h := ⟨v, w, tx, ft, V, P, bt, sd, im, un, ms, bk, hC, hM, hW⟩
  have hC0 := hC
  have hM0 := hM
  have hW0 := hW
  obtain ⟨hv, hCV, hCL, hCA, hMV, hMA, hwV, hwP⟩ := RD_of hC hM hW
  obtain ⟨w1, w2, w3, w4, w5, w6, w7, w8, w9, w10⟩ := hW
  obtain ⟨r1, r2, r3, r4, r5, r6, r7, r8, r9⟩ := hC
  obtain ⟨m1, m2, m3, m4, m5, m6, m7, m8, m9, m10⟩ := hM
  have v6 := w3.1.2.2.2.2.2.2
  have t7 : h v 0 = nI (V 0 6) := r3.1.1
  have t8 : h 54 2 = nI (V 0 6) := m3.1.1
  -- x is no hour and not -1
  by_cases gx : x = -1 ∨ ck x 96 = true
  · obtain ⟨bt', hb, ex⟩ : ∃ bt', bt' ≤ 96 ∧ x = mI bt' := by
      rcases gx with z | z
      · exact ⟨0, by omega, by rw [z, mI_0]⟩
      · obtain ⟨t, ht, e⟩ := ck_of (by omega) z
        exact ⟨t + 1, by omega, by rw [e, mI_s]⟩
    have f7 : ∀ h, vl (h 0 9) = some v → fX7_bottle h x = if h v 0 = 0 then some ((-1000000003), h) else bn (fX3_noteBottled h (h 3 4)) (fun h5 => some (h 3 4, aU h5 3 4 x)) := by
      intro h hv
      unfold fX7_bottle
      by_cases z : x = -1
      · rw [if_pos z, hv, bn_s]
      · have z2 : ck x 96 = true := by rcases gx with y | y; exact absurd y z; exact y
        rw [if_neg z, isHour7, bn_s, z2, bi_it, hv, bn_s]
    have f8 : ∀ h, fX8_bottle h x = if h 54 2 = 0 then some ((-1000000003), h) else bn (fX8_remember h) (fun h5 => some (h5 55 52, aU h5 55 52 x)) := by
      intro h
      unfold fX8_bottle
      by_cases z : x = -1
      · rw [if_pos z]
      · have z2 : ck x 96 = true := by rcases gx with y | y; exact absurd y z; exact y
        rw [if_neg z, isHour8, bn_s, z2, bi_it]
    by_cases g6 : V 0 6 = 0
    · refine Ok2_same (r := -1000000003) hI ?_ ?_
      · show fX7_bottle h x = _
        rw [f7 h hv, t7, g6]; rfl
      · show fX8_bottle h x = _
        rw [f8 h, t8, g6]; rfl
    · have gne : ¬ nI (V 0 6) = 0 := nI_ne0 (by omega) (by omega)
      obtain ⟨h5, a1, a2, a3⟩ := c_noteBottled r7 w8.1 bt'
      have e7 : fX7_bottle h x = some (mI bt, aU h5 3 4 (mI bt')) := by
        rw [f7 h hv, t7, if_neg gne, r5.2.2.1, a1, bn_s, ex]
      have qm : ∀ k, 54 ≤ k → aU h5 3 4 (mI bt') k = h k := fun k hk => by rw [aU_ne (by omega), a2 k (by omega)]
      obtain ⟨n1, n2, n3, n4, n5, n6, n7, n8, n9, n10⟩ := RM_c hW0 qm hM0
      obtain ⟨h4, b1, b2, b3, b4, b5⟩ := m_remember n4 w4 n7 w8
      have e8 : fX8_bottle (aU h5 3 4 (mI bt')) x = some (mI bt, aU h4 55 52 (mI bt')) := by
        rw [f8, n3.1.1, if_neg gne, b1, bn_s, b4 52 (by omega), ex]
        rw [show aU h5 3 4 (mI bt') 55 52 = mI bt from n4.2.2]
      refine ⟨_, _, _, e7, e8, v, w, tx, ft, V, P, bt', sd, im, pu (P, bt) un, ms, bk, fin6 hC0 hM0 hW0 (h1 := aU h5 3 4 (mI bt')) ?_ ?_ ?_ ?_ ?_ ?_ ?_ ?_ ?_ w4 hb w6 (wfU_pu w8 w4 w5)⟩
      · intro k y z
        rw [aU_ne (by omega), a2 k (by omega)]
      · exact CA_bt bt' (CA_c (fun k _ _ => a2 k (by omega)) r5)
      · exact UnC_c (fun k _ _ => aU_ne (by omega)) a3
      · intro k y z
        rw [aU_ne z, b2 k y z]
      · intro j hj
        rw [aU_ne (by omega), b3 j hj]
      · intro i y z
        simp only [aU_rd]
        rw [if_pos trivial, if_neg (by omega), b4 i (by omega)]
        simp [aU_rd]
      · exact MA_bt bt' w4 (MA_c w4 (fun i hi => b4 _ (by omega)) n4)
      · simp only [aU_rd]
        rw [if_pos trivial, if_neg (by omega), b4 53 (by omega)]
        exact n5
      · exact UnM_c (wfU_pu w8 w4 w5) (by rw [aU_ne (by omega)]) (fun i _ _ => by simp only [aU_rd]; rw [if_pos trivial, if_neg (by omega)]) b5
  · have z1 : ¬ x = -1 := fun z => gx (Or.inl z)
    have z2 : ck x 96 = false := by cases hc : ck x 96 with | false => rfl | true => exact absurd (Or.inr hc) gx
    refine Ok2_same (r := -1000000002) hI ?_ ?_
    · show fX7_bottle h x = _
      unfold fX7_bottle; rw [if_neg z1, isHour7, bn_s, z2]; rfl
    · show fX8_bottle h x = _
      unfold fX8_bottle; rw [if_neg z1, isHour8, bn_s, z2]; rfl
theorem c_append (hA : CA h 3 P bt sd) (hU : UnC h P bt un) (hl : un.length ≤ 30) (hP : wfP V P) {p : Nat} (hp : p < 4) (hlen : (P p).length < 12) (x : Lt) : ∃ h1, fX7_append h (nI p) (nI x.2.1) (nI x.1) (mI x.2.2) = some h1 ∧ (∀ k, k < 3 ∨ 8 ≤ k → k < 18 ∨ 24 ≤ k → h1 k = h k) ∧ CA h1 3 (upP P p (P p ++ [x])) bt sd ∧ UnC h1 (upP P p (P p ++ [x])) bt (pu (P, bt) un) := by
  obtain ⟨h2, a1, a2, a3⟩ := c_put (x := x) hA (fun q => (hP q).1) hp hlen
  obtain ⟨h4, b1, b2, b3⟩ := c_noteAdded (UnC_c (fun k _ _ => a2 k (by omega)) hU) hl hp x
  refine ⟨h4, ?_, fun k y z => by rw [b2 k (by omega), a2 k (by omega)], CA_c (fun k _ _ => b2 k (by omega)) a3, b3⟩
  unfold fX7_append
  rw [a1, bn_s, b1, bn_s]
theorem m_append (hM : MA h 0 P bt) (hP : wfP V P) (hU : UnM h un) (hw : wfU V un) (hbt : bt ≤ 96) {p : Nat} (hp : p < 4) (hl : (P p).length < 12) {x : Lt} (h1 : x.1 < 96) (h2 : x.2.1 < 4) (h3 : x.2.2 ≤ 96) : ∃ h4 h5, fX8_remember h = some h4 ∧ fX8_put h4 (nI p) (nI x.1) (nI x.2.1) (mI x.2.2) = some h5 ∧ h4 55 52 = h 55 52 ∧ (∀ k, k ≠ 54 → k ≠ 55 → h5 k = h k) ∧ (∀ j, j ≠ 25 → h5 54 j = h 54 j) ∧ (∀ i, 52 ≤ i → i < 162 → h5 55 i = h 55 i) ∧ MA h5 0 (upP P p (P p ++ [x])) bt ∧ UnM h5 (pu (P, bt) un) := by
  obtain ⟨h4, b1, b2, b3, b4, b5⟩ := m_remember hM hP hU hw
  obtain ⟨h5, c1, c2, c3, c4⟩ := m_put (x := x) (MA_c hP (fun i hi => b4 _ (by omega)) hM) hP hp hl h1 h2 h3
  refine ⟨h4, h5, b1, c1, b4 52 (by omega), fun k y z => by rw [c2 k z, b2 k y z], fun j hj => by rw [c2 54 (by omega), b3 j hj], fun i y z => by rw [c3 i y, b4 i z], c4, UnM_c (wfU_pu hw hP hbt) (by rw [c2 54 (by omega)]) (fun i y z => c3 i (by omega)) b5⟩
theorem op_add (hC : RC h v w tx ft V P bt sd im un ms bk) (hM : RM h tx ft V P bt sd im un ms bk) (hW : WF v w tx V P bt sd im un ms bk) (x y z u : Int32) : Ok2 h (fun h => fX7_add h x y z u) (fun h => fX8_add h x y z u) := by
  have hI : Inv h := ⟨v, w, tx, ft, V, P, bt, sd, im, un, ms, bk, hC, hM, hW⟩
  have hC0 := hC
  have hM0 := hM
  have hW0 := hW
  obtain ⟨hv, hCV, hCL, hCA, hMV, hMA, hwV, hwP⟩ := RD_of hC hM hW
  obtain ⟨w1, w2, w3, w4, w5, w6, w7, w8, w9, w10⟩ := hW
  obtain ⟨r1, r2, r3, r4, r5, r6, r7, r8, r9⟩ := hC
  obtain ⟨m1, m2, m3, m4, m5, m6, m7, m8, m9, m10⟩ := hM
  have v4 := w3.1.2.2.2.2.1
  have v5 := w3.1.2.2.2.2.2.1
  have t52 : h 55 52 = mI bt := m4.2.2
  cases hx : ck x (V 0 5) with
  | false =>
    refine Ok2_same (r := -1000000001) hI ?_ ?_
    · show fX7_add h x y z u = _
      unfold fX7_add; rw [hv, bn_s, c_hasPaper hCV hwV, bn_s, hx]; rfl
    · show fX8_add h x y z u = _
      unfold fX8_add; rw [m_isPaper hMV hwV, bn_s, hx]; rfl
  | true =>
  cases hy : ck y (V 0 4) with
  | false =>
    refine Ok2_same (r := -1000000001) hI ?_ ?_
    · show fX7_add h x y z u = _
      unfold fX7_add; rw [hv, bn_s, c_hasPaper hCV hwV, bn_s, hx, bi_it, c_hasHand hCV hwV, bn_s, hy]; rfl
    · show fX8_add h x y z u = _
      unfold fX8_add; rw [m_isPaper hMV hwV, bn_s, hx, bi_it, m_isHand hMV hwV, bn_s, hy]; rfl
  | true =>
  cases hz : ck z 96 with
  | false =>
    refine Ok2_same (r := -1000000002) hI ?_ ?_
    · show fX7_add h x y z u = _
      unfold fX7_add; rw [hv, bn_s, c_hasPaper hCV hwV, bn_s, hx, bi_it, c_hasHand hCV hwV, bn_s, hy, bi_it, isHour7, bn_s, hz]; rfl
    · show fX8_add h x y z u = _
      unfold fX8_add; rw [m_isPaper hMV hwV, bn_s, hx, bi_it, m_isHand hMV hwV, bn_s, hy, bi_it, isHour8, bn_s, hz]; rfl
  | true =>
    obtain ⟨p, hp, rfl⟩ := ck_of (by omega) hx
    obtain ⟨a, ha, rfl⟩ := ck_of (by omega) hy
    obtain ⟨t, ht, rfl⟩ := ck_of (by omega) hz
    have h12 := (w4 p).1
    -- the air
    have core : ∀ air, air ≤ 96 → (∀ h, vl (h 0 9) = some v → CV h v V → CA h 3 P bt sd → fX7_add h (nI p) (nI a) (nI t) u = bn (fX0_isFull h 3 (nI p)) (fun r => if bi r = 0 then bn (fX7_append h (nI p) (nI a) (nI t) (mI air)) (fun h16 => bn (fX0_countOf h16 3 (nI p)) (fun r18 => some (r18, h16))) else some ((-1000000004), h))) → (∀ h, MV h V → MA h 0 P bt → (h 55 (tn (48 + nI p)) = 12 → fX8_add h (nI p) (nI a) (nI t) u = some ((-1000000004), h)) ∧ (∀ h14, ¬ h 55 (tn (48 + nI p)) = 12 → fX8_remember h = some h14 → h14 55 52 = mI bt → fX8_add h (nI p) (nI a) (nI t) u = bn (fX8_put h14 (nI p) (nI t) (nI a) (mI air)) (fun h16 => some (h16 55 (tn (48 + nI p)), h16)))) → Ok2 h (fun h => fX7_add h (nI p) (nI a) (nI t) u) (fun h => fX8_add h (nI p) (nI a) (nI t) u) := by
      intro air hair F7 F8
      by_cases g : (P p).length < 12
      · obtain ⟨h1, a1, a2, a3, a4⟩ := c_append r5 r7 w8.1 w4 (p := p) (by omega) g (t, a, air)
        have lenE : (upP P p (P p ++ [(t, a, air)]) p).length = (P p).length + 1 := by rw [upP_p, List.length_append]; rfl
        have e7 : fX7_add h (nI p) (nI a) (nI t) u = some (nI ((P p).length + 1), h1) := by
          rw [F7 h hv hCV hCA]
          unfold fX0_isFull
          rw [c_count r5 (by omega), bn_s, if_pos (show nI _ < 12 from nI_lt (b := 12) g (by omega)), bn_s, bi_if]
          rw [show fX7_append h (nI p) (nI a) (nI t) (mI air) = some h1 from a1, bn_s, c_count a3 (by omega), bn_s, lenE]
        have qm : ∀ k, 54 ≤ k → h1 k = h k := fun k hk => a2 k (by omega) (by omega)
        obtain ⟨n1, n2, n3, n4, n5, n6, n7, n8, n9, n10⟩ := RM_c hW0 qm hM0
        obtain ⟨h4, h5, b1, b2, b3, b4, b5, b6, b7, b8⟩ := m_append n4 w4 n7 w8 w5 (p := p) (by omega) g (x := (t, a, air)) ht (show a < 4 by omega) hair
        have e8 : fX8_add h1 (nI p) (nI a) (nI t) u = some (nI ((P p).length + 1), h5) := by
          rw [(F8 h1 n3 n4).2 h4 (by rw [m_count n4 (by omega)]; exact fun q => by have := (nI_eq (b := 12) (by omega) (by omega)).mp q; omega) b1 (by rw [b3]; exact n4.2.2)]
          rw [show fX8_put h4 (nI p) (nI t) (nI a) (mI air) = some h5 from b2, bn_s, m_count b7 (by omega), lenE]
        exact ⟨_, _, _, e7, e8, v, w, tx, ft, V, _, bt, sd, im, pu (P, bt) un, ms, bk, fin6 hC0 hM0 hW0 (h1 := h1) a2 a3 a4 b4 b5 (fun i y z => b6 i (by omega) z) b7 (by rw [b6 53 (by omega) (by omega)]; exact n5) b8 (wfP_add w4 hp g ⟨ht, ha, hair⟩) w5 w6 (wfU_pu w8 w4 w5)⟩
      · have e12 : (P p).length = 12 := by omega
        refine Ok2_same (r := -1000000004) hI ?_ ?_
        · show fX7_add h (nI p) (nI a) (nI t) u = _
          rw [F7 h hv hCV hCA]
          unfold fX0_isFull
          rw [c_count r5 (by omega), bn_s, e12]; rfl
        · show fX8_add h (nI p) (nI a) (nI t) u = _
          exact (F8 h m3 m4).1 (by rw [m_count m4 (by omega), e12]; rfl)
    by_cases gu : u = 0
    · refine core 0 (by omega) (fun h hv hCV hCA => ?_) (fun h hMV hMA => ?_)
      · unfold fX7_add
        rw [hv, bn_s, c_hasPaper hCV hwV, bn_s, hx, bi_it, c_hasHand hCV hwV, bn_s, hy, bi_it, isHour7, bn_s, hz, bi_it, if_pos gu]
        rfl
      · unfold fX8_add
        rw [m_isPaper hMV hwV, bn_s, hx, bi_it, m_isHand hMV hwV, bn_s, hy, bi_it, isHour8, bn_s, hz, bi_it, if_pos gu, if_pos (ck48 (by omega))]
        exact ⟨fun q => if_pos q, fun h14 q q2 q3 => by rw [if_neg q, q2, bn_s]; rfl⟩
    · by_cases gb : bt = 0
      · refine Ok2_same (r := -1000000003) hI ?_ ?_
        · show fX7_add h _ _ _ u = _
          unfold fX7_add
          rw [hv, bn_s, c_hasPaper hCV hwV, bn_s, hx, bi_it, c_hasHand hCV hwV, bn_s, hy, bi_it, isHour7, bn_s, hz, bi_it, if_neg gu, r5.2.2.1, if_pos ((mI_m1 (by omega)).mpr gb)]
        · show fX8_add h _ _ _ u = _
          unfold fX8_add
          rw [m_isPaper hMV hwV, bn_s, hx, bi_it, m_isHand hMV hwV, bn_s, hy, bi_it, isHour8, bn_s, hz, bi_it, if_neg gu, t52, if_neg (fun q => (mI_nn (by omega)).mp q gb)]
      · refine core bt w5 (fun h hv hCV hCA => ?_) (fun h hMV hMA => ?_)
        · unfold fX7_add
          rw [hv, bn_s, c_hasPaper hCV hwV, bn_s, hx, bi_it, c_hasHand hCV hwV, bn_s, hy, bi_it, isHour7, bn_s, hz, bi_it, if_neg gu, hCA.2.2.1, if_neg (fun q => gb ((mI_m1 (by omega)).mp q))]
        · unfold fX8_add
          rw [m_isPaper hMV hwV, bn_s, hx, bi_it, m_isHand hMV hwV, bn_s, hy, bi_it, isHour8, bn_s, hz, bi_it, if_neg gu, show h 55 52 = mI bt from hMA.2.2, if_pos ((mI_nn (by omega)).mpr gb), if_pos (ck48 (by omega))]
          exact ⟨fun q => if_pos q, fun h14 q q2 q3 => by rw [if_neg q, q2, bn_s, q3]⟩
theorem op_blot (hC : RC h v w tx ft V P bt sd im un ms bk) (hM : RM h tx ft V P bt sd im un ms bk) (hW : WF v w tx V P bt sd im un ms bk) (x : Int32) : Ok2 h (fun h => fX7_blot h x) (fun h => fX8_blot h x) := by
  have hI : Inv h := ⟨v, w, tx, ft, V, P, bt, sd, im, un, ms, bk, hC, hM, hW⟩
  have hC0 := hC
  have hM0 := hM
  have hW0 := hW
  obtain ⟨hv, hCV, hCL, hCA, hMV, hMA, hwV, hwP⟩ := RD_of hC hM hW
  obtain ⟨w1, w2, w3, w4, w5, w6, w7, w8, w9, w10⟩ := hW
  obtain ⟨r1, r2, r3, r4, r5, r6, r7, r8, r9⟩ := hC
  obtain ⟨m1, m2, m3, m4, m5, m6, m7, m8, m9, m10⟩ := hM
  have v5 := w3.1.2.2.2.2.2.1
  cases hx : ck x (V 0 5) with
  | false =>
    refine Ok2_same (r := -1000000001) hI ?_ ?_
    · show fX7_blot h x = _
      unfold fX7_blot; rw [hv, bn_s, c_hasPaper hCV hwV, bn_s, hx]; rfl
    · show fX8_blot h x = _
      unfold fX8_blot; rw [m_isPaper hMV hwV, bn_s, hx]; rfl
  | true =>
    obtain ⟨p, hp, rfl⟩ := ck_of (by omega) hx
    have h12 := (w4 p).1
    have hp4 : p < 4 := by omega
    rcases List.eq_nil_or_concat (P p) with e | ⟨L, y, e⟩
    · refine Ok2_same (r := -1000000003) hI ?_ ?_
      · show fX7_blot h (nI p) = _
        unfold fX7_blot; rw [hv, bn_s, c_hasPaper hCV hwV, bn_s, hx, bi_it, c_count r5 hp4, bn_s, e]; rfl
      · show fX8_blot h (nI p) = _
        unfold fX8_blot; rw [m_isPaper hMV hwV, bn_s, hx, bi_it, if_pos (ck48 hp4), m_count m4 hp4, e]; rfl
    · rw [List.concat_eq_append] at e
      have len : (P p).length = L.length + 1 := by rw [e, List.length_append]; rfl
      have hy : (P p)[L.length]? = some y := by rw [e, List.getElem?_append_right (by omega)]; simp
      obtain ⟨h1, a1, a2, a3⟩ := c_noteBlotted r7 w8.1 hp4 e
      obtain ⟨h2, b1, b2, b3⟩ := c_dropLast (CA_c (fun k _ _ => a2 k (by omega)) r5) h12 hp4 e
      have e7 : fX7_blot h (nI p) = some (nI (loS V y), h2) := by
        unfold fX7_blot
        rw [hv, bn_s, c_hasPaper hCV hwV, bn_s, hx, bi_it, c_count r5 hp4, bn_s, len, nI_pred, if_pos (nI_pos' (by omega)), c_lookOf hCV hCL hwV hwP hCA hy, bn_s, c_writer hCA hp4 h12 hy, bn_s, c_hour hCA hp4 h12 hy, bn_s, c_air hCA hp4 h12 hy, bn_s, a1, bn_s, b1, bn_s]
      have qm : ∀ k, 54 ≤ k → h2 k = h k := fun k hk => by rw [b2 k (by omega), a2 k (by omega)]
      obtain ⟨n1, n2, n3, n4, n5, n6, n7, n8, n9, n10⟩ := RM_c hW0 qm hM0
      obtain ⟨h4, f1, f2, f3, f4, f5⟩ := m_remember n4 w4 n7 w8
      have M4 : MA h4 0 P bt := MA_c w4 (fun i hi => f4 _ (by omega)) n4
      have V4 : MV h4 V := MV_c (f3 2 (by omega)) (f3 6 (by omega)) (f3 11 (by omega)) (f3 16 (by omega)) (fun k _ _ => f2 k (by omega) (by omega)) n3
      have t4 : tn (48 + nI p) = 48 + p := by rw [show 48 + nI p = nI (48 + p) from nI_add 48 p, tn_nI (by omega)]
      have q5 : ∀ k, k ≠ 55 → aU h4 55 (48 + p) (nI L.length) k = h4 k := fun k hk => aU_ne hk
      -- the look is told behind the drop: the number itself still lies
      have lk5 : fX8_lookOf (aU h4 55 (48 + p) (nI L.length)) (nI p) (nI L.length) = some (nI (loS V y)) := by
        have V5 : MV (aU h4 55 (48 + p) (nI L.length)) V := MV_c (by rw [q5 54 (by omega)]) (by rw [q5 54 (by omega)]) (by rw [q5 54 (by omega)]) (by rw [q5 54 (by omega)]) (fun k _ _ => q5 k (by omega)) V4
        have b := wfP_at w4 hy
        refine m_lookN V5 hwV (x := y) b.1 (by omega) (by omega) ?_
        have := M4.2.1 p hp4 L.length y hy
        rw [Nat.zero_add] at this
        simp only [aU_rd]
        rw [if_pos trivial, if_neg (by omega)]; exact this
      have e8 : fX8_blot h2 (nI p) = some (nI (loS V y), aU h4 55 (48 + p) (nI L.length)) := by
        unfold fX8_blot
        rw [m_isPaper n3 hwV, bn_s, hx, bi_it, if_pos (ck48 hp4), m_count n4 hp4, if_neg (nI_ne0 (by omega) (by omega)), f1, bn_s, m_count M4 hp4, len, nI_pred, t4, lk5, bn_s]
      refine ⟨_, _, _, e7, e8, v, w, tx, ft, V, upP P p L, bt, sd, im, pu (P, bt) un, ms, bk, fin6 hC0 hM0 hW0 (h1 := h2) ?_ b3 (UnC_c (fun k _ _ => b2 k (by omega)) a3) ?_ ?_ ?_ ?_ ?_ ?_ (wfP_drop w4 e) w5 w6 (wfU_pu w8 w4 w5)⟩
      · intro k y z
        rw [b2 k (by omega), a2 k (by omega)]
      · intro k y z
        rw [q5 k z, f2 k y z]
      · intro j hj
        rw [q5 54 (by omega), f3 j hj]
      · intro i y z
        simp only [aU_rd]
        rw [if_pos trivial, if_neg (by omega), f4 i (by omega)]
      · refine ⟨fun q hq => ?_, fun q hq l u hu => ?_, ?_⟩
        · rw [Nat.zero_add]
          by_cases z : q = p
          · subst z; rw [upP_p]; simp [aU_rd]
          · rw [upP_ne _ _ z]
            have := M4.1 q hq
            rw [Nat.zero_add] at this
            simp [aU_rd, z, this]
        · rw [Nat.zero_add]
          have hu2 : (P q)[l]? = some u := by
            by_cases z : q = p
            · subst z
              rw [upP_p] at hu
              rw [e, List.getElem?_append_left (List.getElem?_eq_some_iff.mp hu).1, hu]
            · rw [upP_ne _ _ z] at hu; exact hu
          have b := wfP_at w4 hu2
          have := M4.2.1 q hq l u hu2
          rw [Nat.zero_add] at this
          simp only [aU_rd]
          rw [if_pos trivial, if_neg (by omega)]; exact this
        · have := M4.2.2
          simp only [aU_rd]
          rw [if_pos trivial, if_neg (by omega)]; exact this
      · simp only [aU_rd]
        rw [if_pos trivial, if_neg (by omega), f4 53 (by omega)]; exact n5
      · exact UnM_c (wfU_pu w8 w4 w5) (by rw [q5 54 (by omega)]) (fun i _ _ => by simp only [aU_rd]; rw [if_pos trivial, if_neg (by omega)]) f5
end Ops6
