/-! tear, undo, drift -/
theorem rng30 (x : Int32) : (∃ n, 1 ≤ n ∧ n ≤ 30 ∧ x = nI n) ∨ ((x < 1 ∨ ¬ x ≤ 30) ∧ fX8_in (Int32.toInt64 x) 1 30 = some false) := by
  have e1 : (1 : Int32).toInt = 1 := rfl
  have e30 : (30 : Int32).toInt = 30 := rfl
  have ei : fX8_in (Int32.toInt64 x) 1 30 = some (decide (1 ≤ x ∧ x ≤ 30)) := in32 x 1 30
  by_cases g1 : x < 1
  · right
    refine ⟨Or.inl g1, ?_⟩
    rw [ei, decide_eq_false]
    intro z
    have z1 := z.1
    rw [fa_le] at z1
    rw [fa_lt] at g1
    omega
  · by_cases g2 : x ≤ 30
    · left
      rw [fa_lt] at g1
      rw [fa_le] at g2
      obtain ⟨n, hn, rfl⟩ := nn_of (x := x) (by rw [fa_le]; show (0 : Int) ≤ _; omega)
      rw [nI_toInt hn] at g1 g2
      exact ⟨n, by omega, by omega, rfl⟩
    · right
      refine ⟨Or.inr g2, ?_⟩
      rw [ei, decide_eq_false]
      exact fun z => g2 z.2
theorem in30 {n : Nat} (h1 : 1 ≤ n) (h2 : n ≤ 30) : fX8_in (Int32.toInt64 (nI n)) 1 30 = some true := by
  have ei : fX8_in (Int32.toInt64 (nI n)) 1 30 = some (decide (1 ≤ nI n ∧ nI n ≤ 30)) := in32 (nI n) 1 30
  rw [ei, decide_eq_true]
  exact ⟨nI_le (a := 1) h1 (by omega), nI_le (b := 30) h2 (by omega)⟩
def bcv (x : Int32) : Int32 := (fJ6_bitCount_0f7a4 x).getD 0
theorem bcv_e (x : Int32) : fJ6_bitCount_0f7a4 x = some (bcv x) := rfl
theorem ck4 {p : Nat} (h : p < 4) : ck (nI p) 4 = true := ck_t h (by omega)
theorem c_dropM (h : aH) : ∃ h2, fX7_dropMeasures h = some (0 + bcv (h 35 0) + bcv (h 35 1) + bcv (h 35 2) + bcv (h 35 3), h2) ∧ (∀ k, k ≠ 35 → h2 k = h k) ∧ MsC h2 (fun _ => 0) := by
  refine ⟨aU (aU (aU (aU h 35 0 0) 35 1 0) 35 2 0) 35 3 0, ?_, fun k hk => by rw [aU_ne hk, aU_ne hk, aU_ne hk, aU_ne hk], fun p hp => ?_⟩
  · unfold fX7_dropMeasures
    rw [fX7_dropMeasures_L4, if_neg (by decide), if_pos (by decide), bcv_e, bn_s, fX7_dropMeasures_L4, if_neg (by decide), if_pos (by decide), bcv_e, bn_s, fX7_dropMeasures_L4, if_neg (by decide), if_pos (by decide), bcv_e, bn_s, fX7_dropMeasures_L4, if_neg (by decide), if_pos (by decide), bcv_e, bn_s, fX7_dropMeasures_L4, if_pos (by decide)]
    rfl
  · simp only [aU_rd]
    rcases (by omega : p = 0 ∨ p = 1 ∨ p = 2 ∨ p = 3) with rfl | rfl | rfl | rfl <;> rfl
section Ops7
variable {h : aH} {v w : Nat} {tx : List Nat} {ft : Int32} {V : Vd} {P : Ps} {bt sd : Nat} {im : Im} {un : Un} {ms : Nat → Nat} {bk : Bk}
theorem m_tear (hm : MsM h ms) (hw : wfM ms) : ∃ h2, fX8_tear h = some (h 54 32 + bcv (nI (ms 0)) + bcv (nI (ms 1)) + bcv (nI (ms 2)) + bcv (nI (ms 3)), h2) ∧ (∀ k, k ≠ 66 → k ≠ 54 → h2 k = h k) ∧ (∀ j, j ≠ 32 → h2 54 j = h 54 j) ∧ h2 54 32 = 0 ∧ MsM h2 (fun _ => 0) := by
  have ob : ∀ p, p < 4 → fX8_ones (nI (ms p)) = some (bcv (nI (ms p))) := fun p _ => by rw [bc_ones _ (hw p), bcv_e]
  refine ⟨aU (aU (aU (aU (aU h 66 0 0) 66 1 0) 66 2 0) 66 3 0) 54 32 0, ?_, fun k hk hk2 => by rw [aU_ne hk2, aU_ne hk, aU_ne hk, aU_ne hk, aU_ne hk], fun j hj => ?_, ?_, fun p hp => ?_⟩
  · unfold fX8_tear
    have t0 : tn 0 = 0 := rfl
    have t1 : tn (0 + 1) = 1 := rfl
    have t2 : tn (0 + 1 + 1) = 2 := rfl
    have t3 : tn (0 + 1 + 1 + 1) = 3 := rfl
    rw [fX8_tear_L7, if_neg (by decide), if_pos (by decide), t0, hm 0 (by omega), ob 0 (by omega), bn_s, fX8_tear_L7, if_neg (by decide), if_pos (by decide), t1, show aU h 66 0 0 66 1 = h 66 1 from rfl, hm 1 (by omega), ob 1 (by omega), bn_s, fX8_tear_L7, if_neg (by decide), if_pos (by decide), t2, show aU (aU h 66 0 0) 66 1 0 66 2 = h 66 2 from rfl, hm 2 (by omega), ob 2 (by omega), bn_s, fX8_tear_L7, if_neg (by decide), if_pos (by decide), t3, show aU (aU (aU h 66 0 0) 66 1 0) 66 2 0 66 3 = h 66 3 from rfl, hm 3 (by omega), ob 3 (by omega), bn_s, fX8_tear_L7, if_pos (by decide)]
  · simp [aU_rd, hj]
  · simp [aU_rd]
  · simp only [aU_rd]
    rcases (by omega : p = 0 ∨ p = 1 ∨ p = 2 ∨ p = 3) with rfl | rfl | rfl | rfl <;> rfl
theorem op_tear (hC : RC h v w tx ft V P bt sd im un ms bk) (hM : RM h tx ft V P bt sd im un ms bk) (hW : WF v w tx V P bt sd im un ms bk) : Ok2 h fX7_tear fX8_tear := by
  have hM0 := hM
  have hW0 := hW
  obtain ⟨w1, w2, w3, w4, w5, w6, w7, w8, w9, w10⟩ := hW
  obtain ⟨r1, r2, r3, r4, r5, r6, r7, r8, r9⟩ := hC
  obtain ⟨h1, a1, a2, a3⟩ := c_dropM h
  have e7 : fX7_tear h = some (nI bk.length + bcv (nI (ms 0)) + bcv (nI (ms 1)) + bcv (nI (ms 2)) + bcv (nI (ms 3)), aU h1 24 3 0) := by
    unfold fX7_tear
    rw [a1, bn2_s, r9.1, r8 0 (by omega), r8 1 (by omega), r8 2 (by omega), r8 3 (by omega), Int32.zero_add]
    simp only [Int32.add_assoc]
  have qm : ∀ k, 54 ≤ k → aU h1 24 3 0 k = h k := fun k hk => by rw [aU_ne (by omega), a2 k (by omega)]
  obtain ⟨m1, m2, m3, m4, m5, m6, m7, m8, m9, m10⟩ := RM_c hW0 qm hM0
  obtain ⟨h2, b1, b2, b3, b4, b5⟩ := m_tear m8 w9
  rw [m9.1] at b1
  have g : ∀ k, k < 54 → k ≠ 24 → k ≠ 35 → h2 k = h k := fun k x y z => by rw [b2 k (by omega) (by omega), aU_ne y, a2 k z]
  refine ⟨_, _, _, e7, b1, v, w, tx, ft, V, P, bt, sd, im, un, fun _ => 0, [], ?_, ?_, ⟨w1, w2, w3, w4, w5, w6, w7, w8, fun _ => by show 0 < 4096; omega, ⟨Nat.zero_le _, fun x hx => absurd hx (List.not_mem_nil)⟩⟩⟩
  · refine ⟨by rw [g 0 (by omega) (by omega) (by omega)]; exact r1, TxC_c (g 1 (by omega) (by omega) (by omega)) (g 2 (by omega) (by omega) (by omega)) r2, CV_c (fun k _ _ => g k (by omega) (by omega) (by omega)) r3, CL_c (g _ (by omega) (by omega) (by omega)) r4, CA_c (fun k _ _ => g k (by omega) (by omega) (by omega)) r5, ImC_c (fun k _ _ => g k (by omega) (by omega) (by omega)) r6, UnC_c (fun k _ _ => g k (by omega) (by omega) (by omega)) r7, MsC_c (by rw [b2 35 (by omega) (by omega), aU_ne (by omega)]) a3, ⟨by rw [b2 24 (by omega) (by omega)]; simp [aU_rd]; rfl, fun k x hx => by cases hx⟩⟩
  · have gm : ∀ k, 55 ≤ k → k ≠ 66 → h2 k = aU h1 24 3 0 k := fun k x y => b2 k y (by omega)
    exact ⟨by rw [b3 23 (by omega)]; exact m1, TxM_c (b3 19 (by omega)) (gm 65 (by omega) (by omega)) m2, MV_c (b3 2 (by omega)) (b3 6 (by omega)) (b3 11 (by omega)) (b3 16 (by omega)) (fun k _ _ => gm k (by omega) (by omega)) m3, MA_c w4 (fun i _ => by rw [gm 55 (by omega) (by omega)]) m4, by rw [gm 55 (by omega) (by omega)]; exact m5, ImM_c w7 (gm 56 (by omega) (by omega)) (fun i _ _ => by rw [gm 55 (by omega) (by omega)]) m6, UnM_c w8 (b3 25 (by omega)) (fun i _ _ => by rw [gm 55 (by omega) (by omega)]) m7, b5, ⟨b4, fun k x hx => by cases hx⟩, fun j hj => by rw [gm 68 (by omega) (by omega)]; exact m10 j hj⟩
theorem wfU_drop {n : Nat} (hU : wfU V un) : wfU V (un.drop n) := ⟨by rw [List.length_drop]; have := hU.1; omega, fun S hS => hU.2 S (List.mem_of_mem_drop hS)⟩
theorem c_undoL {n : Nat} (hn : n ≤ 30) (K : aH → Option (Int32 × aH)) : ∀ d k fuel (h : aH) (P : Ps) (bt : Nat) (un : Un), k + d = n → d < fuel → d ≤ un.length → CA h 3 P bt sd → wfP V P → wfU V un → UnC h P bt un → ∃ h1 P' bt', fX7_undo_L30 K (nI n) fuel h (nI k) = K h1 ∧ ((P, bt) :: un)[d]? = some (P', bt') ∧ (∀ k, k < 3 ∨ 8 ≤ k → k ≠ 18 → h1 k = h k) ∧ CA h1 3 P' bt' sd ∧ UnC h1 P' bt' (un.drop d)
  | d, k, 0, _, _, _, _, _, hf, _, _, _, _, _ => absurd hf (by omega)
  | 0, k, f + 1, h, P, bt, un, hk, hf, hd, hA, hP, hw, hU => by
    refine ⟨h, P, bt, ?_, rfl, fun _ _ _ => rfl, hA, hU⟩
    rw [fX7_undo_L30, if_pos (nI_le (by omega) (by omega))]
  | d + 1, k, f + 1, h, P, bt, un, hk, hf, hd, hA, hP, hw, hU => by
    cases un with
    | nil => exact absurd hd (by simp)
    | cons S un =>
      obtain ⟨P2, bt2⟩ := S
      have hl : un.length + 1 ≤ 30 := hw.1
      have hd : d + 1 ≤ un.length + 1 := hd
      have hP2 : wfP V P2 := (hw.2 (P2, bt2) (List.mem_cons_self ..)).1
      obtain ⟨h1, a1, a2, a3, a4⟩ := c_back hA hP hP2 (by omega) hU
      obtain ⟨h3, P', bt', b1, b2, b3, b4, b5⟩ := c_undoL hn K d (k + 1) f h1 P2 bt2 un (by omega) (by omega) (by omega) a3 hP2 ⟨by omega, fun S hS => hw.2 S (List.mem_cons_of_mem _ hS)⟩ a4
      refine ⟨h3, P', bt', ?_, b2, fun k x y => by rw [b3 k x y, a2 k x y], b4, b5⟩
      rw [fX7_undo_L30, if_neg (nI_ge (by omega) (by omega)), a1, bn_s, nI_1]
      exact b1
theorem op_undo (hC : RC h v w tx ft V P bt sd im un ms bk) (hM : RM h tx ft V P bt sd im un ms bk) (hW : WF v w tx V P bt sd im un ms bk) (x : Int32) : Ok2 h (fun h => fX7_undo h x) (fun h => fX8_undo h x) := by
  have hI : Inv h := ⟨v, w, tx, ft, V, P, bt, sd, im, un, ms, bk, hC, hM, hW⟩
  have hC0 := hC
  have hM0 := hM
  have hW0 := hW
  obtain ⟨w1, w2, w3, w4, w5, w6, w7, w8, w9, w10⟩ := hW
  obtain ⟨r1, r2, r3, r4, r5, r6, r7, r8, r9⟩ := hC
  obtain ⟨m1, m2, m3, m4, m5, m6, m7, m8, m9, m10⟩ := hM
  have u6 : h 18 6 = nI un.length := by obtain ⟨_, _, _, z, _⟩ := r7; exact z
  have u30 := w8.1
  rcases rng30 x with ⟨n, n1, n30, rfl⟩ | ⟨g, g2⟩
  · by_cases gl : n ≤ un.length
    · obtain ⟨h1, P', bt', a1, a2, a3, a4, a5⟩ := c_undoL n30 (fun h7 => bn (fX0_countAll h7 3) (fun r9 => some (r9, h7))) n 0 1000 h P bt un (by omega) (by omega) gl r5 w4 w8 r7
      obtain ⟨m, rfl⟩ : ∃ m, n = m + 1 := ⟨n - 1, by omega⟩
      have a2 : un[m]? = some (P', bt') := a2
      have wS := w8.2 _ (List.mem_of_getElem? a2)
      have e7 : fX7_undo h (nI (m + 1)) = some (nI (sm P' 4), h1) := by
        unfold fX7_undo
        rw [if_neg (show ¬ nI (m + 1) < 1 from nI_nlt (b := 1) (by omega) (by omega)), if_pos (show nI _ ≤ 30 from nI_le (b := 30) n30 (by omega)), u6, if_pos (nI_le gl (by omega))]
        refine Eq.trans a1 ?_
        show bn (fX0_countAll h1 3) _ = _
        rw [c_all a4 wS.1, bn_s]
      have qm : ∀ k, 54 ≤ k → h1 k = h k := fun k hk => a3 k (by omega) (by omega)
      obtain ⟨k1, k2, k3, k4, k5, k6, k7, k8, k9, k10⟩ := RM_c hW0 qm hM0
      obtain ⟨h6, b1, b2, b3, b4⟩ := m_copy (a := 162 + 54 * (un.length - (m + 1))) (b := 0) (by omega) (by omega) (by omega) (aU h1 54 25 (nI (un.length - (m + 1))))
      have s5 : h1 55 53 = nI sd := k5
      have z0 : ∀ i, i ≠ 53 → aU h6 55 53 (nI sd) 55 i = h6 55 i := fun i hi => by simp [aU_rd, hi]
      have zz : ∀ k, k ≠ 55 → aU h6 55 53 (nI sd) k = h6 k := fun k hk => aU_ne hk
      have z54 : ∀ j, j ≠ 25 → h6 54 j = h1 54 j := fun j hj => by rw [b2 54 (by omega)]; simp [aU_rd, hj]
      have MAf : MA (aU h6 55 53 (nI sd)) 0 P' bt' := by
        have := k7.2 m (P', bt') a2
        refine MA_t wS.1 (fun i hi => ?_) this
        have q := b4 i (by omega)
        rw [Nat.zero_add] at q ⊢
        rw [z0 i (by omega), q, aU_ne (by omega), show un.length - 1 - m = un.length - (m + 1) by omega]
      have MVf : MV (aU h6 55 53 (nI sd)) V := MV_c (by rw [zz 54 (by omega), z54 2 (by omega)]) (by rw [zz 54 (by omega), z54 6 (by omega)]) (by rw [zz 54 (by omega), z54 11 (by omega)]) (by rw [zz 54 (by omega), z54 16 (by omega)]) (fun k _ _ => by rw [zz k (by omega), b2 k (by omega), aU_ne (by omega)]) k3
      have e8 : fX8_undo h1 (nI (m + 1)) = some (nI (sm P' 4), aU h6 55 53 (nI sd)) := by
        unfold fX8_undo
        rw [in30 (by omega) (by omega), bn_s, bi_it, k7.1, if_pos (nI_le gl (by omega)), pk_sub gl, off54]
        rw [show fX8_copy (aU h1 54 25 (nI (un.length - (m + 1)))) (nI (162 + 54 * (un.length - (m + 1)))) 0 = some h6 from b1, bn_s, s5, m_all MVf MAf w3 wS.1, bn_s]
      refine ⟨_, _, _, e7, e8, v, w, tx, ft, V, P', bt', sd, im, un.drop (m + 1), ms, bk, fin6 hC0 hM0 hW0 (h1 := h1) (fun k x y => a3 k x (by omega)) a4 a5 ?_ ?_ ?_ MAf ?_ ?_ wS.1 wS.2 w6 (wfU_drop w8)⟩
      · intro k x y
        rw [zz k y, b2 k y, aU_ne x]
      · intro j hj
        rw [zz 54 (by omega), z54 j hj]
      · intro i x y
        rw [z0 i (by omega), b3 i (by omega), aU_ne (by omega)]
      · simp [aU_rd]
      · refine ⟨?_, fun j S hS => ?_⟩
        · rw [zz 54 (by omega), b2 54 (by omega), List.length_drop]; simp [aU_rd]
        · rw [List.getElem?_drop] at hS
          have hj := (List.getElem?_eq_some_iff.mp hS).1
          have := k7.2 _ S hS
          rw [List.length_drop]
          refine MA_t (o := 162 + 54 * (un.length - 1 - (m + 1 + j))) (w8.2 S (List.mem_of_getElem? hS)).1 (fun i hi => ?_) this
          rw [z0 _ (by omega), b3 _ (by omega), aU_ne (by omega), show un.length - (m + 1) - 1 - j = un.length - 1 - (m + 1 + j) by omega]
    · refine Ok2_same (r := -1000000003) hI ?_ ?_
      · show fX7_undo h (nI n) = _
        unfold fX7_undo
        rw [if_neg (show ¬ nI n < 1 from nI_nlt (b := 1) (by omega) (by omega)), if_pos (show nI _ ≤ 30 from nI_le (b := 30) n30 (by omega)), u6, if_neg (nI_ge (by omega) (by omega))]
      · show fX8_undo h (nI n) = _
        unfold fX8_undo
        rw [in30 n1 n30, bn_s, bi_it, m7.1, if_neg (nI_ge (by omega) (by omega))]
  · refine Ok2_same (r := -1000000002) hI ?_ ?_
    · show fX7_undo h x = _
      unfold fX7_undo
      by_cases g1 : x < 1
      · rw [if_pos g1]
      · rw [if_neg g1, if_neg (by rcases g with z | z; exact absurd z g1; exact z)]
    · show fX8_undo h x = _
      unfold fX8_undo
      rw [g2]; rfl
/-! drift -/
def nx (s : Nat) : Nat := (s * 1103515245 + 12345) % 2147483648
theorem nx_lt (s : Nat) : nx s < 2 ^ 31 := Nat.mod_lt _ (by omega)
theorem draw_e {s : Nat} (hs : s < 2 ^ 31) : Int64.toInt32 (rmdL ((Int32.toInt64 (nI s) * 1103515245) + 12345) 2147483648) = nI (nx s) := by
  rw [nI_l hs, show (1103515245 : Int64) = lN 1103515245 from rfl, show (12345 : Int64) = lN 12345 from rfl, show (2147483648 : Int64) = lN 2147483648 from rfl, lN_mul, lN_add]
  unfold rmdL
  rw [pk_lRem (by omega) (by omega) (by omega), lN_i]
  rfl
theorem draw_r {s n : Nat} (h1 : 1 ≤ n) (h2 : n ≤ 96) : rmd (nI (nx s) / 65536) (nI n) = nI (nx s / 65536 % n) := by
  have := nx_lt s
  rw [show nI (nx s) / 65536 = nI (nx s / 65536) from pk_div (d := 65536) (by omega) (by omega) (by omega)]
  exact rmd_nI (by omega) (by omega) (by omega)
theorem c_draw (hA : CA h 3 P bt sd) (hs : sd < 2 ^ 31) {n : Nat} (h1 : 1 ≤ n) (h2 : n ≤ 96) : fX0_draw h 3 (nI n) = some (nI (nx sd / 65536 % n), aU h 3 5 (nI (nx sd))) := by
  unfold fX0_draw
  rw [if_pos (show 1 ≤ nI n from nI_le (a := 1) h1 (by omega)), if_pos (nI_ne0 (by omega) (by omega)), hA.2.2.2, draw_e hs, draw_r h1 h2]
theorem m_draw (hA : h 55 53 = nI sd) (hs : sd < 2 ^ 31) {n : Nat} (h1 : 1 ≤ n) (h2 : n ≤ 96) : fX8_draw h (nI n) = some (nI (nx sd / 65536 % n), aU h 55 53 (nI (nx sd))) := by
  unfold fX8_draw
  rw [if_pos (nI_ne0 (by omega) (by omega)), hA, draw_e hs, draw_r h1 h2]
def dst (V : Vd) (bt : Nat) : Nat → Ps → Nat → Un → Ps × Nat × Un
  | 0, P, s, un => (P, s, un)
  | d + 1, P, s, un => if (P (nx s / 65536 % V 0 5)).length < 12 then dst V bt d (upP P (nx s / 65536 % V 0 5) (P (nx s / 65536 % V 0 5) ++ [(nx (nx (nx s)) / 65536 % 96, nx (nx s) / 65536 % V 0 4, 0)])) (nx (nx (nx s))) (pu (P, bt) un) else dst V bt d P (nx (nx (nx s))) un
theorem dst_wf (hw4 : 1 ≤ V 0 4) (hw5 : 1 ≤ V 0 5) (hb : bt ≤ 96) : ∀ d P s un, wfP V P → s < 2 ^ 31 → wfU V un → wfP V (dst V bt d P s un).1 ∧ (dst V bt d P s un).2.1 < 2 ^ 31 ∧ wfU V (dst V bt d P s un).2.2
  | 0, P, s, un, h1, h2, h3 => ⟨h1, h2, h3⟩
  | d + 1, P, s, un, h1, h2, h3 => by
    unfold dst
    by_cases g : (P (nx s / 65536 % V 0 5)).length < 12
    · rw [if_pos g]
      exact dst_wf hw4 hw5 hb d _ _ _ (wfP_add h1 (Nat.mod_lt _ (by omega)) g ⟨Nat.mod_lt _ (by omega), Nat.mod_lt _ (by omega), Nat.zero_le _⟩) (nx_lt _) (wfU_pu h3 h1 hb)
    · rw [if_neg g]
      exact dst_wf hw4 hw5 hb d _ _ _ h1 (nx_lt _) h3
theorem c_driftL {n : Nat} (hn : n ≤ 30) (hv36 : v = 36 ∨ v = 45) (hwV : wfV V) (hw4 : 1 ≤ V 0 4) (hw5 : 1 ≤ V 0 5) (hb : bt ≤ 96) (K : aH → Option (Int32 × aH)) : ∀ d k fuel (h : aH) (P : Ps) (s : Nat) (un : Un), k + d = n → d < fuel → vl (h 0 9) = some v → CV h v V → CA h 3 P bt s → UnC h P bt un → wfP V P → s < 2 ^ 31 → wfU V un → ∃ h1, fX7_drift_L41 K (nI n) fuel h (nI k) = K h1 ∧ (∀ k, k < 3 ∨ 8 ≤ k → k < 18 ∨ 24 ≤ k → h1 k = h k) ∧ CA h1 3 (dst V bt d P s un).1 bt (dst V bt d P s un).2.1 ∧ UnC h1 (dst V bt d P s un).1 bt (dst V bt d P s un).2.2
  | d, k, 0, _, _, _, _, _, hf, _, _, _, _, _, _, _ => absurd hf (by omega)
  | 0, k, f + 1, h, P, s, un, hk, hf, hvl, hC, hA, hU, hP, hs, hw => by
    refine ⟨h, ?_, fun _ _ _ => rfl, hA, hU⟩
    rw [fX7_drift_L41, if_pos (nI_le (by omega) (by omega))]
  | d + 1, k, f + 1, h, P, s, un, hk, hf, hvl, hC, hA, hU, hP, hs, hw => by
    have v4 := hwV.1.2.2.2.2.1
    have v5 := hwV.1.2.2.2.2.2.1
    have c5 : h v 5 = nI (V 0 4) := hC.1.2.2.2.2.2.1
    have c6 : h v 6 = nI (V 0 5) := hC.1.2.2.2.2.2.2
    have A1 := CA_sd (nx s) hA
    have A2 := CA_sd (nx (nx s)) A1
    have A3 := CA_sd (nx (nx (nx s))) A2
    have hp : nx s / 65536 % V 0 5 < V 0 5 := Nat.mod_lt _ (by omega)
    have hq : nx (nx s) / 65536 % V 0 4 < V 0 4 := Nat.mod_lt _ (by omega)
    have q3 : ∀ k, k ≠ 3 → aU (aU (aU h 3 5 (nI (nx s))) 3 5 (nI (nx (nx s)))) 3 5 (nI (nx (nx (nx s)))) k = h k := fun k hk => by rw [aU_ne hk, aU_ne hk, aU_ne hk]
    have red : fX7_drift_L41 K (nI n) (f + 1) h (nI k) = bn (fX0_isFull (aU (aU (aU h 3 5 (nI (nx s))) 3 5 (nI (nx (nx s)))) 3 5 (nI (nx (nx (nx s))))) 3 (nI (nx s / 65536 % V 0 5))) (fun r19 => if bi r19 = 0 then bn (fX7_append (aU (aU (aU h 3 5 (nI (nx s))) 3 5 (nI (nx (nx s)))) 3 5 (nI (nx (nx (nx s))))) (nI (nx s / 65536 % V 0 5)) (nI (nx (nx s) / 65536 % V 0 4)) (nI (nx (nx (nx s)) / 65536 % 96)) (-1)) (fun h22 => fX7_drift_L41 K (nI n) f h22 (nI k + 1)) else fX7_drift_L41 K (nI n) f (aU (aU (aU h 3 5 (nI (nx s))) 3 5 (nI (nx (nx s)))) 3 5 (nI (nx (nx (nx s))))) (nI k + 1)) := by
      rw [fX7_drift_L41, if_neg (nI_ge (by omega) (by omega)), hvl, bn_s, c6, c_draw hA hs (by omega) (by omega), bn2_s, aU_ne (show 0 ≠ 3 by omega), hvl, bn_s, aU_ne (show v ≠ 3 by omega), c5, c_draw A1 (nx_lt s) (by omega) (by omega), bn2_s]
      rw [show fX0_draw (aU (aU h 3 5 (nI (nx s))) 3 5 (nI (nx (nx s)))) 3 96 = _ from c_draw (n := 96) A2 (nx_lt _) (by omega) (by omega), bn2_s]
    rw [red]
    generalize hh : aU (aU (aU h 3 5 (nI (nx s))) 3 5 (nI (nx (nx s)))) 3 5 (nI (nx (nx (nx s)))) = h9 at A3 q3
    have U3 : UnC h9 P bt un := UnC_c (fun k _ _ => q3 k (by omega)) hU
    unfold fX0_isFull dst
    rw [c_count A3 (by omega), bn_s]
    by_cases g : (P (nx s / 65536 % V 0 5)).length < 12
    · obtain ⟨h1, a1, a2, a3, a4⟩ := c_append A3 U3 hw.1 hP (p := nx s / 65536 % V 0 5) (by omega) g (nx (nx (nx s)) / 65536 % 96, nx (nx s) / 65536 % V 0 4, 0)
      obtain ⟨h2, b1, b2, b3, b4⟩ := c_driftL hn hv36 hwV hw4 hw5 hb K d (k + 1) f h1 _ (nx (nx (nx s))) _ (by omega) (by omega) (by rw [a2 0 (by omega) (by omega), q3 0 (by omega)]; exact hvl) (CV_c (fun k _ _ => by rw [a2 k (by omega) (by omega), q3 k (by omega)]) hC) a3 a4 (wfP_add hP hp g ⟨Nat.mod_lt _ (by omega), hq, Nat.zero_le _⟩) (nx_lt _) (wfU_pu hw hP hb)
      rw [if_pos (show nI _ < 12 from nI_lt (b := 12) g (by omega)), bn_s, bi_if, if_pos g]
      rw [show fX7_append h9 (nI (nx s / 65536 % V 0 5)) (nI (nx (nx s) / 65536 % V 0 4)) (nI (nx (nx (nx s)) / 65536 % 96)) (-1) = some h1 from a1, bn_s, nI_1]
      exact ⟨h2, b1, fun k x y => by rw [b2 k x y, a2 k x y, q3 k (by omega)], b3, b4⟩
    · have g12 := (hP (nx s / 65536 % V 0 5)).1
      obtain ⟨h2, b1, b2, b3, b4⟩ := c_driftL hn hv36 hwV hw4 hw5 hb K d (k + 1) f h9 P (nx (nx (nx s))) un (by omega) (by omega) (by rw [q3 0 (by omega)]; exact hvl) (CV_c (fun k _ _ => by rw [q3 k (by omega)]) hC) A3 U3 hP (nx_lt _) hw
      rw [if_neg (show ¬ nI _ < 12 from nI_nlt (b := 12) (by omega) (by omega)), bn_s, bi_it, if_neg g, nI_1]
      exact ⟨h2, b1, fun k x y => by rw [b2 k x y, q3 k (by omega)], b3, b4⟩
theorem m_driftL {n : Nat} (hn : n ≤ 30) (hwV : wfV V) (hw4 : 1 ≤ V 0 4) (hw5 : 1 ≤ V 0 5) (hb : bt ≤ 96) (K : aH → Option (Int32 × aH)) : ∀ d k fuel (h : aH) (P : Ps) (s : Nat) (un : Un), k + d = n → d < fuel → MV h V → MA h 0 P bt → h 55 53 = nI s → UnM h un → wfP V P → s < 2 ^ 31 → wfU V un → ∃ h1, fX8_drift_L34 K (nI n) fuel h (nI k) = K h1 ∧ (∀ k, k ≠ 54 → k ≠ 55 → h1 k = h k) ∧ (∀ j, j ≠ 25 → h1 54 j = h 54 j) ∧ (∀ i, 54 ≤ i → i < 162 → h1 55 i = h 55 i) ∧ MA h1 0 (dst V bt d P s un).1 bt ∧ h1 55 53 = nI (dst V bt d P s un).2.1 ∧ UnM h1 (dst V bt d P s un).2.2
  | d, k, 0, _, _, _, _, _, hf, _, _, _, _, _, _, _ => absurd hf (by omega)
  | 0, k, f + 1, h, P, s, un, hk, hf, hV, hM, h53, hU, hP, hs, hw => by
    refine ⟨h, ?_, fun _ _ _ => rfl, fun _ _ => rfl, fun _ _ _ => rfl, hM, h53, hU⟩
    rw [fX8_drift_L34, if_pos (nI_le (by omega) (by omega))]
  | d + 1, k, f + 1, h, P, s, un, hk, hf, hV, hM, h53, hU, hP, hs, hw => by
    have v4 := hwV.1.2.2.2.2.1
    have v5 := hwV.1.2.2.2.2.2.1
    have c5 : h 54 11 = nI (V 0 4) := hV.1.2.2.2.2.2.1
    have c6 : h 54 16 = nI (V 0 5) := hV.1.2.2.2.2.2.2
    have hp : nx s / 65536 % V 0 5 < V 0 5 := Nat.mod_lt _ (by omega)
    have hq : nx (nx s) / 65536 % V 0 4 < V 0 4 := Nat.mod_lt _ (by omega)
    have q3 : ∀ k, k ≠ 55 → aU (aU (aU h 55 53 (nI (nx s))) 55 53 (nI (nx (nx s)))) 55 53 (nI (nx (nx (nx s)))) k = h k := fun k hk => by rw [aU_ne hk, aU_ne hk, aU_ne hk]
    have q5 : ∀ i, i ≠ 53 → aU (aU (aU h 55 53 (nI (nx s))) 55 53 (nI (nx (nx s)))) 55 53 (nI (nx (nx (nx s)))) 55 i = h 55 i := fun i hi => by simp [aU_rd, hi]
    have s3 : aU (aU (aU h 55 53 (nI (nx s))) 55 53 (nI (nx (nx s)))) 55 53 (nI (nx (nx (nx s)))) 55 53 = nI (nx (nx (nx s))) := by simp [aU_rd]
    have red : fX8_drift_L34 K (nI n) (f + 1) h (nI k) = if 12 ≤ aU (aU (aU h 55 53 (nI (nx s))) 55 53 (nI (nx (nx s)))) 55 53 (nI (nx (nx (nx s)))) 55 (tn (48 + nI (nx s / 65536 % V 0 5))) then fX8_drift_L34 K (nI n) f (aU (aU (aU h 55 53 (nI (nx s))) 55 53 (nI (nx (nx s)))) 55 53 (nI (nx (nx (nx s))))) (nI k + 1) else bn (fX8_remember (aU (aU (aU h 55 53 (nI (nx s))) 55 53 (nI (nx (nx s)))) 55 53 (nI (nx (nx (nx s)))))) (fun h19 => bn (fX8_put h19 (nI (nx s / 65536 % V 0 5)) (nI (nx (nx (nx s)) / 65536 % 96)) (nI (nx (nx s) / 65536 % V 0 4)) (-1)) (fun h21 => fX8_drift_L34 K (nI n) f h21 (nI k + 1))) := by
      rw [fX8_drift_L34, if_neg (nI_ge (by omega) (by omega)), c6, m_draw h53 hs (by omega) (by omega), bn2_s, aU_ne (show 54 ≠ 55 by omega), c5, m_draw (sd := nx s) (by simp [aU_rd]) (nx_lt s) (by omega) (by omega), bn2_s]
      rw [show fX8_draw (aU (aU h 55 53 (nI (nx s))) 55 53 (nI (nx (nx s)))) 96 = _ from m_draw (n := 96) (sd := nx (nx s)) (by simp [aU_rd]) (nx_lt _) (by omega) (by omega), bn2_s, if_pos (ck48 (by omega))]
    rw [red]
    generalize hh : aU (aU (aU h 55 53 (nI (nx s))) 55 53 (nI (nx (nx s)))) 55 53 (nI (nx (nx (nx s)))) = h9 at q3 q5 s3
    have M3 : MA h9 0 P bt := MA_c hP (fun i hi => q5 _ (by omega)) hM
    have U3 : UnM h9 un := UnM_c hw (by rw [q3 54 (by omega)]) (fun i _ _ => q5 i (by omega)) hU
    have V3 : MV h9 V := MV_c (by rw [q3 54 (by omega)]) (by rw [q3 54 (by omega)]) (by rw [q3 54 (by omega)]) (by rw [q3 54 (by omega)]) (fun k _ _ => q3 k (by omega)) hV
    unfold dst
    rw [m_count M3 (by omega)]
    by_cases g : (P (nx s / 65536 % V 0 5)).length < 12
    · obtain ⟨h4, h5, a1, a2, a3, a4, a5, a6, a7, a8⟩ := m_append M3 hP U3 hw hb (p := nx s / 65536 % V 0 5) (by omega) g (x := (nx (nx (nx s)) / 65536 % 96, nx (nx s) / 65536 % V 0 4, 0)) (Nat.mod_lt _ (by omega)) (show nx (nx s) / 65536 % V 0 4 < 4 by omega) (Nat.zero_le _)
      obtain ⟨h2, b1, b2, b3, b4, b5, b6, b7⟩ := m_driftL hn hwV hw4 hw5 hb K d (k + 1) f h5 _ (nx (nx (nx s))) _ (by omega) (by omega) (MV_c (a5 2 (by omega)) (a5 6 (by omega)) (a5 11 (by omega)) (a5 16 (by omega)) (fun k _ _ => a4 k (by omega) (by omega)) V3) a7 (by rw [a6 53 (by omega) (by omega)]; exact s3) a8 (wfP_add hP hp g ⟨Nat.mod_lt _ (by omega), hq, Nat.zero_le _⟩) (nx_lt _) (wfU_pu hw hP hb)
      rw [if_neg (show ¬ 12 ≤ nI _ from nI_ge (b := 12) g (by omega)), if_pos g, a1, bn_s]
      rw [show fX8_put h4 (nI (nx s / 65536 % V 0 5)) (nI (nx (nx (nx s)) / 65536 % 96)) (nI (nx (nx s) / 65536 % V 0 4)) (-1) = some h5 from a2, bn_s, nI_1]
      exact ⟨h2, b1, fun k x y => by rw [b2 k x y, a4 k x y, q3 k y], fun j hj => by rw [b3 j hj, a5 j hj, q3 54 (by omega)], fun i x y => by rw [b4 i x y, a6 i (by omega) y, q5 i (by omega)], b5, b6, b7⟩
    · have g12 := (hP (nx s / 65536 % V 0 5)).1
      obtain ⟨h2, b1, b2, b3, b4, b5, b6, b7⟩ := m_driftL hn hwV hw4 hw5 hb K d (k + 1) f h9 P (nx (nx (nx s))) un (by omega) (by omega) V3 M3 s3 U3 hP (nx_lt _) hw
      rw [if_pos (show 12 ≤ nI _ from nI_le (a := 12) (by omega) (by omega)), if_neg g, nI_1]
      exact ⟨h2, b1, fun k x y => by rw [b2 k x y, q3 k y], fun j hj => by rw [b3 j hj, q3 54 (by omega)], fun i x y => by rw [b4 i x y, q5 i (by omega)], b5, b6, b7⟩
theorem op_drift (hC : RC h v w tx ft V P bt sd im un ms bk) (hM : RM h tx ft V P bt sd im un ms bk) (hW : WF v w tx V P bt sd im un ms bk) (x : Int32) : Ok2 h (fun h => fX7_drift h x) (fun h => fX8_drift h x) := by
  have hI : Inv h := ⟨v, w, tx, ft, V, P, bt, sd, im, un, ms, bk, hC, hM, hW⟩
  have hC0 := hC
  have hM0 := hM
  have hW0 := hW
  obtain ⟨hv, hCV, hCL, hCA, hMV, hMA, hwV, hwP⟩ := RD_of hC hM hW
  obtain ⟨w1, w2, w3, w4, w5, w6, w7, w8, w9, w10⟩ := hW
  obtain ⟨r1, r2, r3, r4, r5, r6, r7, r8, r9⟩ := hC
  obtain ⟨m1, m2, m3, m4, m5, m6, m7, m8, m9, m10⟩ := hM
  have v4 := w3.1.2.2.2.2.1
  have v5 := w3.1.2.2.2.2.2.1
  have c5 : h v 5 = nI (V 0 4) := r3.1.2.2.2.2.2.1
  have c6 : h v 6 = nI (V 0 5) := r3.1.2.2.2.2.2.2
  have d5 : h 54 11 = nI (V 0 4) := m3.1.2.2.2.2.2.1
  have d6 : h 54 16 = nI (V 0 5) := m3.1.2.2.2.2.2.2
  rcases rng30 x with ⟨n, n1, n30, rfl⟩ | ⟨g, g2⟩
  · by_cases g4 : V 0 4 = 0
    · refine Ok2_same (r := -1000000003) hI ?_ ?_
      · show fX7_drift h (nI n) = _
        unfold fX7_drift
        rw [if_neg (show ¬ nI n < 1 from nI_nlt (b := 1) (by omega) (by omega)), if_pos (show nI _ ≤ 30 from nI_le (b := 30) n30 (by omega)), hv, bn_s, c5, g4]; rfl
      · show fX8_drift h (nI n) = _
        unfold fX8_drift
        rw [in30 n1 n30, bn_s, bi_it, d5, g4]; rfl
    · by_cases g5 : V 0 5 = 0
      · refine Ok2_same (r := -1000000003) hI ?_ ?_
        · show fX7_drift h (nI n) = _
          unfold fX7_drift
          rw [if_neg (show ¬ nI n < 1 from nI_nlt (b := 1) (by omega) (by omega)), if_pos (show nI _ ≤ 30 from nI_le (b := 30) n30 (by omega)), hv, bn_s, c5, c6, g5, if_neg (show ¬ nI _ < 1 from nI_nlt (b := 1) (by omega) (by omega))]; rfl
        · show fX8_drift h (nI n) = _
          unfold fX8_drift
          rw [in30 n1 n30, bn_s, bi_it, d5, d6, g5, if_neg (nI_ne0 (by omega) (by omega))]; rfl
      · obtain ⟨h1, a1, a2, a3, a4⟩ := c_driftL n30 (by omega) w3 (by omega) (by omega) w5 (fun h23 => bn (fX0_countAll h23 3) (fun r25 => some (r25, h23))) n 0 1000 h P sd un (by omega) (by omega) hv r3 r5 r7 w4 w6 w8
        obtain ⟨f1, f2, f3⟩ := dst_wf (V := V) (bt := bt) (by omega) (by omega) w5 n P sd un w4 w6 w8
        have qm : ∀ k, 54 ≤ k → h1 k = h k := fun k hk => a2 k (by omega) (by omega)
        obtain ⟨k1, k2, k3, k4, k5, k6, k7, k8, k9, k10⟩ := RM_c hW0 qm hM0
        obtain ⟨h2, b1, b2, b3, b4, b5, b6, b7⟩ := m_driftL n30 w3 (by omega) (by omega) w5 (fun h22 => bn (fX8_allLetters h22) (fun r24 => some (r24, h22))) n 0 1000 h1 P sd un (by omega) (by omega) k3 k4 k5 k7 w4 w6 w8
        have e7 : fX7_drift h (nI n) = some (nI (sm (dst V bt n P sd un).1 4), h1) := by
          unfold fX7_drift
          rw [if_neg (show ¬ nI n < 1 from nI_nlt (b := 1) (by omega) (by omega)), if_pos (show nI _ ≤ 30 from nI_le (b := 30) n30 (by omega)), hv, bn_s, c5, c6, if_neg (show ¬ nI _ < 1 from nI_nlt (b := 1) (by omega) (by omega)), if_pos (show 1 ≤ nI _ from nI_le (a := 1) (by omega) (by omega))]
          refine Eq.trans a1 ?_
          show bn (fX0_countAll h1 3) _ = _
          rw [c_all a3 f1, bn_s]
        have e8 : fX8_drift h1 (nI n) = some (nI (sm (dst V bt n P sd un).1 4), h2) := by
          unfold fX8_drift
          rw [in30 n1 n30, bn_s, bi_it, qm 54 (by omega), d5, d6, if_neg (nI_ne0 (by omega) (by omega)), if_neg (nI_ne0 (by omega) (by omega))]
          refine Eq.trans b1 ?_
          show bn (fX8_allLetters h2) _ = _
          rw [m_all (MV_c (b3 2 (by omega)) (b3 6 (by omega)) (b3 11 (by omega)) (b3 16 (by omega)) (fun k _ _ => b2 k (by omega) (by omega)) k3) b5 w3 f1, bn_s]
        exact ⟨_, _, _, e7, e8, v, w, tx, ft, V, _, bt, _, im, _, ms, bk, fin6 hC0 hM0 hW0 (h1 := h1) a2 a3 a4 b2 b3 b4 b5 b6 b7 f1 w5 f2 f3⟩
  · refine Ok2_same (r := -1000000002) hI ?_ ?_
    · show fX7_drift h x = _
      unfold fX7_drift
      by_cases g1 : x < 1
      · rw [if_pos g1]
      · rw [if_neg g1, if_neg (by rcases g with z | z; exact absurd z g1; exact z)]
    · show fX8_drift h x = _
      unfold fX8_drift
      rw [g2]; rfl
end Ops7
