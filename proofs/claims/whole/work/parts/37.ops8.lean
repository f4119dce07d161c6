/-! images -/
theorem aV_ne {h : aH} {k q : Nat} {f : Nat → Int32} (e : q ≠ k) : aV h k f q = h q := if_neg e
theorem aV_eq {h : aH} {k : Nat} {f : Nat → Int32} : aV h k f k = f := if_pos rfl
theorem two_4 (h : aH) (a : Nat) (x y : Int32) : aU (aU h a 4 x) a 5 y a 4 = x := by simp [aU_rd]
theorem two_5 (h : aH) (a : Nat) (x y : Int32) : aU (aU h a 4 x) a 5 y a 5 = y := by simp [aU_rd]
theorem c_copy {h : aH} {a0 a1 : Nat} {V : Vd} {P : Ps} {bt sd : Nat} (hd : a0 + 5 ≤ a1 ∨ a1 + 5 ≤ a0) (hP : wfP V P) (hA : CA h a1 P bt sd) : ∃ h1, fX0_copyFrom h a0 a1 = some h1 ∧ (∀ k, k < a0 ∨ a0 + 5 ≤ k → h1 k = h k) ∧ (∀ j, j ≠ 4 → j ≠ 5 → h1 a0 j = h a0 j) ∧ CA h1 a0 P bt sd := by
  obtain ⟨b1, b2, b3, b4⟩ := hA
  unfold fX0_copyFrom
  simp only [bn_s]
  refine ⟨_, rfl, fun k hk => ?_, fun j h4 h5 => ?_, fun p hp => ?_, fun p hp l x hx => ?_, ?_, ?_⟩
  · rw [aU_ne (by omega), aU_ne (by omega), aV_ne (by omega), aV_ne (by omega), aV_ne (by omega), aV_ne (by omega)]
  · simp only [aU_rd, if_true, if_neg h4, if_neg h5]
    rw [aV_ne (by omega), aV_ne (by omega), aV_ne (by omega), aV_ne (by omega)]
  · rw [aU_ne (by omega), aU_ne (by omega), aV_ne (by omega), aV_ne (by omega), aV_ne (by omega), aV_eq]
    unfold cpy
    rw [if_pos hp]; exact b1 p hp
  · have b := wfP_at hP hx
    obtain ⟨d1, d2, d3⟩ := b2 p hp l x hx
    refine ⟨?_, ?_, ?_⟩
    · rw [aU_ne (by omega), aU_ne (by omega), aV_ne (by omega), aV_ne (by omega), aV_eq]
      unfold cpy
      rw [if_pos (by omega), aV_ne (by omega)]; exact d1
    · rw [aU_ne (by omega), aU_ne (by omega), aV_ne (by omega), aV_eq]
      unfold cpy
      rw [if_pos (by omega), aV_ne (by omega), aV_ne (by omega)]; exact d2
    · rw [aU_ne (by omega), aU_ne (by omega), aV_eq]
      unfold cpy
      rw [if_pos (by omega), aV_ne (by omega), aV_ne (by omega), aV_ne (by omega)]; exact d3
  · refine Eq.trans (two_4 _ _ _ _) ?_
    rw [aV_ne (by omega), aV_ne (by omega), aV_ne (by omega), aV_ne (by omega)]; exact b3
  · refine Eq.trans (two_5 _ _ _ _) ?_
    rw [aU_ne (by omega), aV_ne (by omega), aV_ne (by omega), aV_ne (by omega), aV_ne (by omega)]; exact b4
theorem rng2 (x : Int32) : (∃ i, i < 2 ∧ x = nI i) ∨ (¬ x = 0 ∧ ¬ x = 1 ∧ fX8_in (Int32.toInt64 x) 0 1 = some false) := by
  have e : fX8_in (Int32.toInt64 x) 0 1 = some (ck x 2) := in_0 1 1 (by omega) rfl
  cases hc : ck x 2 with
  | true =>
    obtain ⟨i, hi, rfl⟩ := ck_of (by omega) hc
    exact Or.inl ⟨i, hi, rfl⟩
  | false =>
    right
    rw [e, hc]
    refine ⟨fun z => ?_, fun z => ?_, rfl⟩
    · rw [z] at hc; exact absurd hc (by decide)
    · rw [z] at hc; exact absurd hc (by decide)
theorem in2 {i : Nat} (hi : i < 2) : fX8_in (Int32.toInt64 (nI i)) 0 1 = some true := by
  rw [in_0 1 1 (by omega) rfl, ck_t hi (by omega)]
theorem img {h : aH} {i : Nat} (hi : i < 2) : fX7_isImage (nI i) = some true ∧ fX7_imageOf h (nI i) = some (ic i) ∧ kC (ic i) = 0 := by
  rcases (by omega : i = 0 ∨ i = 1) with rfl | rfl
  · exact ⟨rfl, rfl, rfl⟩
  · exact ⟨rfl, rfl, rfl⟩
theorem ic_e {i : Nat} (hi : i < 2) : ic i = 8 ∨ ic i = 13 := by
  rcases (by omega : i = 0 ∨ i = 1) with rfl | rfl
  · exact Or.inl rfl
  · exact Or.inr rfl
theorem ic_ne {i j : Nat} (hi : i < 2) (hj : j < 2) (n : ¬ i = j) : ic i + 5 ≤ ic j ∨ ic j + 5 ≤ ic i := by
  rcases (by omega : i = 0 ∧ j = 1 ∨ i = 1 ∧ j = 0) with ⟨rfl, rfl⟩ | ⟨rfl, rfl⟩
  · exact Or.inl (by decide)
  · exact Or.inr (by decide)
theorem off54i (k : Nat) : 54 + 54 * nI k = nI (54 + 54 * k) := by
  rw [show (54 : Int32) = nI 54 from rfl, pk_mul, nI_add]
theorem UnC_nil {h h1 : aH} {P P' : Ps} {bt bt' : Nat} {un : Un} (e5 : h1 18 5 = h 18 5) (e6 : h1 18 6 = 0) (H : UnC h P bt un) : UnC h1 P' bt' [] := by
  obtain ⟨ne, n1, n2, -, -⟩ := H
  exact ⟨ne, n1, e5.trans n2, e6, fun j S S2 _ h2 => by cases h2⟩
theorem UnM_nil {h1 : aH} (e : h1 54 25 = 0) : UnM h1 [] := ⟨e, fun j S hS => by cases hS⟩
theorem wfU_nil {V : Vd} : wfU V [] := ⟨Nat.zero_le _, fun S hS => absurd hS List.not_mem_nil⟩
section Ops8
variable {h : aH} {v w : Nat} {tx : List Nat} {ft : Int32} {V : Vd} {P : Ps} {bt sd : Nat} {im : Im} {un : Un} {ms : Nat → Nat} {bk : Bk}
theorem op_goBack (hC : RC h v w tx ft V P bt sd im un ms bk) (hM : RM h tx ft V P bt sd im un ms bk) (hW : WF v w tx V P bt sd im un ms bk) (x : Int32) : Ok2 h (fun h => fX7_goBack h x) (fun h => fX8_goBack h x) := by
  have hI : Inv h := ⟨v, w, tx, ft, V, P, bt, sd, im, un, ms, bk, hC, hM, hW⟩
  have hC0 := hC
  have hM0 := hM
  have hW0 := hW
  obtain ⟨w1, w2, w3, w4, w5, w6, w7, w8, w9, w10⟩ := hW
  obtain ⟨r1, r2, r3, r4, r5, r6, r7, r8, r9⟩ := hC
  obtain ⟨m1, m2, m3, m4, m5, m6, m7, m8, m9, m10⟩ := hM
  rcases rng2 x with ⟨i, hi, rfl⟩ | ⟨g0, g1, g2⟩
  · obtain ⟨i1, i2, i3⟩ := img (h := h) hi
    have ice := ic_e hi
    cases hq : im i with
    | none =>
      have c6 := (r6 i hi).1 hq
      have d6 := (m6 i hi).1 hq
      refine Ok2_same (r := -1000000003) hI ?_ ?_
      · show fX7_goBack h (nI i) = _
        unfold fX7_goBack
        rw [i1, bn_s, bi_it, i2, bn_s, if_pos i3, c6]; rfl
      · show fX8_goBack h (nI i) = _
        unfold fX8_goBack
        rw [in2 hi, bn_s, bi_it, if_pos (ck_t hi (by omega)), tn_nI (by omega), d6]; rfl
    | some q =>
      obtain ⟨c6, cA⟩ := (r6 i hi).2 q hq
      obtain ⟨d6, dA, d53⟩ := (m6 i hi).2 q hq
      obtain ⟨f1, f2, f3⟩ := w7 i hi q hq
      obtain ⟨h1, a1, a2, a3, a4⟩ := c_copy (a0 := 3) (a1 := ic i) (by omega) f1 cA
      have e7 : fX7_goBack h (nI i) = some (1, aU h1 18 6 0) := by
        unfold fX7_goBack fX3_forget
        rw [i1, bn_s, bi_it, i2, bn_s, if_pos i3, c6, if_neg (by decide), a1, bn_s, bn_s]
      have q1 : ∀ k, k ≠ 18 → aU h1 18 6 0 k = h1 k := fun k hk => aU_ne hk
      have qm : ∀ k, 54 ≤ k → aU h1 18 6 0 k = h k := fun k hk => by rw [q1 k (by omega), a2 k (by omega)]
      obtain ⟨h7, b1, b2, b3, b4⟩ := m_copy (a := 54 + 54 * i) (b := 0) (by omega) (by omega) (by omega) (aU h1 18 6 0)
      have e8 : fX8_goBack (aU h1 18 6 0) (nI i) = some (1, aU h7 54 25 0) := by
        unfold fX8_goBack
        rw [in2 hi, bn_s, bi_it, if_pos (ck_t hi (by omega)), tn_nI (by omega), qm 56 (by omega), d6, if_neg (by decide), off54i]
        rw [show fX8_copy (aU h1 18 6 0) (nI (54 + 54 * i)) 0 = some h7 from b1, bn_s]
      refine ⟨_, _, _, e7, e8, v, w, tx, ft, V, q.1, q.2.1, q.2.2, im, [], ms, bk, fin6 hC0 hM0 hW0 (h1 := aU h1 18 6 0) ?_ ?_ ?_ ?_ ?_ ?_ ?_ ?_ ?_ f1 f2 f3 wfU_nil⟩
      · intro k y z
        rw [q1 k (by omega), a2 k (by omega)]
      · exact CA_c (fun k _ _ => q1 k (by omega)) a4
      · refine UnC_nil (h := h) ?_ (by simp [aU_rd]) r7
        simp [aU_rd, a2 18 (by omega)]
      · intro k y z
        rw [aU_ne y, b2 k z]
      · intro j hj
        simp only [aU_rd]
        rw [if_pos trivial, if_neg hj, b2 54 (by omega)]
        simp [aU_rd]
      · intro k y z
        rw [aU_ne (by omega), b3 k (by omega)]
      · refine MA_t (o := 54 + 54 * i) f1 (fun k hk => ?_) dA
        have := b4 k (by omega)
        rw [aU_ne (by omega), this, qm 55 (by omega)]
      · have := b4 53 (by omega)
        rw [Nat.zero_add] at this
        rw [aU_ne (by omega), this, qm 55 (by omega)]
        exact d53
      · exact UnM_nil (by simp [aU_rd])
  · refine Ok2_same (r := -1000000001) hI ?_ ?_
    · show fX7_goBack h x = _
      unfold fX7_goBack fX7_isImage
      rw [if_neg g0, if_neg g1]; rfl
    · show fX8_goBack h x = _
      unfold fX8_goBack
      rw [g2]; rfl
theorem op_keep (hC : RC h v w tx ft V P bt sd im un ms bk) (hM : RM h tx ft V P bt sd im un ms bk) (hW : WF v w tx V P bt sd im un ms bk) (x : Int32) : Ok2 h (fun h => fX7_keep h x) (fun h => fX8_keep h x) := by
  have hI : Inv h := ⟨v, w, tx, ft, V, P, bt, sd, im, un, ms, bk, hC, hM, hW⟩
  obtain ⟨w1, w2, w3, w4, w5, w6, w7, w8, w9, w10⟩ := hW
  obtain ⟨r1, r2, r3, r4, r5, r6, r7, r8, r9⟩ := hC
  obtain ⟨m1, m2, m3, m4, m5, m6, m7, m8, m9, m10⟩ := hM
  rcases rng2 x with ⟨i, hi, rfl⟩ | ⟨g0, g1, g2⟩
  · obtain ⟨i1, i2, i3⟩ := img (h := h) hi
    have ice := ic_e hi
    obtain ⟨h1, a1, a2, a3, a4⟩ := c_copy (a0 := ic i) (a1 := 3) (by omega) w4 r5
    have e7 : fX7_keep h (nI i) = some (1, aU (aU h1 (ic i) 6 1) 18 6 0) := by
      unfold fX7_keep fX3_forget
      rw [i1, bn_s, bi_it, i2, bn_s, if_pos i3, a1, bn_s, bn_s]
    have qc : ∀ k, k < ic i ∨ ic i + 5 ≤ k → k ≠ 18 → aU (aU h1 (ic i) 6 1) 18 6 0 k = h k := fun k x y => by rw [aU_ne y, aU_ne (by omega), a2 k x]
    have qk : ∀ k, k ≠ ic i → k ≠ 18 → aU (aU h1 (ic i) 6 1) 18 6 0 k = h1 k := fun k x y => by rw [aU_ne y, aU_ne x]
    have qi : ∀ j, aU (aU h1 (ic i) 6 1) 18 6 0 (ic i) j = if j = 6 then 1 else h1 (ic i) j := fun j => by
      rw [aU_ne (by omega)]
      simp only [aU_rd, if_pos rfl]
      rfl
    have q18 : ∀ j, aU (aU h1 (ic i) 6 1) 18 6 0 18 j = if j = 6 then 0 else h 18 j := fun j => by
      simp only [aU_rd, if_pos rfl]
      rw [if_neg (show ¬ 18 = ic i by omega), a2 18 (by omega)]
      rfl
    generalize hh : aU (aU h1 (ic i) 6 1) 18 6 0 = h3 at e7 qc qk qi q18
    have qm : ∀ k, 54 ≤ k → h3 k = h k := fun k hk => qc k (by omega) (by omega)
    obtain ⟨h5, b1, b2, b3, b4⟩ := m_copy (a := 0) (b := 54 + 54 * i) (by omega) (by omega) (by omega) h3
    have e8 : fX8_keep h3 (nI i) = some (1, aU (aU h5 56 i 1) 54 25 0) := by
      unfold fX8_keep
      rw [in2 hi, bn_s, bi_it, off54i]
      rw [show fX8_copy h3 0 (nI (54 + 54 * i)) = some h5 from b1, bn_s, if_pos (ck_t hi (by omega)), tn_nI (by omega)]
    have g : ∀ k, k < 54 → aU (aU h5 56 i 1) 54 25 0 k = h3 k := fun k hk => by rw [aU_ne (by omega), aU_ne (by omega), b2 k (by omega)]
    have gm : ∀ k, 57 ≤ k → aU (aU h5 56 i 1) 54 25 0 k = h k := fun k hk => by rw [aU_ne (by omega), aU_ne (by omega), b2 k (by omega), qm k (by omega)]
    have g54 : ∀ j, j ≠ 25 → aU (aU h5 56 i 1) 54 25 0 54 j = h 54 j := fun j hj => by simp [aU_rd, hj]; rw [b2 54 (by omega), qm 54 (by omega)]
    have g55 : ∀ k, k < 54 + 54 * i ∨ 54 + 54 * i + 54 ≤ k → aU (aU h5 56 i 1) 54 25 0 55 k = h 55 k := fun k hk => by rw [aU_ne (by omega), aU_ne (by omega), b3 k hk, qm 55 (by omega)]
    have g55b : ∀ k, k < 54 → aU (aU h5 56 i 1) 54 25 0 55 (54 + 54 * i + k) = h 55 (0 + k) := fun k hk => by rw [aU_ne (by omega), aU_ne (by omega), b4 k hk, qm 55 (by omega)]
    have g56 : ∀ j, j < 2 → aU (aU h5 56 i 1) 54 25 0 56 j = if j = i then 1 else h 56 j := fun j hj => by
      rw [aU_ne (by omega)]
      simp only [aU_rd, if_pos rfl]
      rw [b2 56 (by omega), qm 56 (by omega)]
      rfl
    have c25 : aU (aU h5 56 i 1) 54 25 0 54 25 = 0 := by simp [aU_rd]
    generalize hh2 : aU (aU h5 56 i 1) 54 25 0 = h6 at e8 g gm g54 g55 g55b g56 c25
    refine ⟨_, _, _, e7, e8, v, w, tx, ft, V, P, bt, sd, fun j => if j = i then some (P, bt, sd) else im j, [], ms, bk, ?_, ?_, ⟨w1, w2, w3, w4, w5, w6, fun j hj q hq => ?_, wfU_nil, w9, w10⟩⟩
    · have gc : ∀ k, k < 54 → k < ic i ∨ ic i + 5 ≤ k → k ≠ 18 → h6 k = h k := fun k x y z => by rw [g k x, qc k y z]
      refine ⟨by rw [gc 0 (by omega) (by omega) (by omega)]; exact r1, TxC_c (gc 1 (by omega) (by omega) (by omega)) (gc 2 (by omega) (by omega) (by omega)) r2, CV_c (fun k _ _ => gc k (by omega) (by omega) (by omega)) r3, CL_c (gc _ (by omega) (by omega) (by omega)) r4, CA_c (fun k _ _ => gc k (by omega) (by omega) (by omega)) r5, fun j hj => ?_, ?_, MsC_c (gc 35 (by omega) (by omega) (by omega)) r8, CB_c (fun k _ _ => gc k (by omega) (by omega) (by omega)) r9⟩
      · by_cases z : j = i
        · subst z
          refine ⟨fun q => absurd q (by simp), fun q hq => ?_⟩
          simp only [if_true] at hq
          cases hq
          refine ⟨by rw [g _ (by omega), qi]; rfl, ?_⟩
          obtain ⟨p1, p2, p3, p4⟩ := a4
          refine ⟨fun p hp => ?_, fun p hp l x hx => ?_, ?_, ?_⟩
          · rw [g _ (by omega), qk _ (by omega) (by omega)]; exact p1 p hp
          · rw [g _ (by omega), g _ (by omega), g _ (by omega), qk _ (by omega) (by omega), qk _ (by omega) (by omega), qk _ (by omega) (by omega)]; exact p2 p hp l x hx
          · rw [g _ (by omega), qi]; exact p3
          · rw [g _ (by omega), qi]; exact p4
        · have icn := ic_ne hi hj (fun y => z y.symm)
          have icj := ic_e hj
          show (((if j = i then some (P, bt, sd) else im j) = none → _) ∧ ∀ q, (if j = i then some (P, bt, sd) else im j) = some q → _)
          rw [if_neg z]
          obtain ⟨k1, k2⟩ := r6 j hj
          rw [gc _ (by omega) (by omega) (by omega)]
          exact ⟨k1, fun q hq => ⟨(k2 q hq).1, CA_c (fun k _ _ => gc k (by omega) (by omega) (by omega)) (k2 q hq).2⟩⟩
      · refine UnC_nil (h := h) ?_ ?_ r7
        · rw [g 18 (by omega), q18]; rfl
        · rw [g 18 (by omega), q18]; rfl
    · refine ⟨by rw [g54 23 (by omega)]; exact m1, TxM_c (g54 19 (by omega)) (gm 65 (by omega)) m2, MV_c (g54 2 (by omega)) (g54 6 (by omega)) (g54 11 (by omega)) (g54 16 (by omega)) (fun k _ _ => gm k (by omega)) m3, MA_c w4 (fun k _ => g55 _ (by omega)) m4, by rw [g55 53 (by omega)]; exact m5, fun j hj => ?_, UnM_nil c25, MsM_c (gm 66 (by omega)) m8, MB_c (g54 32 (by omega)) (fun k _ _ => gm k (by omega)) m9, fun j hj => by rw [gm 68 (by omega)]; exact m10 j hj⟩
      by_cases z : j = i
      · subst z
        refine ⟨fun q => absurd q (by simp), fun q hq => ?_⟩
        simp only [if_true] at hq
        cases hq
        refine ⟨by rw [g56 _ hj]; exact if_pos rfl, MA_t w4 (fun k hk => g55b k (by omega)) m4, ?_⟩
        rw [g55b 53 (by omega)]; exact m5
      · show (((if j = i then some (P, bt, sd) else im j) = none → _) ∧ ∀ q, (if j = i then some (P, bt, sd) else im j) = some q → _)
        rw [if_neg z, g56 j hj, if_neg z]
        obtain ⟨k1, k2⟩ := m6 j hj
        refine ⟨k1, fun q hq => ?_⟩
        obtain ⟨l1, l2, l3⟩ := k2 q hq
        refine ⟨l1, MA_c (w7 j hj q hq).1 (fun k hk => g55 _ (by omega)) l2, ?_⟩
        rw [g55 _ (by omega)]; exact l3
    · have hq : (if j = i then some (P, bt, sd) else im j) = some q := hq
      by_cases z : j = i
      · rw [if_pos z] at hq
        cases hq
        exact ⟨w4, w5, w6⟩
      · rw [if_neg z] at hq
        exact w7 j hj q hq
  · refine Ok2_same (r := -1000000001) hI ?_ ?_
    · show fX7_keep h x = _
      unfold fX7_keep fX7_isImage
      rw [if_neg g0, if_neg g1]; rfl
    · show fX8_keep h x = _
      unfold fX8_keep
      rw [g2]; rfl
end Ops8
