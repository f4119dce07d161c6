/-! seed, write, measure, tear -/
section Ops5
variable {h : aH} {v w : Nat} {tx : List Nat} {ft : Int32} {V : Vd} {P : Ps} {bt sd : Nat} {im : Im} {un : Un} {ms : Nat → Nat} {bk : Bk}
theorem nn_of {x : Int32} (h : 0 ≤ x) : ∃ j, j < 2 ^ 31 ∧ x = nI j := by
  refine nI_of (fun z => ?_)
  rw [fa_le] at h
  rw [fa_lt] at z
  omega
theorem op_seed (hC : RC h v w tx ft V P bt sd im un ms bk) (hM : RM h tx ft V P bt sd im un ms bk) (hW : WF v w tx V P bt sd im un ms bk) (x : Int32) : Ok2 h (fun h => fX7_seed h x) (fun h => fX8_seed h x) := by
  have hI : Inv h := ⟨v, w, tx, ft, V, P, bt, sd, im, un, ms, bk, hC, hM, hW⟩
  obtain ⟨w1, w2, w3, w4, w5, w6, w7, w8, w9, w10⟩ := hW
  obtain ⟨r1, r2, r3, r4, r5, r6, r7, r8, r9⟩ := hC
  obtain ⟨m1, m2, m3, m4, m5, m6, m7, m8, m9, m10⟩ := hM
  by_cases g : 0 ≤ x
  · obtain ⟨s2, hs2, rfl⟩ := nn_of g
    have e7 : fX7_seed h (nI s2) = some (nI sd, aU h 3 5 (nI s2)) := by
      unfold fX7_seed
      rw [if_pos g, r5.2.2.2]
    have e8 : fX8_seed (aU h 3 5 (nI s2)) (nI s2) = some (nI sd, aU (aU h 3 5 (nI s2)) 55 53 (nI s2)) := by
      unfold fX8_seed
      rw [if_pos g, aU_ne (by omega), m5]
    refine ⟨_, _, _, e7, e8, v, w, tx, ft, V, P, bt, s2, im, un, ms, bk, ?_, ?_, ⟨w1, w2, w3, w4, w5, hs2, w7, w8, w9, w10⟩⟩
    · have eq : ∀ k, k < 54 → k ≠ 3 → aU (aU h 3 5 (nI s2)) 55 53 (nI s2) k = h k := fun k h1 h2 => by rw [aU_ne (by omega), aU_ne h2]
      refine ⟨by rw [eq 0 (by omega) (by omega)]; exact r1, TxC_c (eq 1 (by omega) (by omega)) (eq 2 (by omega) (by omega)) r2, CV_c (fun k _ _ => eq k (by omega) (by omega)) r3, CL_c (eq _ (by omega) (by omega)) r4, ?_, ImC_c (fun k _ _ => eq k (by omega) (by omega)) r6, UnC_c (fun k _ _ => eq k (by omega) (by omega)) r7, MsC_c (eq 35 (by omega) (by omega)) r8, CB_c (fun k _ _ => eq k (by omega) (by omega)) r9⟩
      obtain ⟨a1, a2, a3, a4⟩ := r5
      refine ⟨?_, ?_, ?_, ?_⟩
      · rw [eq 4 (by omega) (by omega)]; exact a1
      · rw [eq 5 (by omega) (by omega), eq 6 (by omega) (by omega), eq 7 (by omega) (by omega)]; exact a2
      · simp [aU_rd]; exact a3
      · simp [aU_rd]
    · have eq : ∀ k, 54 ≤ k → k ≠ 55 → aU (aU h 3 5 (nI s2)) 55 53 (nI s2) k = h k := fun k h1 h2 => by rw [aU_ne h2, aU_ne (by omega)]
      have e55 : ∀ i, i ≠ 53 → aU (aU h 3 5 (nI s2)) 55 53 (nI s2) 55 i = h 55 i := fun i hi => by simp [aU_rd, hi]
      refine ⟨by rw [eq 54 (by omega) (by omega)]; exact m1, TxM_c (by rw [eq 54 (by omega) (by omega)]) (eq 65 (by omega) (by omega)) m2, MV_c (by rw [eq 54 (by omega) (by omega)]) (by rw [eq 54 (by omega) (by omega)]) (by rw [eq 54 (by omega) (by omega)]) (by rw [eq 54 (by omega) (by omega)]) (fun k _ _ => eq k (by omega) (by omega)) m3, MA_c w4 (fun i _ => e55 _ (by omega)) m4, by simp [aU_rd], ImM_c w7 (eq 56 (by omega) (by omega)) (fun i _ _ => e55 i (by omega)) m6, UnM_c w8 (by rw [eq 54 (by omega) (by omega)]) (fun i _ _ => e55 i (by omega)) m7, MsM_c (eq 66 (by omega) (by omega)) m8, MB_c (by rw [eq 54 (by omega) (by omega)]) (fun k _ _ => eq k (by omega) (by omega)) m9, fun j hj => by rw [eq 68 (by omega) (by omega)]; exact m10 j hj⟩
  · refine Ok2_same (r := -1000000002) hI ?_ ?_
    · show fX7_seed h x = _
      unfold fX7_seed; rw [if_neg g]
    · show fX8_seed h x = _
      unfold fX8_seed; rw [if_neg g]
theorem op_write (hC : RC h v w tx ft V P bt sd im un ms bk) (hM : RM h tx ft V P bt sd im un ms bk) (hW : WF v w tx V P bt sd im un ms bk) (x y z : Int32) : Ok2 h (fun h => fX7_write h x y z) (fun h => fX8_write h x y z) := by
  have hI : Inv h := ⟨v, w, tx, ft, V, P, bt, sd, im, un, ms, bk, hC, hM, hW⟩
  have R := RD_of hC hM hW
  obtain ⟨hv, hCV, hCL, hCA, hMV, hMA, hwV, hwP⟩ := R
  obtain ⟨w1, w2, w3, w4, w5, w6, w7, w8, w9, w10⟩ := hW
  obtain ⟨r1, r2, r3, r4, r5, r6, r7, r8, r9⟩ := hC
  obtain ⟨m1, m2, m3, m4, m5, m6, m7, m8, m9, m10⟩ := hM
  have b20 := w10.1
  have v5 := w3.1.2.2.2.2.2.1
  have e7 : fX7_write h x y z = if ck x (V 0 5) = true then (if ck y 12 = true then (if ck z 10000 = true then (if bk.length < 20 then some (nI (bk.length + 1), aU (aU (aU (aU h 25 bk.length x) 26 bk.length y) 27 bk.length z) 24 3 (nI (bk.length + 1))) else some (-1000000004, h)) else some (-1000000002, h)) else some (-1000000001, h)) else some (-1000000001, h) := by
    unfold fX7_write fX2_enter
    rw [hv, bn_s, c_hasPaper hCV hwV, bn_s, ck_ltb 12 12 (by omega) rfl, isLook7, bn_s, r9.1, if_neg (nI_pos (by omega)), nI_1]
    cases ck x (V 0 5) with
    | false => rfl
    | true =>
      cases ck y 12 with
      | false => rfl
      | true =>
        cases ck z 10000 with
        | false => rfl
        | true =>
          by_cases g : bk.length < 20
          · simp only [bi_it, if_true]
            rw [if_pos (show nI _ < 20 from nI_lt (b := 20) g (by omega)), if_pos (ck_t g (by omega)), if_pos g, bn2_s, tn_nI (by omega)]
          · simp only [bi_it, if_true]
            rw [if_neg (show ¬ nI _ < 20 from nI_nlt (b := 20) (by omega) (by omega)), if_neg g, bn2_s]
  have e8 : ∀ h1 : aH, MV h1 V → MB h1 bk → fX8_write h1 x y z = if ck x (V 0 5) = true then (if ck y 12 = true then (if ck z 10000 = true then (if bk.length < 20 then some (nI (bk.length + 1), aU (aU (aU (aU h1 70 bk.length x) 71 bk.length y) 72 bk.length z) 54 32 (nI (bk.length + 1))) else some (-1000000004, h1)) else some (-1000000002, h1)) else some (-1000000001, h1)) else some (-1000000001, h1) := by
    intro h1 hV1 hB1
    unfold fX8_write
    rw [m_isPaper hV1 hwV, bn_s, in_0 11 11 (by omega) rfl, bn_s, in_lk, bn_s, hB1.1, nI_1]
    cases ck x (V 0 5) with
    | false => rfl
    | true =>
      show (if bi true = 0 then _ else if bi (ck y 12) = 0 then _ else _) = _
      cases ck y 12 with
      | false => rfl
      | true =>
        cases ck z 10000 with
        | false => rfl
        | true =>
          by_cases g : bk.length < 20
          · simp only [bi_it, if_true]
            rw [if_neg (show ¬ nI _ = 20 from fun q => by have := (nI_eq (b := 20) (by omega) (by omega)).mp q; omega), if_pos (ck_t g (by omega)), if_pos g, tn_nI (by omega)]
          · have : bk.length = 20 := by omega
            simp only [bi_it, if_true]
            rw [if_pos (by rw [this]; rfl), if_neg g]
  cases hx : ck x (V 0 5) with
  | false =>
    rw [hx] at e7
    have := e8 h m3 m9
    rw [hx] at this
    exact Ok2_same hI e7 this
  | true =>
    cases hy : ck y 12 with
    | false =>
      rw [hx, hy] at e7
      have := e8 h m3 m9
      rw [hx, hy] at this
      exact Ok2_same hI e7 this
    | true =>
      cases hz : ck z 10000 with
      | false =>
        rw [hx, hy, hz] at e7
        have := e8 h m3 m9
        rw [hx, hy, hz] at this
        exact Ok2_same hI e7 this
      | true =>
        by_cases g : bk.length < 20
        · obtain ⟨p, hp, rfl⟩ := ck_of (by omega) hx
          obtain ⟨l, hl, rfl⟩ := ck_of (by omega) hy
          obtain ⟨k, hk, rfl⟩ := ck_of (by omega) hz
          rw [hx, hy, hz, if_pos rfl, if_pos rfl, if_pos rfl, if_pos g] at e7
          generalize hh1 : aU (aU (aU (aU h 25 bk.length (nI p)) 26 bk.length (nI l)) 27 bk.length (nI k)) 24 3 (nI (bk.length + 1)) = h1 at e7
          have q1 : ∀ k, 28 ≤ k → h1 k = h k := fun k hk => by rw [← hh1, aU_ne (by omega), aU_ne (by omega), aU_ne (by omega), aU_ne (by omega)]
          have q0 : ∀ k, k < 24 → h1 k = h k := fun k hk => by rw [← hh1, aU_ne (by omega), aU_ne (by omega), aU_ne (by omega), aU_ne (by omega)]
          have e78 := e8 h1 (MV_c (by rw [q1 54 (by omega)]) (by rw [q1 54 (by omega)]) (by rw [q1 54 (by omega)]) (by rw [q1 54 (by omega)]) (fun k _ _ => q1 k (by omega)) m3) (MB_c (by rw [q1 54 (by omega)]) (fun k _ _ => q1 k (by omega)) m9)
          rw [hx, hy, hz, if_pos rfl, if_pos rfl, if_pos rfl, if_pos g] at e78
          generalize hh2 : aU (aU (aU (aU h1 70 bk.length (nI p)) 71 bk.length (nI l)) 72 bk.length (nI k)) 54 32 (nI (bk.length + 1)) = h2 at e78
          have q2 : ∀ k, k < 54 → h2 k = h1 k := fun k hk => by rw [← hh2, aU_ne (by omega), aU_ne (by omega), aU_ne (by omega), aU_ne (by omega)]
          have q3 : ∀ k, 54 < k → k < 70 → h2 k = h1 k := fun k hk hk2 => by rw [← hh2, aU_ne (by omega), aU_ne (by omega), aU_ne (by omega), aU_ne (by omega)]
          have q54 : ∀ j, j ≠ 32 → h2 54 j = h 54 j := fun j hj => by rw [← hh2, ← q1 54 (by omega)]; simp [aU_rd, hj]
          have qm : ∀ k, 54 < k → k < 70 → h2 k = h k := fun k hk hk2 => by rw [q3 k hk hk2, q1 k (by omega)]
          refine ⟨_, _, _, e7, e78, v, w, tx, ft, V, P, bt, sd, im, un, ms, bk ++ [(p, l, k)], ?_, ?_, ⟨w1, w2, w3, w4, w5, w6, w7, w8, w9, ⟨by rw [List.length_append]; show bk.length + 1 ≤ 20; omega, fun y hy => ?_⟩⟩⟩
          · have qq : ∀ k, k < 24 ∨ 28 ≤ k → k < 54 → h2 k = h k := fun k hk hk2 => by
              rw [q2 k hk2]
              rcases hk with z | z
              · exact q0 k z
              · exact q1 k z
            refine ⟨by rw [qq 0 (by omega) (by omega)]; exact r1, TxC_c (qq 1 (by omega) (by omega)) (qq 2 (by omega) (by omega)) r2, CV_c (fun k _ _ => qq k (by omega) (by omega)) r3, CL_c (qq _ (by omega) (by omega)) r4, CA_c (fun k _ _ => qq k (by omega) (by omega)) r5, ImC_c (fun k _ _ => qq k (by omega) (by omega)) r6, UnC_c (fun k _ _ => qq k (by omega) (by omega)) r7, MsC_c (qq 35 (by omega) (by omega)) r8, ⟨?_, fun i y hy => ?_⟩⟩
            · rw [q2 24 (by omega), ← hh1, List.length_append]; simp [aU_rd]
            · rw [q2 25 (by omega), q2 26 (by omega), q2 27 (by omega), ← hh1]
              simp only [aU_rd]
              rcases Nat.lt_or_ge i bk.length with q | q
              · rw [List.getElem?_append_left q] at hy
                have := r9.2 i y hy
                simp [show ¬ i = bk.length by omega, this]
              · rw [List.getElem?_append_right q] at hy
                have z0 : i - bk.length = 0 := by
                  have := (List.getElem?_eq_some_iff.mp hy).1
                  simp at this; omega
                rw [z0] at hy
                cases hy
                have hi : i = bk.length := by omega
                simp [hi]
          · refine ⟨by rw [q54 23 (by omega)]; exact m1, TxM_c (q54 19 (by omega)) (qm 65 (by omega) (by omega)) m2, MV_c (q54 2 (by omega)) (q54 6 (by omega)) (q54 11 (by omega)) (q54 16 (by omega)) (fun k _ _ => qm k (by omega) (by omega)) m3, MA_c w4 (fun i _ => by rw [qm 55 (by omega) (by omega)]) m4, by rw [qm 55 (by omega) (by omega)]; exact m5, ImM_c w7 (qm 56 (by omega) (by omega)) (fun i _ _ => by rw [qm 55 (by omega) (by omega)]) m6, UnM_c w8 (q54 25 (by omega)) (fun i _ _ => by rw [qm 55 (by omega) (by omega)]) m7, MsM_c (qm 66 (by omega) (by omega)) m8, ⟨?_, fun i y hy => ?_⟩, fun j hj => by rw [qm 68 (by omega) (by omega)]; exact m10 j hj⟩
            · rw [← hh2, List.length_append]; simp [aU_rd]
            · rw [← hh2]
              simp only [aU_rd]
              rcases Nat.lt_or_ge i bk.length with q | q
              · rw [List.getElem?_append_left q] at hy
                have := m9.2 i y hy
                simp [show ¬ i = bk.length by omega, q1 70 (by omega), q1 71 (by omega), q1 72 (by omega), this]
              · rw [List.getElem?_append_right q] at hy
                have z0 : i - bk.length = 0 := by
                  have := (List.getElem?_eq_some_iff.mp hy).1
                  simp at this; omega
                rw [z0] at hy
                cases hy
                have hi : i = bk.length := by omega
                simp [hi]
          · rcases List.mem_append.mp hy with q | q
            · exact w10.2 y q
            · have := List.mem_singleton.mp q
              subst this
              exact ⟨hp, hl, hk⟩
        · rw [hx, hy, hz, if_pos rfl, if_pos rfl, if_pos rfl, if_neg g] at e7
          have := e8 h m3 m9
          rw [hx, hy, hz, if_pos rfl, if_pos rfl, if_pos rfl, if_neg g] at this
          exact Ok2_same hI e7 this
theorem bc_64 : ∀ a, a < 64 → ∀ b, b < 64 → fX8_ones (nI (64 * a + b)) = fJ6_bitCount_0f7a4 (nI (64 * a + b)) := by decide +kernel
theorem bc_ones (m : Nat) (hm : m < 4096) : fX8_ones (nI m) = fJ6_bitCount_0f7a4 (nI m) := by
  have := bc_64 (m / 64) (by omega) (m % 64) (by omega)
  rw [show 64 * (m / 64) + m % 64 = m by omega] at this
  exact this
theorem bc_some (x : Int32) : ∃ r, fJ6_bitCount_0f7a4 x = some r := ⟨_, rfl⟩
/-- the measured places change: both sides -/
theorem op_measure (hC : RC h v w tx ft V P bt sd im un ms bk) (hM : RM h tx ft V P bt sd im un ms bk) (hW : WF v w tx V P bt sd im un ms bk) (x y : Int32) : Ok2 h (fun h => fX7_measure h x y) (fun h => fX8_measure h x y) := by
  have hI : Inv h := ⟨v, w, tx, ft, V, P, bt, sd, im, un, ms, bk, hC, hM, hW⟩
  have R := RD_of hC hM hW
  obtain ⟨hv, hCV, hCL, hCA, hMV, hMA, hwV, hwP⟩ := R
  obtain ⟨w1, w2, w3, w4, w5, w6, w7, w8, w9, w10⟩ := hW
  obtain ⟨r1, r2, r3, r4, r5, r6, r7, r8, r9⟩ := hC
  obtain ⟨m1, m2, m3, m4, m5, m6, m7, m8, m9, m10⟩ := hM
  have v5 := w3.1.2.2.2.2.2.1
  cases hx : ck x (V 0 5) with
  | false =>
    refine Ok2_same (r := -1000000001) hI ?_ ?_
    · show fX7_measure h x y = _
      unfold fX7_measure; rw [hv, bn_s, c_hasPaper hCV hwV, bn_s, hx]; rfl
    · show fX8_measure h x y = _
      unfold fX8_measure; rw [m_isLetter hMV hMA hwV hwP, bn_s, hx]; rfl
  | true =>
    obtain ⟨p, hp, rfl⟩ := ck_of (by omega) hx
    have h12 := (hwP p).1
    cases hy : ck y (P p).length with
    | false =>
      refine Ok2_same (r := -1000000001) hI ?_ ?_
      · show fX7_measure h (nI p) y = _
        unfold fX7_measure; rw [hv, bn_s, c_hasPaper hCV hwV, bn_s, hx, bi_it, c_hasLetter hCA (by omega) h12, bn_s, hy]; rfl
      · show fX8_measure h (nI p) y = _
        unfold fX8_measure; rw [m_isLetter hMV hMA hwV hwP, bn_s, hx, tn_nI (by omega), hy]; rfl
    | true =>
      obtain ⟨l, hl, rfl⟩ := ck_of (by omega) hy
      have hm := w9 p
      have h2l : 2 ^ l < 4096 := Nat.pow_lt_pow_right (a := 2) (n := 12) (by omega) (by omega)
      have hor := or4096 hm h2l
      obtain ⟨r, hr⟩ := bc_some (nI (ms p ||| 2 ^ l))
      have e7 : fX7_measure h (nI p) (nI l) = some (r, aU h 35 p (nI (ms p ||| 2 ^ l))) := by
        unfold fX7_measure
        rw [hv, bn_s, c_hasPaper hCV hwV, bn_s, hx, bi_it, c_hasLetter hCA (by omega) h12, bn_s, hy, bi_it, if_pos (ck_t (by omega) (by omega)), tn_nI (by omega), r8 p (by omega), shl1 l (by omega), fa_or, hr, bn_s]
      have e8 : fX8_measure (aU h 35 p (nI (ms p ||| 2 ^ l))) (nI p) (nI l) = some (r, aU (aU h 35 p (nI (ms p ||| 2 ^ l))) 66 p (nI (ms p ||| 2 ^ l))) := by
        have q1 : ∀ k, 54 ≤ k → aU h 35 p (nI (ms p ||| 2 ^ l)) k = h k := fun k hk => aU_ne (by omega)
        unfold fX8_measure
        rw [m_isLetter (V := V) (P := P) (bt := bt) (MV_c (by rw [q1 54 (by omega)]) (by rw [q1 54 (by omega)]) (by rw [q1 54 (by omega)]) (by rw [q1 54 (by omega)]) (fun k _ _ => q1 k (by omega)) m3) (MA_c w4 (fun i _ => by rw [q1 55 (by omega)]) m4) hwV hwP, bn_s, hx, tn_nI (by omega), hy]
        show (if bi true = 0 then _ else _) = _
        rw [bi_it, if_pos (ck_t (by omega) (by omega)), q1 66 (by omega), m8 p (by omega), shl1 l (by omega), fa_or, bc_ones _ hor, hr, bn_s]
      refine ⟨_, _, _, e7, e8, v, w, tx, ft, V, P, bt, sd, im, un, fun q => if q = p then ms p ||| 2 ^ l else ms q, bk, ?_, ?_, ⟨w1, w2, w3, w4, w5, w6, w7, w8, fun q => ?_, w10⟩⟩
      · have eq : ∀ k, k < 54 → k ≠ 35 → aU (aU h 35 p (nI (ms p ||| 2 ^ l))) 66 p (nI (ms p ||| 2 ^ l)) k = h k := fun k h1 h2 => by rw [aU_ne (by omega), aU_ne h2]
        refine ⟨by rw [eq 0 (by omega) (by omega)]; exact r1, TxC_c (eq 1 (by omega) (by omega)) (eq 2 (by omega) (by omega)) r2, CV_c (fun k _ _ => eq k (by omega) (by omega)) r3, CL_c (eq _ (by omega) (by omega)) r4, CA_c (fun k _ _ => eq k (by omega) (by omega)) r5, ImC_c (fun k _ _ => eq k (by omega) (by omega)) r6, UnC_c (fun k _ _ => eq k (by omega) (by omega)) r7, fun q hq => ?_, CB_c (fun k _ _ => eq k (by omega) (by omega)) r9⟩
        simp only [aU_rd]
        by_cases z : q = p
        · simp [z]
        · simp [z, r8 q hq]
      · have eq : ∀ k, 54 ≤ k → k ≠ 66 → aU (aU h 35 p (nI (ms p ||| 2 ^ l))) 66 p (nI (ms p ||| 2 ^ l)) k = h k := fun k h1 h2 => by rw [aU_ne h2, aU_ne (by omega)]
        refine ⟨by rw [eq 54 (by omega) (by omega)]; exact m1, TxM_c (by rw [eq 54 (by omega) (by omega)]) (eq 65 (by omega) (by omega)) m2, MV_c (by rw [eq 54 (by omega) (by omega)]) (by rw [eq 54 (by omega) (by omega)]) (by rw [eq 54 (by omega) (by omega)]) (by rw [eq 54 (by omega) (by omega)]) (fun k _ _ => eq k (by omega) (by omega)) m3, MA_c w4 (fun i _ => by rw [eq 55 (by omega) (by omega)]) m4, by rw [eq 55 (by omega) (by omega)]; exact m5, ImM_c w7 (eq 56 (by omega) (by omega)) (fun i _ _ => by rw [eq 55 (by omega) (by omega)]) m6, UnM_c w8 (by rw [eq 54 (by omega) (by omega)]) (fun i _ _ => by rw [eq 55 (by omega) (by omega)]) m7, fun q hq => ?_, MB_c (by rw [eq 54 (by omega) (by omega)]) (fun k _ _ => eq k (by omega) (by omega)) m9, fun j hj => by rw [eq 68 (by omega) (by omega)]; exact m10 j hj⟩
        simp only [aU_rd]
        by_cases z : q = p
        · simp [z]
        · simp [z, m8 q hq]
      · show (if q = p then ms p ||| 2 ^ l else ms q) < 4096
        by_cases z : q = p
        · rw [if_pos z]; exact hor
        · rw [if_neg z]; exact w9 q
end Ops5
