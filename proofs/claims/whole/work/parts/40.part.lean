/-! the greatest part of the beginnings that a letter leaves -/
theorem lk_form (V : Vd) (a t : Nat) : ∃ A B C, A < 9 ∧ B < 16 ∧ C < 10 ∧ lk V a t = 1000 * A + 10 * B + C := by
  refine ⟨(V 2 a + V 0 0 * t % 8) % 9, min 15 (V 3 a + dampS V t (rainS V (t / 12)) / 2), min 9 (V 4 a + if t % 12 < V 0 2 then 0 else 2), Nat.mod_lt _ (by omega), ?_, ?_, rfl⟩
  · have : min 15 (V 3 a + dampS V t (rainS V (t / 12)) / 2) ≤ 15 := Nat.min_le_left _ _
    omega
  · have : min 9 (V 4 a + if t % 12 < V 0 2 then 0 else 2) ≤ 9 := Nat.min_le_left _ _
    omega
def kd (y : Nat) : Nat := (y / 1000 * 16 + y % 1000 / 10) * 10 + y % 10
theorem kd_e (V : Vd) (a t : Nat) : kd (lk V a t) < 1440 ∧ fX1_kindOfLook (nI (lk V a t)) = some (nI (kd (lk V a t))) := by
  obtain ⟨A, B, C, hA, hB, hC, e⟩ := lk_form V a t
  have hk : kd (lk V a t) < 1440 := by unfold kd; omega
  have hl := lk_le (V := V) (a := a) (t := t)
  refine ⟨hk, ?_⟩
  have e1 : nI (lk V a t) / 1000 = nI (lk V a t / 1000) := pk_div (d := 1000) (by omega) (by omega) (by omega)
  have e2 : rmd (nI (lk V a t)) 1000 = nI (lk V a t % 1000) := rmd_nI (d := 1000) (by omega) (by omega) (by omega)
  have e3 : nI (lk V a t % 1000) / 10 = nI (lk V a t % 1000 / 10) := pk_div (d := 10) (by omega) (by omega) (by omega)
  have e4 : rmd (nI (lk V a t)) 10 = nI (lk V a t % 10) := rmd_nI (d := 10) (by omega) (by omega) (by omega)
  have e5 : (nI (lk V a t / 1000) * 16 + nI (lk V a t % 1000 / 10)) * 10 + nI (lk V a t % 10) = nI (kd (lk V a t)) := by
    rw [show (16 : Int32) = nI 16 from rfl, show (10 : Int32) = nI 10 from rfl, pk_mul, nI_add, pk_mul, nI_add]; rfl
  unfold fX1_kindOfLook
  rw [e1, e2, e3, e4, e5, if_neg (nI_pos (by omega)), if_pos (show nI _ < 1440 from nI_lt (b := 1440) hk (by omega))]
theorem kd_inj {V : Vd} {a t a2 t2 : Nat} (h : kd (lk V a t) = kd (lk V a2 t2)) : lk V a t = lk V a2 t2 := by
  obtain ⟨A, B, C, hA, hB, hC, e⟩ := lk_form V a t
  obtain ⟨A2, B2, C2, hA2, hB2, hC2, e2⟩ := lk_form V a2 t2
  unfold kd at h
  omega
def gp (f : Nat → Nat) : Nat → Nat
  | 0 => 0
  | j + 1 => max (gp f j) (ct (fun i => decide (f i = f j)) j + 1)
theorem gp_s (f : Nat → Nat) (j : Nat) : gp f (j + 1) = max (gp f j) (ct (fun i => decide (f i = f j)) j + 1) := rfl
theorem gp_le (f : Nat → Nat) : ∀ j, gp f j ≤ j
  | 0 => Nat.le_refl 0
  | j + 1 => by
    have h1 := gp_le f j
    have h2 := ct_le (fun i => decide (f i = f j)) j
    rw [gp_s]
    exact Nat.max_le.mpr ⟨by omega, by omega⟩
/-- the look that the j-th beginning gives the letter l -/
def fj (V : Vd) (ys : List Nat) (l j : Nat) : Nat := lk V (ys.getD j 0 / 96) (ys.getD j 0 % 96 + l)
theorem getN {L : List Nat} {i : Nat} (hi : i < L.length) : L[i]? = some (L.getD i 0) := by
  rw [List.getD_eq_getElem?_getD, List.getElem?_eq_getElem hi]; rfl
section Part
variable {h : aH} {v : Nat} {V : Vd} {L : List Lt} {m l : Nat}
theorem bx_at {x : Nat} (hb : bx V L m x = true) : x % 96 + L.length ≤ 96 := by
  unfold bx fb at hb
  rw [Bool.and_eq_true] at hb
  exact of_decide_eq_true hb.1
theorem ys_at (hl : l < L.length) {j : Nat} (hj : j < (bl (bx V L m) (96 * V 0 4)).length) : (bl (bx V L m) (96 * V 0 4)).getD j 0 / 96 < V 0 4 ∧ (bl (bx V L m) (96 * V 0 4)).getD j 0 % 96 + l < 96 := by
  have h1 := bl_mem _ _ _ (List.mem_of_getElem? (getN hj))
  have := bx_at h1.2
  omega
theorem c_partA (hw : wfV V) (hv : v = 36 ∨ v = 45) (hl : l < L.length) (K : aH → Option (Int32 × aH)) : ∀ d j n (h : aH), j + d = (bl (bx V L m) (96 * V 0 4)).length → d < n → CV h v V → CL h v V → GB h (bx V L m) (96 * V 0 4) → ∃ h2, fX1_greatestPart_L2 K v (nI l) n h (nI j) = K h2 ∧ (∀ k, k ≠ 31 → k ≠ 32 → h2 k = h k) ∧ (∀ i, i < j → h2 31 i = h 31 i) ∧ (∀ i, j ≤ i → i < (bl (bx V L m) (96 * V 0 4)).length → h2 31 i = nI (kd (fj V (bl (bx V L m) (96 * V 0 4)) l i))) ∧ (∀ q, h2 32 q = h 32 q ∨ h2 32 q = 0) ∧ (∀ i, j ≤ i → i < (bl (bx V L m) (96 * V 0 4)).length → h2 32 (kd (fj V (bl (bx V L m) (96 * V 0 4)) l i)) = 0)
  | d, j, 0, _, _, hn, _, _, _ => absurd hn (by omega)
  | 0, j, n + 1, h, hj, hn, hC, hL, hG => by
    have b1 := bl_len (bx V L m) (96 * V 0 4)
    have w4 := hw.1.2.2.2.2.1
    refine ⟨h, ?_, fun _ _ _ => rfl, fun _ _ => rfl, fun i h1 h2 => by omega, fun _ => Or.inl rfl, fun i h1 h2 => by omega⟩
    rw [fX1_greatestPart_L2, hG.1, if_pos (nI_le (by omega) (by omega))]
  | d + 1, j, n + 1, h, hj, hn, hC, hL, hG => by
    have b1 := bl_len (bx V L m) (96 * V 0 4)
    have w4 := hw.1.2.2.2.2.1
    have ht := hG.2 j _ (getN (by omega))
    obtain ⟨y1, y2⟩ := ys_at (V := V) (m := m) hl (j := j) (by omega)
    obtain ⟨k1, k2⟩ := kd_e V ((bl (bx V L m) (96 * V 0 4)).getD j 0 / 96) ((bl (bx V L m) (96 * V 0 4)).getD j 0 % 96 + l)
    have q : ∀ k, k ≠ 31 → k ≠ 32 → aU (aU h 31 j (nI (kd (fj V (bl (bx V L m) (96 * V 0 4)) l j)))) 32 (kd (fj V (bl (bx V L m) (96 * V 0 4)) l j)) 0 k = h k := fun k x y => by rw [aU_ne y, aU_ne x]
    obtain ⟨h2, e1, e2, e3, e4, e5, e6⟩ := c_partA hw hv hl K d (j + 1) n (aU (aU h 31 j (nI (kd (fj V (bl (bx V L m) (96 * V 0 4)) l j)))) 32 (kd (fj V (bl (bx V L m) (96 * V 0 4)) l j)) 0) (by omega) (by omega) (CV_c (fun k _ _ => q k (by omega) (by omega)) hC) (CL_c (q _ (by omega) (by omega)) hL) (GB_c (fun k _ _ => q k (by omega) (by omega)) hG)
    refine ⟨h2, ?_, fun k x y => by rw [e2 k x y, q k x y], fun i hi => ?_, fun i h1 h3 => ?_, fun z => ?_, fun i h1 h3 => ?_⟩
    · rw [fX1_greatestPart_L2, hG.1, if_neg (nI_ge (by omega) (by omega)), if_pos (ck_t (by omega) (by omega)), tn_nI (by omega), ht.1, ht.2, nI_add, c_look hC hL hw y1 y2, bn_s, k2, bn_s, if_pos (ck_t k1 (by omega)), tn_nI (by omega), nI_1]
      exact e1
    · rw [e3 i (by omega), aU_ne (by omega)]; simp only [aU_rd, if_true]; rw [if_neg (by omega)]
    · rcases Nat.lt_or_ge j i with z | z
      · exact e4 i z h3
      · have : i = j := by omega
        subst this
        rw [e3 i (by omega), aU_ne (by omega)]; simp only [aU_rd, if_true]
    · rcases e5 z with y | y
      · rw [y]
        simp only [aU_rd, if_true]
        by_cases g : z = kd (fj V (bl (bx V L m) (96 * V 0 4)) l j)
        · rw [if_pos g]; exact Or.inr rfl
        · rw [if_neg g, if_neg (by omega)]; exact Or.inl rfl
      · exact Or.inr y
    · rcases Nat.lt_or_ge j i with z | z
      · exact e6 i z h3
      · have : i = j := by omega
        subst this
        rcases e5 (kd (fj V (bl (bx V L m) (96 * V 0 4)) l i)) with y | y
        · rw [y]; simp only [aU_rd, if_true]
        · exact y
theorem kd_ne {ys : List Nat} {i j : Nat} (h : ¬ fj V ys l i = fj V ys l j) : ¬ kd (fj V ys l i) = kd (fj V ys l j) := fun z => h (kd_inj z)
theorem c_partB {ys : List Nat} (hys : ys.length ≤ 384) (K : aH → Int32 → Option (Int32 × aH)) : ∀ d j n (h : aH), j + d = ys.length → d < n → h 28 4 = nI ys.length → (∀ i, i < ys.length → h 31 i = nI (kd (fj V ys l i))) → (∀ i, i < ys.length → h 32 (kd (fj V ys l i)) = nI (ct (fun u => decide (fj V ys l u = fj V ys l i)) j)) → ∃ h2, fX1_greatestPart_L60 K n h (nI (gp (fj V ys l) j)) (nI j) = K h2 (nI (gp (fj V ys l) ys.length)) ∧ (∀ k, k ≠ 32 → h2 k = h k)
  | d, j, 0, _, _, hn, _, _, _ => absurd hn (by omega)
  | 0, j, n + 1, h, hj, hn, h28, h31, h32 => by
    have : j = ys.length := by omega
    subst this
    refine ⟨h, ?_, fun _ _ => rfl⟩
    rw [fX1_greatestPart_L60, h28, if_pos (nI_le (by omega) (by omega))]
  | d + 1, j, n + 1, h, hj, hn, h28, h31, h32 => by
    have k1 : kd (fj V ys l j) < 1440 := (kd_e V _ _).1
    have g1 := gp_le (fj V ys l) j
    have g2 := ct_le (fun u => decide (fj V ys l u = fj V ys l j)) j
    obtain ⟨h2, e1, e2⟩ := c_partB hys K d (j + 1) n (aU h 32 (kd (fj V ys l j)) (nI (ct (fun u => decide (fj V ys l u = fj V ys l j)) j + 1))) (by omega) (by omega) (by rw [aU_ne (by omega)]; exact h28) (fun i hi => by rw [aU_ne (by omega)]; exact h31 i hi) (fun i hi => by
      rw [ct_s]
      by_cases g : fj V ys l j = fj V ys l i
      · rw [show kd (fj V ys l i) = kd (fj V ys l j) by rw [g]]
        simp only [aU_rd, if_true]
        rw [decide_eq_true g, if_pos rfl, g]
      · simp only [aU_rd, if_true]
        rw [if_neg (kd_ne (fun z => g z.symm)), decide_eq_false g, if_neg (by decide), Nat.add_zero]
        exact h32 i hi)
    refine ⟨h2, ?_, fun k hk => by rw [e2 k hk, aU_ne hk]⟩
    rw [fX1_greatestPart_L60, h28, if_neg (nI_ge (by omega) (by omega)), if_pos (ck_t (by omega) (by omega)), tn_nI (by omega), h31 j (by omega), if_pos (ck_t k1 (by omega)), tn_nI (by omega), h32 j (by omega), nI_1, nI_1]
    have em : (if nI (gp (fj V ys l) j) < nI (ct (fun u => decide (fj V ys l u = fj V ys l j)) j + 1) then nI (ct (fun u => decide (fj V ys l u = fj V ys l j)) j + 1) else nI (gp (fj V ys l) j)) = nI (gp (fj V ys l) (j + 1)) := by
      rw [gp_s]
      by_cases g : gp (fj V ys l) j < ct (fun u => decide (fj V ys l u = fj V ys l j)) j + 1
      · rw [if_pos (nI_lt g (by omega)), Nat.max_eq_right (by omega)]
      · rw [if_neg (nI_nlt (by omega) (by omega)), Nat.max_eq_left (by omega)]
    rw [em]
    exact e1
theorem c_part (hC : CV h v V) (hL : CL h v V) (hw : wfV V) (hv : v = 36 ∨ v = 45) (hG : GB h (bx V L m) (96 * V 0 4)) (hl : l < L.length) : ∃ h2, fX1_greatestPart h v (nI l) = some (nI (gp (fj V (bl (bx V L m) (96 * V 0 4)) l) (bl (bx V L m) (96 * V 0 4)).length), h2) ∧ (∀ k, k ≠ 31 → k ≠ 32 → h2 k = h k) := by
  have b1 := bl_len (bx V L m) (96 * V 0 4)
  have w4 := hw.1.2.2.2.2.1
  obtain ⟨h1, a1, a2, a3, a4, a5, a6⟩ := c_partA hw hv hl (fun h8 => fX1_greatestPart_L60 (fun h13 z12 => some (z12, h13)) 1000 h8 0 0) (bl (bx V L m) (96 * V 0 4)).length 0 1000 h (by omega) (by omega) hC hL hG
  obtain ⟨h2, c1, c2⟩ := c_partB (V := V) (l := l) (ys := bl (bx V L m) (96 * V 0 4)) (by omega) (fun h13 z12 => some (z12, h13)) (bl (bx V L m) (96 * V 0 4)).length 0 1000 h1 (by omega) (by omega) (by rw [a2 28 (by omega) (by omega)]; exact hG.1) (fun i hi => a4 i (by omega) hi) (fun i hi => a6 i (by omega) hi)
  refine ⟨h2, ?_, fun k x y => by rw [c2 k y, a2 k x y]⟩
  unfold fX1_greatestPart
  exact a1.trans c1
theorem lk96 (x : Nat) (hx : x < 384) : nI x / 96 = nI (x / 96) ∧ rmd (nI x) 96 = nI (x % 96) := ⟨pk_div (d := 96) (by omega) (by omega) (by omega), rmd_nI (d := 96) (by omega) (by omega) (by omega)⟩
theorem e96 (hV : MV h V) : 96 * h 54 11 = nI (96 * V 0 4) := by rw [hV.1.2.2.2.2.2.1, show (96 : Int32) = nI 96 from rfl, pk_mul]
theorem m_partA (hw : wfV V) (hl : l < L.length) (K : aH → Int32 → Option (Int32 × aH)) : ∀ d x n (h : aH), x + d = 96 * V 0 4 → d < n → MV h V → FB h (bx V L m) (96 * V 0 4) → (∀ q, q < 10000 → h 68 q = nI (ct (fun u => decide (fj V (bl (bx V L m) (96 * V 0 4)) l u = q)) (bl (bx V L m) x).length)) → ∃ h2, fX8_greatestPart_L4 K (nI l) n h (nI (gp (fj V (bl (bx V L m) (96 * V 0 4)) l) (bl (bx V L m) x).length)) (nI x) = K h2 (nI (gp (fj V (bl (bx V L m) (96 * V 0 4)) l) (bl (bx V L m) (96 * V 0 4)).length)) ∧ (∀ k, k ≠ 68 → h2 k = h k) ∧ (∀ q, q < 10000 → h2 68 q = nI (ct (fun u => decide (fj V (bl (bx V L m) (96 * V 0 4)) l u = q)) (bl (bx V L m) (96 * V 0 4)).length))
  | d, x, 0, _, _, hn, _, _, _ => absurd hn (by omega)
  | 0, x, n + 1, h, hx, hn, hV, hF, hA => by
    have w4 := hw.1.2.2.2.2.1
    have : x = 96 * V 0 4 := by omega
    subst this
    refine ⟨h, ?_, fun _ _ => rfl, hA⟩
    rw [fX8_greatestPart_L4, e96 hV, if_pos (nI_le (by omega) (by omega))]
  | d + 1, x, n + 1, h, hx, hn, hV, hF, hA => by
    have w4 := hw.1.2.2.2.2.1
    rw [fX8_greatestPart_L4, e96 hV, if_neg (nI_ge (by omega) (by omega)), if_pos (ck_t (by omega) (by omega)), tn_nI (by omega), hF x (by omega), nI_1]
    cases hb : bx V L m x with
    | false =>
      rw [show bi false = 0 from rfl, if_pos rfl]
      have := m_partA hw hl K d (x + 1) n h (by omega) (by omega) hV hF (by rw [bl_s, hb]; exact hA)
      rw [bl_s, hb] at this
      exact this
    | true =>
      rw [show bi true = 1 from rfl, if_neg (by decide)]
      have hbx := bx_at hb
      obtain ⟨l1, l2⟩ := lk96 x (by omega)
      have hll := lk_le (V := V) (a := x / 96) (t := x % 96 + l)
      have b1 := bl_len (bx V L m) x
      have ej : fj V (bl (bx V L m) (96 * V 0 4)) l (bl (bx V L m) x).length = lk V (x / 96) (x % 96 + l) := by
        have := bl_at hb (96 * V 0 4 - (x + 1))
        rw [show x + 1 + (96 * V 0 4 - (x + 1)) = 96 * V 0 4 by omega] at this
        unfold fj
        rw [List.getD_eq_getElem?_getD, this]; rfl
      have g1 := gp_le (fj V (bl (bx V L m) (96 * V 0 4)) l) (bl (bx V L m) x).length
      have g2 := ct_le (fun u => decide (fj V (bl (bx V L m) (96 * V 0 4)) l u = lk V (x / 96) (x % 96 + l))) (bl (bx V L m) x).length
      have q : ∀ k, k ≠ 68 → aU h 68 (lk V (x / 96) (x % 96 + l)) (nI (ct (fun u => decide (fj V (bl (bx V L m) (96 * V 0 4)) l u = lk V (x / 96) (x % 96 + l))) (bl (bx V L m) x).length + 1)) k = h k := fun k hk => aU_ne hk
      obtain ⟨h2, e1, e2, e3⟩ := m_partA hw hl K d (x + 1) n (aU h 68 (lk V (x / 96) (x % 96 + l)) (nI (ct (fun u => decide (fj V (bl (bx V L m) (96 * V 0 4)) l u = lk V (x / 96) (x % 96 + l))) (bl (bx V L m) x).length + 1))) (by omega) (by omega) (MV_c (by rw [q 54 (by omega)]) (by rw [q 54 (by omega)]) (by rw [q 54 (by omega)]) (by rw [q 54 (by omega)]) (fun k _ _ => q k (by omega)) hV) (fun y hy => by rw [q 67 (by omega)]; exact hF y hy) (fun z hz => by
        rw [bl_s, hb, if_pos rfl, List.length_append]
        show _ = nI (ct _ ((bl (bx V L m) x).length + 1))
        rw [ct_s, ej]
        simp only [aU_rd, if_true]
        by_cases g : z = lk V (x / 96) (x % 96 + l)
        · rw [if_pos g, g, decide_eq_true rfl, if_pos rfl]
        · rw [if_neg g, decide_eq_false (fun y => g y.symm), if_neg (by decide), Nat.add_zero]
          exact hA z hz)
      rw [l1, l2, nI_add, m_look hV hw (by omega) (by omega), bn_s, if_pos (ck_t (by omega) (by omega)), tn_nI (by omega), hA _ (by omega), nI_1]
      rw [bl_s, hb, if_pos rfl, List.length_append] at e1
      have e1 : fX8_greatestPart_L4 K (nI l) n _ (nI (gp (fj V (bl (bx V L m) (96 * V 0 4)) l) ((bl (bx V L m) x).length + 1))) (nI (x + 1)) = _ := e1
      rw [gp_s, ej] at e1
      refine ⟨h2, ?_, fun k hk => by rw [e2 k hk, q k hk], e3⟩
      by_cases g : ct (fun u => decide (fj V (bl (bx V L m) (96 * V 0 4)) l u = lk V (x / 96) (x % 96 + l))) (bl (bx V L m) x).length + 1 ≤ gp (fj V (bl (bx V L m) (96 * V 0 4)) l) (bl (bx V L m) x).length
      · rw [if_pos (nI_le g (by omega))]
        rw [Nat.max_eq_left g] at e1
        exact e1
      · rw [if_neg (nI_ge (by omega) (by omega))]
        rw [Nat.max_eq_right (by omega)] at e1
        exact e1
theorem m_partB (hw : wfV V) (hl : l < L.length) (z0 : Int32) (K : aH → Option (Int32 × aH)) : ∀ d x n (h : aH), x + d = 96 * V 0 4 → d < n → MV h V → FB h (bx V L m) (96 * V 0 4) → (∀ q, q < 10000 → h 68 q = 0 ∨ ∃ y, x ≤ y ∧ y < 96 * V 0 4 ∧ bx V L m y = true ∧ lk V (y / 96) (y % 96 + l) = q) → ∃ h2, fX8_greatestPart_L82 K (nI l) z0 n h (nI x) = K h2 ∧ (∀ k, k ≠ 68 → h2 k = h k) ∧ (∀ q, q < 10000 → h2 68 q = 0)
  | d, x, 0, _, _, hn, _, _, _ => absurd hn (by omega)
  | 0, x, n + 1, h, hx, hn, hV, hF, hA => by
    have w4 := hw.1.2.2.2.2.1
    refine ⟨h, ?_, fun _ _ => rfl, fun q hq => ?_⟩
    · rw [fX8_greatestPart_L82, e96 hV, if_pos (nI_le (by omega) (by omega))]
    · rcases hA q hq with z | ⟨y, y1, y2, _⟩
      · exact z
      · omega
  | d + 1, x, n + 1, h, hx, hn, hV, hF, hA => by
    have w4 := hw.1.2.2.2.2.1
    rw [fX8_greatestPart_L82, e96 hV, if_neg (nI_ge (by omega) (by omega)), if_pos (ck_t (by omega) (by omega)), tn_nI (by omega), hF x (by omega), nI_1]
    cases hb : bx V L m x with
    | false =>
      rw [show bi false = 0 from rfl, if_pos rfl]
      refine m_partB hw hl z0 K d (x + 1) n h (by omega) (by omega) hV hF (fun q hq => ?_)
      rcases hA q hq with z | ⟨y, y1, y2, y3, y4⟩
      · exact Or.inl z
      · have : y ≠ x := fun z => by rw [z, hb] at y3; cases y3
        exact Or.inr ⟨y, by omega, y2, y3, y4⟩
    | true =>
      rw [show bi true = 1 from rfl, if_neg (by decide)]
      have hbx := bx_at hb
      obtain ⟨l1, l2⟩ := lk96 x (by omega)
      have hll := lk_le (V := V) (a := x / 96) (t := x % 96 + l)
      have q : ∀ k, k ≠ 68 → aU h 68 (lk V (x / 96) (x % 96 + l)) 0 k = h k := fun k hk => aU_ne hk
      obtain ⟨h2, e1, e2, e3⟩ := m_partB hw hl z0 K d (x + 1) n (aU h 68 (lk V (x / 96) (x % 96 + l)) 0) (by omega) (by omega) (MV_c (by rw [q 54 (by omega)]) (by rw [q 54 (by omega)]) (by rw [q 54 (by omega)]) (by rw [q 54 (by omega)]) (fun k _ _ => q k (by omega)) hV) (fun y hy => by rw [q 67 (by omega)]; exact hF y hy) (fun z hz => by
        simp only [aU_rd, if_true]
        by_cases g : z = lk V (x / 96) (x % 96 + l)
        · rw [if_pos g]; exact Or.inl rfl
        · rw [if_neg g]
          rcases hA z hz with u | ⟨y, y1, y2, y3, y4⟩
          · exact Or.inl u
          · have : y ≠ x := fun u => g (by rw [← y4, u])
            exact Or.inr ⟨y, by omega, y2, y3, y4⟩)
      rw [l1, l2, nI_add, m_look hV hw (by omega) (by omega), bn_s, if_pos (ck_t (by omega) (by omega)), tn_nI (by omega)]
      exact ⟨h2, e1, fun k hk => by rw [e2 k hk, q k hk], e3⟩
theorem m_part (hV : MV h V) (hw : wfV V) (hF : FB h (bx V L m) (96 * V 0 4)) (h0 : ∀ q, q < 10000 → h 68 q = 0) (hl : l < L.length) : ∃ h2, fX8_greatestPart h (nI l) = some (nI (gp (fj V (bl (bx V L m) (96 * V 0 4)) l) (bl (bx V L m) (96 * V 0 4)).length), h2) ∧ (∀ k, k ≠ 68 → h2 k = h k) ∧ (∀ q, q < 10000 → h2 68 q = 0) := by
  have w4 := hw.1.2.2.2.2.1
  have b1 := bl_len (bx V L m) (96 * V 0 4)
  obtain ⟨h1, a1, a2, a3⟩ := m_partA (m := m) hw hl (fun h9 z8 => fX8_greatestPart_L82 (fun h16 => some (z8, h16)) (nI l) z8 1000 h9 0) (96 * V 0 4) 0 1000 h (by omega) (by omega) hV hF (fun q hq => h0 q hq)
  obtain ⟨h2, c1, c2, c3⟩ := m_partB (m := m) hw hl (nI (gp (fj V (bl (bx V L m) (96 * V 0 4)) l) (bl (bx V L m) (96 * V 0 4)).length)) (fun h16 => some (nI (gp (fj V (bl (bx V L m) (96 * V 0 4)) l) (bl (bx V L m) (96 * V 0 4)).length), h16)) (96 * V 0 4) 0 1000 h1 (by omega) (by omega) (MV_c (by rw [a2 54 (by omega)]) (by rw [a2 54 (by omega)]) (by rw [a2 54 (by omega)]) (by rw [a2 54 (by omega)]) (fun k _ _ => a2 k (by omega)) hV) (fun y hy => by rw [a2 67 (by omega)]; exact hF y hy) (fun q hq => by
    rw [a3 q hq]
    by_cases g : ct (fun u => decide (fj V (bl (bx V L m) (96 * V 0 4)) l u = q)) (bl (bx V L m) (96 * V 0 4)).length = 0
    · rw [g]; exact Or.inl rfl
    · right
      have : ∃ j, j < (bl (bx V L m) (96 * V 0 4)).length ∧ fj V (bl (bx V L m) (96 * V 0 4)) l j = q := by
        refine Classical.byContradiction (fun no => g ((ct_0 _ _).mpr (fun j hj => decide_eq_false (fun e => no ⟨j, hj, e⟩))))
      obtain ⟨j, hj, e⟩ := this
      have mm := bl_mem _ _ _ (List.mem_of_getElem? (getN hj))
      exact ⟨_, Nat.zero_le _, mm.1, mm.2, e⟩)
  refine ⟨h2, ?_, fun k hk => by rw [c2 k hk, a2 k hk], c3⟩
  unfold fX8_greatestPart
  exact a1.trans c1
def bL (G : Nat → Int32) : Nat → Nat → Int32 → Int32 → Int32
  | 0, _, be, _ => be
  | d + 1, l, be, le => if le ≤ G l then bL G d (l + 1) be le else bL G d (l + 1) (nI l) (G l)
def Gl (V : Vd) (L : List Lt) (m : Nat) : Nat → Int32 := fun l => nI (gp (fj V (bl (bx V L m) (96 * V 0 4)) l) (bl (bx V L m) (96 * V 0 4)).length)
theorem c_best (hw : wfV V) (hv : v = 36 ∨ v = 45) (h12 : L.length ≤ 12) (K : aH → Int32 → Option (Int32 × aH)) : ∀ d l n (h : aH) be le, l + d = L.length → d < n → CV h v V → CL h v V → GB h (bx V L m) (96 * V 0 4) → ∃ h2, fX1_bestLetter_L11 K v (nI L.length) n h be le (nI l) = K h2 (bL (Gl V L m) d l be le) ∧ (∀ k, k ≠ 31 → k ≠ 32 → h2 k = h k)
  | d, l, 0, _, _, _, _, hn, _, _, _ => absurd hn (by omega)
  | 0, l, n + 1, h, be, le, hl, hn, hC, hL, hG => by
    refine ⟨h, ?_, fun _ _ _ => rfl⟩
    rw [fX1_bestLetter_L11, if_pos (nI_le (by omega) (by omega))]
    rfl
  | d + 1, l, n + 1, h, be, le, hl, hn, hC, hL, hG => by
    obtain ⟨h1, a1, a2⟩ := c_part hC hL hw hv hG (l := l) (by omega)
    have C1 := CV_c (fun k _ _ => a2 k (by omega) (by omega)) hC
    have L1 := CL_c (a2 _ (by omega) (by omega)) hL
    have G1 := GB_c (fun k _ _ => a2 k (by omega) (by omega)) hG
    rw [fX1_bestLetter_L11, if_neg (nI_ge (by omega) (by omega)), a1, bn2_s, nI_1]
    unfold bL
    by_cases g : le ≤ Gl V L m l
    · obtain ⟨h2, e1, e2⟩ := c_best hw hv h12 K d (l + 1) n h1 be le (by omega) (by omega) C1 L1 G1
      rw [if_pos g]
      refine ⟨h2, ?_, fun k x y => by rw [e2 k x y, a2 k x y]⟩
      exact (if_pos g).trans e1
    · obtain ⟨h2, e1, e2⟩ := c_best hw hv h12 K d (l + 1) n h1 (nI l) (Gl V L m l) (by omega) (by omega) C1 L1 G1
      rw [if_neg g]
      refine ⟨h2, ?_, fun k x y => by rw [e2 k x y, a2 k x y]⟩
      exact (if_neg g).trans e1
theorem m_best {P : Ps} {bt p : Nat} (hw : wfV V) (hP : wfP V P) (hp : p < 4) (r : Int32) (K : aH → Int32 → Option (Int32 × aH)) : ∀ d l n (h : aH) be le, l + d = (P p).length → d < n → MV h V → MA h 0 P bt → FB h (bx V (P p) m) (96 * V 0 4) → (∀ q, q < 10000 → h 68 q = 0) → ∃ h2, fX8_next_L39 K (nI p) 1 r n h be le (nI l) = K h2 (bL (Gl V (P p) m) d l be le) ∧ (∀ k, k ≠ 68 → h2 k = h k) ∧ (∀ q, q < 10000 → h2 68 q = 0)
  | d, l, 0, _, _, _, _, hn, _, _, _, _ => absurd hn (by omega)
  | 0, l, n + 1, h, be, le, hl, hn, hV, hM, hF, h0 => by
    have h12 := (hP p).1
    refine ⟨h, ?_, fun _ _ => rfl, h0⟩
    rw [fX8_next_L39, if_pos (ck48 hp), m_count hM hp, if_pos (nI_le (by omega) (by omega))]
    rfl
  | d + 1, l, n + 1, h, be, le, hl, hn, hV, hM, hF, h0 => by
    have h12 := (hP p).1
    obtain ⟨h1, a1, a2, a3⟩ := m_part hV hw hF h0 (l := l) (by omega)
    have V1 : MV h1 V := MV_c (by rw [a2 54 (by omega)]) (by rw [a2 54 (by omega)]) (by rw [a2 54 (by omega)]) (by rw [a2 54 (by omega)]) (fun k _ _ => a2 k (by omega)) hV
    have M1 : MA h1 0 P bt := MA_c hP (fun i _ => by rw [a2 55 (by omega)]) hM
    have F1 : FB h1 (bx V (P p) m) (96 * V 0 4) := fun y hy => by rw [a2 67 (by omega)]; exact hF y hy
    rw [fX8_next_L39, if_pos (ck48 hp), m_count hM hp, if_neg (nI_ge (by omega) (by omega)), if_pos rfl, a1, bn2_s, nI_1]
    unfold bL
    by_cases g : le ≤ Gl V (P p) m l
    · obtain ⟨h2, e1, e2, e3⟩ := m_best hw hP hp r K d (l + 1) n h1 be le (by omega) (by omega) V1 M1 F1 a3
      rw [if_pos g]
      refine ⟨h2, ?_, fun k x => by rw [e2 k x, a2 k x], e3⟩
      exact (if_pos g).trans e1
    · obtain ⟨h2, e1, e2, e3⟩ := m_best hw hP hp r K d (l + 1) n h1 (nI l) (Gl V (P p) m l) (by omega) (by omega) V1 M1 F1 a3
      rw [if_neg g]
      refine ⟨h2, ?_, fun k x => by rw [e2 k x, a2 k x], e3⟩
      exact (if_neg g).trans e1
end Part
section OpNext
variable {h : aH} {v w : Nat} {tx : List Nat} {ft : Int32} {V : Vd} {P : Ps} {bt sd : Nat} {im : Im} {un : Un} {ms : Nat → Nat} {bk : Bk}
theorem op_next (hC : RC h v w tx ft V P bt sd im un ms bk) (hM : RM h tx ft V P bt sd im un ms bk) (hW : WF v w tx V P bt sd im un ms bk) (x y : Int32) : Ok2 h (fun h => fX7_next h x y) (fun h => fX8_next h x y) := by
  have hI : Inv h := ⟨v, w, tx, ft, V, P, bt, sd, im, un, ms, bk, hC, hM, hW⟩
  obtain ⟨hv, hCV, hCL, hCA, hMV, hMA, hwV, hwP⟩ := RD_of hC hM hW
  have hW0 := hW
  have hM0 := hM
  obtain ⟨w1, w2, w3, w4, w5, w6, w7, w8, w9, w10⟩ := hW
  obtain ⟨r1, r2, r3, r4, r5, r6, r7, r8, r9⟩ := hC
  have hv36 : v = 36 ∨ v = 45 := by omega
  have v4 := w3.1.2.2.2.2.1
  have v5 := w3.1.2.2.2.2.2.1
  cases hx : ck x (V 0 5) with
  | false =>
    refine Ok2_same (r := -1000000001) hI ?_ ?_
    · show fX7_next h x y = _
      unfold fX7_next; rw [hv, bn_s, c_hasPaper hCV hwV, bn_s, hx]; rfl
    · show fX8_next h x y = _
      unfold fX8_next; rw [m_isPaper hMV hwV, bn_s, hx]; rfl
  | true =>
    obtain ⟨p, hp, rfl⟩ := ck_of (by omega) hx
    have h12 := (w4 p).1
    have hm := w9 p
    rcases rng2 y with ⟨i, hi, rfl⟩ | ⟨g0, g1, g2⟩
    · obtain ⟨h1, a1, a2, a3⟩ := c_gather (m := ms p) hCV hCL w3 w4 hCA hv36 (p := p) (by omega) hm
      have hv1 : vl (h1 0 9) = some v := by rw [a2 0 (by omega)]; exact hv
      have s7 : fX7_next h (nI p) (nI i) = if nI i = 0 then some (h1 28 4, h1) else bn (vl (h1 0 9)) (fun v11 => bn (fX0_countOf h1 3 (nI p)) (fun r13 => bn2 (fX1_bestLetter h1 v11 r13) (fun r16 h15 => some (r16, h15)))) := by
        unfold fX7_next
        rw [hv, bn_s, c_hasPaper hCV hwV, bn_s, hx, bi_it, if_neg (nI_pos (by omega)), if_pos (show nI i ≤ 1 from nI_le (b := 1) (by omega) (by omega)), if_pos (ck_t (by omega) (by omega)), tn_nI (by omega), r8 p (by omega), a1, bn_s]
      have s8 : ∀ g : aH, MV g V → fX8_next g (nI p) (nI i) = bn2 (fX8_findBegins g (nI p)) (fun r9 h8 => fX8_next_L39 (fun h18 z17 => if nI i = 0 then some (r9, h18) else some (z17, h18)) (nI p) (nI i) r9 1000 h8 (-1) r9 0) := by
        intro g hg
        unfold fX8_next
        rw [m_isPaper hg hwV, bn_s, hx, bi_it, in2 hi, bn_s, bi_it]
      rcases (by omega : i = 0 ∨ i = 1) with rfl | rfl
      · have qm : ∀ k, 54 ≤ k → h1 k = h k := fun k hk => a2 k (by omega)
        obtain ⟨n1, n2, n3, n4, n5, n6, n7, n8, n9, n10⟩ := RM_c hW0 qm hM0
        obtain ⟨h2, b1, b2, b3⟩ := m_find n3 w3 w4 n4 n8 w9 (p := p) (by omega)
        refine ⟨nI (bl (bx V (P p) (ms p)) (96 * V 0 4)).length, h1, h2, ?_, ?_, Inv_x hI (fun k x y z u => by rw [b2 k y, a2 k (by omega)]) (fun j hj => by rw [b2 68 (by omega)]; exact n10 j hj)⟩
        · show fX7_next h (nI p) (nI 0) = _
          rw [s7, if_pos (show nI 0 = 0 from rfl), a3.1]
        · show fX8_next h1 (nI p) (nI 0) = _
          rw [s8 h1 n3, b1, bn2_s, fX8_next_L39, if_pos (ck48 (by omega)), if_neg (show ¬ nI 0 = 1 by decide), ite_self]
          rfl
      · have C1 : CV h1 v V := CV_c (fun k _ _ => a2 k (by omega)) hCV
        have L1 : CL h1 v V := CL_c (a2 _ (by omega)) hCL
        have A1 : CA h1 3 P bt sd := CA_c (fun k _ _ => a2 k (by omega)) hCA
        obtain ⟨h3, c1, c2⟩ := c_best (m := ms p) w3 hv36 h12 (fun h7 z6 => some (z6, h7)) (P p).length 0 1000 h1 (-1) (nI (bl (bx V (P p) (ms p)) (96 * V 0 4)).length) (by omega) (by omega) C1 L1 a3
        have q3 : ∀ k, k < 28 ∨ 33 ≤ k → h3 k = h k := fun k hk => by rw [c2 k (by omega) (by omega), a2 k (by omega)]
        have qm : ∀ k, 54 ≤ k → h3 k = h k := fun k hk => q3 k (by omega)
        obtain ⟨n1, n2, n3, n4, n5, n6, n7, n8, n9, n10⟩ := RM_c hW0 qm hM0
        obtain ⟨h4, b1, b2, b3⟩ := m_find n3 w3 w4 n4 n8 w9 (p := p) (by omega)
        have V4 : MV h4 V := MV_c (by rw [b2 54 (by omega)]) (by rw [b2 54 (by omega)]) (by rw [b2 54 (by omega)]) (by rw [b2 54 (by omega)]) (fun k _ _ => b2 k (by omega)) n3
        obtain ⟨h5, d1, d2, d3⟩ := m_best (m := ms p) w3 w4 (p := p) (by omega) (nI (bl (bx V (P p) (ms p)) (96 * V 0 4)).length) (fun h18 z17 => if nI 1 = 0 then some (nI (bl (bx V (P p) (ms p)) (96 * V 0 4)).length, h18) else some (z17, h18)) (P p).length 0 1000 h4 (-1) (nI (bl (bx V (P p) (ms p)) (96 * V 0 4)).length) (by omega) (by omega) V4 (MA_c w4 (fun i _ => by rw [b2 55 (by omega)]) n4) b3 (fun q hq => by rw [b2 68 (by omega)]; exact n10 q hq)
        refine ⟨bL (Gl V (P p) (ms p)) (P p).length 0 (-1) (nI (bl (bx V (P p) (ms p)) (96 * V 0 4)).length), h3, h5, ?_, ?_, Inv_x hI (fun k x y z u => by rw [d2 k z, b2 k y, q3 k (by omega)]) d3⟩
        · show fX7_next h (nI p) (nI 1) = _
          rw [s7, if_neg (by decide), hv1, bn_s, c_count A1 (by omega), bn_s]
          unfold fX1_bestLetter
          rw [a3.1, show fX1_bestLetter_L11 (fun h7 z6 => some (z6, h7)) v (nI (P p).length) 1000 h1 (-1) (nI (bl (bx V (P p) (ms p)) (96 * V 0 4)).length) 0 = _ from c1, bn2_s]
        · show fX8_next h3 (nI p) (nI 1) = _
          rw [s8 h3 n3, b1, bn2_s]
          exact d1
    · refine Ok2_same (r := -1000000002) hI ?_ ?_
      · show fX7_next h (nI p) y = _
        unfold fX7_next
        rw [hv, bn_s, c_hasPaper hCV hwV, bn_s, hx, bi_it]
        have hc : ck y 2 = false := by
          rw [in_0 1 1 (by omega) rfl] at g2
          exact Option.some.inj g2
        by_cases z : y < 0
        · rw [if_pos z]
        · have z2 : ¬ y ≤ 1 := fun u => by
            have : ck y 2 = true := by
              refine ck_iff.mpr ⟨?_, ?_⟩
              · rw [fa_lt] at z
                have z : ¬ y.toInt < 0 := z
                omega
              · rw [fa_le] at u
                have u : y.toInt ≤ 1 := u
                omega
            rw [hc] at this; cases this
          rw [if_neg z, if_neg z2]
      · show fX8_next h (nI p) y = _
        unfold fX8_next
        rw [m_isPaper hMV hwV, bn_s, hx, bi_it, g2]; rfl
end OpNext
