/-! THE VALLEY as numbers: V 0 0 W, V 0 1 D, V 0 2 L, V 0 3 how many rains, V 0 4 hands, V 0 5 papers, V 0 6 told; V 1 rains; V 2, V 3, V 4 lean, fill, press of a hand -/
abbrev Vd : Type := Nat → Nat → Nat
def rainS (V : Vd) (d : Nat) : Nat := if V 0 3 = 0 then 0 else V 1 (d % V 0 3)
def dampS (V : Vd) (t r : Nat) : Nat := min 19 (V 0 1 + r + (t % 12 + 1 - V 0 2))
def lkR (V : Vd) (a t r : Nat) : Nat := 1000 * ((V 2 a + V 0 0 * t % 8) % 9) + 10 * min 15 (V 3 a + dampS V t r / 2) + min 9 (V 4 a + if t % 12 < V 0 2 then 0 else 2)
def lk (V : Vd) (a t : Nat) : Nat := lkR V a t (rainS V (t / 12))
def wfV (V : Vd) : Prop := (V 0 0 ≤ 7 ∧ V 0 1 ≤ 9 ∧ V 0 2 ≤ 12 ∧ V 0 3 ≤ 8 ∧ V 0 4 ≤ 4 ∧ V 0 5 ≤ 4 ∧ V 0 6 ≤ 1) ∧ (∀ k, k < V 0 3 → V 1 k ≤ 9) ∧ (∀ a, a < V 0 4 → V 2 a ≤ 8 ∧ V 3 a ≤ 8 ∧ V 4 a ≤ 8)
/-- the landed program's valley at the cell v -/
def CV (h : aH) (v : Nat) (V : Vd) : Prop := (h v 0 = nI (V 0 6) ∧ h v 1 = nI (V 0 0) ∧ h v 2 = nI (V 0 1) ∧ h v 3 = nI (V 0 2) ∧ h v 4 = nI (V 0 3) ∧ h v 5 = nI (V 0 4) ∧ h v 6 = nI (V 0 5)) ∧ (∀ k, k < V 0 3 → h (v + 1) k = nI (V 1 k)) ∧ (∀ a, a < V 0 4 → h (v + 2) a = nI (V 2 a) ∧ h (v + 3) a = nI (V 3 a) ∧ h (v + 4) a = nI (V 4 a))
def CL (h : aH) (v : Nat) (V : Vd) : Prop := ∀ a, a < V 0 4 → ∀ t, t < 96 → h (v + 8) (a * 96 + t) = nI (lk V a t)
/-- the reference's -/
def MV (h : aH) (V : Vd) : Prop := (h 54 2 = nI (V 0 6) ∧ h 57 0 = nI (V 0 0) ∧ h 57 1 = nI (V 0 1) ∧ h 57 2 = nI (V 0 2) ∧ h 54 6 = nI (V 0 3) ∧ h 54 11 = nI (V 0 4) ∧ h 54 16 = nI (V 0 5)) ∧ (∀ k, k < V 0 3 → h 58 k = nI (V 1 k)) ∧ (∀ a, a < V 0 4 → h 59 a = nI (V 2 a) ∧ h 60 a = nI (V 3 a) ∧ h 61 a = nI (V 4 a))
theorem rainS_le {V : Vd} (hw : wfV V) (d : Nat) : rainS V d ≤ 9 := by
  unfold rainS
  by_cases h : V 0 3 = 0
  · rw [if_pos h]; omega
  · rw [if_neg h]; exact hw.2.1 _ (Nat.mod_lt _ (by omega))
theorem dampS_le (V : Vd) (t r : Nat) : dampS V t r ≤ 19 := Nat.min_le_left _ _
theorem lkR_le {V : Vd} {a t r : Nat} : lkR V a t r < 9000 := by
  unfold lkR
  have h1 : (V 2 a + V 0 0 * t % 8) % 9 < 9 := Nat.mod_lt _ (by omega)
  have h2 : min 15 (V 3 a + dampS V t r / 2) ≤ 15 := Nat.min_le_left _ _
  have h3 : min 9 (V 4 a + if t % 12 < V 0 2 then 0 else 2) ≤ 9 := Nat.min_le_left _ _
  omega
theorem lk_le {V : Vd} {a t : Nat} : lk V a t < 9000 := lkR_le
theorem fb_bmod {z : Int} (h1 : -2147483648 ≤ z) (h2 : z < 2147483648) : z.bmod (2 ^ 32) = z := by
  rw [Int.bmod_def]
  by_cases h : z < 0
  · rw [show z % ((2 ^ 32 : Nat) : Int) = z + 4294967296 by omega]
    rw [if_neg (by omega)]
    omega
  · rw [show z % ((2 ^ 32 : Nat) : Int) = z by omega]
    rw [if_pos (by omega)]
theorem sub1_toInt {a b : Nat} (ha : a < 2 ^ 30) (hb : b < 2 ^ 30) : (nI a - nI b + 1).toInt = (a : Int) - b + 1 := by
  rw [Int32.toInt_add, pk_sub_toInt ha hb]
  show ((a : Int) - b + 1).bmod (2 ^ 32) = _
  exact fb_bmod (by omega) (by omega)
theorem sub1_neg {a b : Nat} (ha : a < 2 ^ 30) (hb : b < 2 ^ 30) : nI a - nI b + 1 ≤ 0 ↔ a + 1 ≤ b := by
  rw [fa_le, sub1_toInt ha hb]
  show (a : Int) - b + 1 ≤ 0 ↔ _
  omega
theorem sub1_pos {a b : Nat} (ha : a < 2 ^ 30) (hb : b < 2 ^ 30) : 0 < nI a - nI b + 1 ↔ b ≤ a := by
  rw [fa_lt, sub1_toInt ha hb]
  show 0 < (a : Int) - b + 1 ↔ _
  omega
theorem sub1_eq {a b : Nat} (h : b ≤ a) : nI a - nI b + 1 = nI (a + 1 - b) := by
  rw [pk_sub h, nI_1]
  congr 1
  omega
theorem m_damp {h : aH} {V : Vd} (hM : MV h V) (hw : wfV V) {t r : Nat} (ht : t < 96) (hr : r ≤ 9) : fX8_dampBy h (nI t) (nI r) = some (nI (dampS V t r)) := by
  obtain ⟨⟨m0, m1, m2, m3, m4, m5, m6⟩, -, -⟩ := hM
  obtain ⟨⟨w0, w1, w2, w3, w4, w5, w6⟩, -, -⟩ := hw
  unfold fX8_dampBy
  have e12 : rmd (nI t) 12 = nI (t % 12) := rmd_nI (d := 12) (by omega) (by omega) (by omega)
  have htm : t % 12 < 12 := Nat.mod_lt _ (by omega)
  rw [m2, m3, e12]
  by_cases hd : t % 12 + 1 ≤ V 0 2
  · rw [if_pos ((sub1_neg (by omega) (by omega)).mpr hd)]
    have e : nI (V 0 1) + nI r + 0 = nI (V 0 1 + r) := by rw [nI_add]; exact nI_add _ 0
    rw [e, if_pos (show nI (V 0 1 + r) ≤ 19 from nI_le (b := 19) (by omega) (by omega))]
    unfold dampS
    rw [show t % 12 + 1 - V 0 2 = 0 by omega, Nat.add_zero, Nat.min_eq_right (by omega)]
  · rw [if_neg (fun z => hd ((sub1_neg (by omega) (by omega)).mp z)), sub1_eq (by omega), nI_add, nI_add]
    unfold dampS
    by_cases h19 : V 0 1 + r + (t % 12 + 1 - V 0 2) ≤ 19
    · rw [if_pos (show nI _ ≤ 19 from nI_le (b := 19) h19 (by omega)), Nat.min_eq_right h19]
    · rw [if_neg (show ¬ nI _ ≤ 19 from nI_ge (a := 19) (by omega) (by omega)), Nat.min_eq_left (by omega)]
      rfl
theorem m_light {h : aH} {V : Vd} (hM : MV h V) (hw : wfV V) {t : Nat} (ht : t < 96) : fX8_lightAt h (nI t) = some (if t % 12 < V 0 2 then 1 else 0) := by
  obtain ⟨⟨m0, m1, m2, m3, m4, m5, m6⟩, -, -⟩ := hM
  obtain ⟨⟨w0, w1, w2, w3, w4, w5, w6⟩, -, -⟩ := hw
  unfold fX8_lightAt
  have e12 : rmd (nI t) 12 = nI (t % 12) := rmd_nI (d := 12) (by omega) (by omega) (by omega)
  have htm : t % 12 < 12 := Nat.mod_lt _ (by omega)
  rw [m3, e12]
  by_cases hd : t % 12 < V 0 2
  · rw [if_neg (nI_ge hd (by omega)), if_pos hd]; rfl
  · rw [if_pos (nI_le (by omega) (by omega)), if_neg hd]; rfl
theorem m_rain {h : aH} {V : Vd} (hM : MV h V) (hw : wfV V) {d : Nat} (hd : d < 2 ^ 31) : fX8_rainOf h (nI d) = some (nI (rainS V d)) := by
  obtain ⟨⟨m0, m1, m2, m3, m4, m5, m6⟩, mr, -⟩ := hM
  obtain ⟨⟨w0, w1, w2, w3, w4, w5, w6⟩, -, -⟩ := hw
  unfold fX8_rainOf rainS
  rw [m4]
  by_cases h0 : V 0 3 = 0
  · rw [h0, if_pos (show nI 0 = 0 from rfl), if_pos rfl]; rfl
  · have hne : ¬ nI (V 0 3) = 0 := nI_ne0 (by omega) (by omega)
    have hlt : d % V 0 3 < V 0 3 := Nat.mod_lt _ (by omega)
    rw [if_neg hne, if_pos hne, rmd_nI hd (by omega) (by omega), if_pos (ck_t (by omega) (by omega)), if_neg h0, tn_nI (by omega), mr _ hlt]
theorem m_lookR {h : aH} {V : Vd} (hM : MV h V) (hw : wfV V) {a t r : Nat} (ha : a < V 0 4) (ht : t < 96) (hr : r ≤ 9) : fX8_lookBy h (nI a) (nI t) (nI r) = some (nI (lkR V a t r)) := by
  have hdm := m_damp hM hw ht hr
  have hlg := m_light hM hw ht
  obtain ⟨⟨m0, m1, m2, m3, m4, m5, m6⟩, -, mh⟩ := hM
  obtain ⟨⟨w0, w1, w2, w3, w4, w5, w6⟩, -, wh⟩ := hw
  obtain ⟨h59, h60, h61⟩ := mh a ha
  obtain ⟨v2, v3, v4⟩ := wh a ha
  have hd19 := dampS_le V t r
  have hmul : V 0 0 * t ≤ 7 * 95 := Nat.mul_le_mul w0 (by omega)
  have hm8 : V 0 0 * t % 8 < 8 := Nat.mod_lt _ (by omega)
  have hm9 : (V 2 a + V 0 0 * t % 8) % 9 < 9 := Nat.mod_lt _ (by omega)
  have e1 : rmd (nI (V 2 a) + rmd (nI (V 0 0) * nI t) 8) 9 = nI ((V 2 a + V 0 0 * t % 8) % 9) := by
    rw [pk_mul, show rmd (nI (V 0 0 * t)) 8 = nI (V 0 0 * t % 8) from rmd_nI (d := 8) (by omega) (by omega) (by omega), nI_add]
    exact rmd_nI (d := 9) (by omega) (by omega) (by omega)
  have e2 : nI (dampS V t r) / 2 = nI (dampS V t r / 2) := pk_div (d := 2) (by omega) (by omega) (by omega)
  unfold fX8_lookBy
  rw [if_pos (ck_t (by omega) (by omega)), hdm, bn_s, hlg, bn_s, tn_nI (by omega), h59, h60, h61, m1, e1, e2, nI_add]
  have key : ∀ (k f T : Nat), 1000 * nI k + 10 * nI f + nI T = nI (1000 * k + 10 * f + T) := by
    intro k f T
    rw [show (1000 : Int32) = nI 1000 from rfl, show (10 : Int32) = nI 10 from rfl, pk_mul, pk_mul, nI_add, nI_add]
  unfold lkR
  have f15 : ∀ (A B : Option Int32), (if nI (V 3 a + dampS V t r / 2) ≤ 15 then A else B) = if V 3 a + dampS V t r / 2 ≤ 15 then A else B := by
    intro A B
    by_cases g : V 3 a + dampS V t r / 2 ≤ 15
    · rw [if_pos g, if_pos (show nI _ ≤ 15 from nI_le (b := 15) g (by omega))]
    · rw [if_neg g, if_neg (show ¬ nI _ ≤ 15 from nI_ge (a := 15) (by omega) (by omega))]
  have f9 : ∀ (q : Nat) (A B : Option Int32), q < 100 → (if nI q ≤ 9 then A else B) = if q ≤ 9 then A else B := by
    intro q A B hq
    by_cases g : q ≤ 9
    · rw [if_pos g, if_pos (show nI _ ≤ 9 from nI_le (b := 9) g (by omega))]
    · rw [if_neg g, if_neg (show ¬ nI _ ≤ 9 from nI_ge (a := 9) (by omega) (by omega))]
  have z0 : nI (V 4 a) + 0 = nI (V 4 a) := nI_add _ 0
  have z2 : nI (V 4 a) + 2 = nI (V 4 a + 2) := nI_add _ 2
  rw [z0, z2, f15, f15, f9 _ _ _ (by omega), f9 _ _ _ (by omega), f9 _ _ _ (by omega), f9 _ _ _ (by omega)]
  have c10 : (10 : Int32) * 15 = 10 * nI 15 := rfl
  have c9 : (9 : Int32) = nI 9 := rfl
  by_cases hl : t % 12 < V 0 2
  · rw [if_pos hl, if_pos hl, if_pos rfl, Nat.add_zero]
    by_cases g : V 3 a + dampS V t r / 2 ≤ 15
    · rw [if_pos g, Nat.min_eq_right g]
      by_cases g2 : V 4 a ≤ 9
      · rw [if_pos g2, Nat.min_eq_right g2, key]
      · omega
    · rw [if_neg g, Nat.min_eq_left (by omega)]
      by_cases g2 : V 4 a ≤ 9
      · rw [if_pos g2, Nat.min_eq_right g2, c10, key]
      · omega
  · rw [if_neg hl, if_neg hl, if_neg (by decide)]
    by_cases g : V 3 a + dampS V t r / 2 ≤ 15
    · rw [if_pos g, Nat.min_eq_right g]
      by_cases g2 : V 4 a + 2 ≤ 9
      · rw [if_pos g2, Nat.min_eq_right g2, key]
      · rw [if_neg g2, Nat.min_eq_left (by omega)]
        show some (1000 * nI _ + 10 * nI _ + nI 9) = _
        rw [key]
    · rw [if_neg g, Nat.min_eq_left (show 15 ≤ _ by omega)]
      by_cases g2 : V 4 a + 2 ≤ 9
      · rw [if_pos g2, Nat.min_eq_right g2, c10, key]
      · rw [if_neg g2, Nat.min_eq_left (show 9 ≤ _ by omega)]
        show some (1000 * nI _ + 10 * nI 15 + nI 9) = _
        rw [key]
theorem m_look {h : aH} {V : Vd} (hM : MV h V) (hw : wfV V) {a t : Nat} (ha : a < V 0 4) (ht : t < 96) : fX8_lookAt h (nI a) (nI t) = some (nI (lk V a t)) := by
  unfold fX8_lookAt
  rw [show nI t / 12 = nI (t / 12) from pk_div (d := 12) (by omega) (by omega) (by omega), m_rain hM hw (by omega), bn_s, m_lookR hM hw ha ht (rainS_le hw _), bn_s]
  rfl
