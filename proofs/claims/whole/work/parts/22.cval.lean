/-! the landed program's valley -/
theorem c_hasHand {h : aH} {v : Nat} {V : Vd} (hC : CV h v V) (hw : wfV V) (x : Int32) : fX6_hasHand h v x = some (ck x (V 0 4)) := by
  unfold fX6_hasHand
  rw [hC.1.2.2.2.2.2.1]
  exact ck_two (by have := hw.1.2.2.2.2.1; omega)
theorem c_hasPaper {h : aH} {v : Nat} {V : Vd} (hC : CV h v V) (hw : wfV V) (x : Int32) : fX6_hasPaper h v x = some (ck x (V 0 5)) := by
  unfold fX6_hasPaper
  rw [hC.1.2.2.2.2.2.2]
  exact ck_two (by have := hw.1.2.2.2.2.2.1; omega)
theorem m_isHand {h : aH} {V : Vd} (hM : MV h V) (hw : wfV V) (x : Int32) : fX8_isHand h x = some (ck x (V 0 4)) := by
  unfold fX8_isHand
  rw [hM.1.2.2.2.2.2.1, show nI (V 0 4) - 1 = mI (V 0 4) from rfl, in_ck (by have := hw.1.2.2.2.2.1; omega)]
  rfl
theorem m_isPaper {h : aH} {V : Vd} (hM : MV h V) (hw : wfV V) (x : Int32) : fX8_isPaper h x = some (ck x (V 0 5)) := by
  unfold fX8_isPaper
  rw [hM.1.2.2.2.2.2.2, show nI (V 0 5) - 1 = mI (V 0 5) from rfl, in_ck (by have := hw.1.2.2.2.2.2.1; omega)]
  rfl
theorem c_rain {h : aH} {v : Nat} {V : Vd} (hC : CV h v V) (hw : wfV V) {d : Nat} (hd : d < 2 ^ 31) : fX6_rainOf h v (nI d) = some (nI (rainS V d)) := by
  obtain ⟨⟨m0, m1, m2, m3, m4, m5, m6⟩, mr, -⟩ := hC
  obtain ⟨⟨w0, w1, w2, w3, w4, w5, w6⟩, -, -⟩ := hw
  unfold fX6_rainOf rainS
  rw [m4]
  by_cases h0 : V 0 3 = 0
  · rw [if_neg (show ¬ 1 ≤ nI (V 0 3) from nI_ge (b := 1) (by omega) (by omega)), if_pos h0]; rfl
  · have hne : ¬ nI (V 0 3) = 0 := nI_ne0 (by omega) (by omega)
    have hlt : d % V 0 3 < V 0 3 := Nat.mod_lt _ (by omega)
    rw [if_pos (show 1 ≤ nI (V 0 3) from nI_le (a := 1) (by omega) (by omega)), if_pos hne, rmd_nI hd (by omega) (by omega), if_pos (ck_t (by omega) (by omega)), if_neg h0, tn_nI (by omega), mr _ hlt]
theorem c_damp {h : aH} {v : Nat} {V : Vd} (hC : CV h v V) (hw : wfV V) {t r : Nat} (ht : t < 96) (hr : r ≤ 9) : fX6_dampAt h v (nI t) (nI r) = some (nI (dampS V t r)) := by
  obtain ⟨⟨m0, m1, m2, m3, m4, m5, m6⟩, -, -⟩ := hC
  obtain ⟨⟨w0, w1, w2, w3, w4, w5, w6⟩, -, -⟩ := hw
  unfold fX6_dampAt
  have e12 : rmd (nI t) 12 = nI (t % 12) := rmd_nI (d := 12) (by omega) (by omega) (by omega)
  have htm : t % 12 < 12 := Nat.mod_lt _ (by omega)
  rw [m2, m3, e12]
  have e : (if 0 < nI (t % 12) - nI (V 0 2) + 1 then nI (t % 12) - nI (V 0 2) + 1 else 0) = nI (t % 12 + 1 - V 0 2) := by
    by_cases g : V 0 2 ≤ t % 12
    · rw [if_pos ((sub1_pos (by omega) (by omega)).mpr g), sub1_eq g]
    · rw [if_neg (fun z => g ((sub1_pos (by omega) (by omega)).mp z)), show t % 12 + 1 - V 0 2 = 0 by omega]; rfl
  rw [e, nI_add, nI_add]
  unfold dampS
  by_cases g : V 0 1 + r + (t % 12 + 1 - V 0 2) < 19
  · rw [if_pos (show nI _ < 19 from nI_lt (b := 19) g (by omega)), Nat.min_eq_right (by omega)]
  · rw [if_neg (show ¬ nI _ < 19 from nI_nlt (b := 19) (by omega) (by omega)), Nat.min_eq_left (by omega)]; rfl
theorem c_light {h : aH} {v : Nat} {V : Vd} (hC : CV h v V) (hw : wfV V) {t : Nat} (ht : t < 96) : fX6_lightAt h v (nI t) = some (if t % 12 < V 0 2 then 1 else 0) := by
  obtain ⟨⟨m0, m1, m2, m3, m4, m5, m6⟩, -, -⟩ := hC
  obtain ⟨⟨w0, w1, w2, w3, w4, w5, w6⟩, -, -⟩ := hw
  unfold fX6_lightAt
  have e12 : rmd (nI t) 12 = nI (t % 12) := rmd_nI (d := 12) (by omega) (by omega) (by omega)
  have htm : t % 12 < 12 := Nat.mod_lt _ (by omega)
  rw [m3, e12]
  by_cases hd : t % 12 < V 0 2
  · rw [if_neg (nI_ge hd (by omega)), if_pos hd]
  · rw [if_pos (nI_le (by omega) (by omega)), if_neg hd]
theorem c_lookR {h : aH} {v : Nat} {V : Vd} (hC : CV h v V) (hw : wfV V) {a t r : Nat} (ha : a < V 0 4) (ht : t < 96) (hr : r ≤ 9) : fX6_makeLook h v (nI a) (nI t) (nI r) = some (nI (lkR V a t r)) := by
  have hdm := c_damp hC hw ht hr
  have hlg := c_light hC hw ht
  have hhh := c_hasHand hC hw (nI a)
  obtain ⟨⟨m0, m1, m2, m3, m4, m5, m6⟩, -, mh⟩ := hC
  obtain ⟨⟨w0, w1, w2, w3, w4, w5, w6⟩, -, wh⟩ := hw
  obtain ⟨h59, h60, h61⟩ := mh a ha
  obtain ⟨v2, v3, v4⟩ := wh a ha
  have hd19 := dampS_le V t r
  have hmul : V 0 0 * t ≤ 7 * 95 := Nat.mul_le_mul w0 (by omega)
  have hm8 : V 0 0 * t % 8 < 8 := Nat.mod_lt _ (by omega)
  have hm9 : (V 2 a + V 0 0 * t % 8) % 9 < 9 := Nat.mod_lt _ (by omega)
  have e1 : rmd (nI (V 2 a) + rmd (nI (V 0 0) * nI t) 8) 9 = nI ((V 2 a + V 0 0 * t % 8) % 9) := by
    rw [pk_mul, show rmd (nI (V 0 0 * t)) 8 = nI (V 0 0 * t % 8) from rmd_nI (d := 8) (by omega) (by omega) (by omega), nI_add]
    exact rmd_nI (d := 9) (by omega) (by omega) (by omega)
  have e2 : nI (dampS V t r) / 2 = nI (dampS V t r / 2) := pk_div (d := 2) (by omega) (by omega) (by omega)
  unfold fX6_makeLook fX6_windAt
  rw [hhh, bn_s, ck_t ha (by omega), if_neg (by decide), if_pos (ck_t (by omega) (by omega)), bn_s, hdm, bn_s, hlg, bn_s, tn_nI (by omega), h59, h60, h61, m1, e1, e2, nI_add]
  have key : ∀ (k f T : Nat), 1000 * nI k + 10 * nI f + nI T = nI (1000 * k + 10 * f + T) := by
    intro k f T
    rw [show (1000 : Int32) = nI 1000 from rfl, show (10 : Int32) = nI 10 from rfl, pk_mul, pk_mul, nI_add, nI_add]
  have f15 : (if nI (V 3 a + dampS V t r / 2) < 15 then nI (V 3 a + dampS V t r / 2) else 15) = nI (min 15 (V 3 a + dampS V t r / 2)) := by
    by_cases g : V 3 a + dampS V t r / 2 < 15
    · rw [if_pos (show nI _ < 15 from nI_lt (b := 15) g (by omega)), Nat.min_eq_right (by omega)]
    · rw [if_neg (show ¬ nI _ < 15 from nI_nlt (b := 15) (by omega) (by omega)), Nat.min_eq_left (by omega)]; rfl
  have f9 : ∀ q : Nat, q < 100 → (if nI q < 9 then nI q else 9) = nI (min 9 q) := by
    intro q hq
    by_cases g : q < 9
    · rw [if_pos (show nI _ < 9 from nI_lt (b := 9) g (by omega)), Nat.min_eq_right (by omega)]
    · rw [if_neg (show ¬ nI _ < 9 from nI_nlt (b := 9) (by omega) (by omega)), Nat.min_eq_left (by omega)]; rfl
  have z0 : nI (V 4 a) + 0 = nI (V 4 a) := nI_add _ 0
  have z2 : nI (V 4 a) + 2 = nI (V 4 a + 2) := nI_add _ 2
  rw [z0, z2, f15, f9 _ (by omega), f9 _ (by omega), key, key]
  unfold lkR
  by_cases hl : t % 12 < V 0 2
  · rw [if_pos hl, if_pos hl, if_pos rfl, Nat.add_zero]
  · rw [if_neg hl, if_neg hl, if_neg (by decide)]
theorem c_look {h : aH} {v : Nat} {V : Vd} (hC : CV h v V) (hL : CL h v V) (hw : wfV V) {a t : Nat} (ha : a < V 0 4) (ht : t < 96) : fX6_lookAt h v (nI a) (nI t) = some (nI (lk V a t)) := by
  have w4 := hw.1.2.2.2.2.1
  unfold fX6_lookAt
  have e : nI a * 96 + nI t = nI (a * 96 + t) := by
    rw [show (96 : Int32) = nI 96 from rfl, pk_mul, nI_add]
  rw [c_hasHand hC hw, bn_s, ck_t ha (by omega), if_neg (by decide), isHour7, bn_s, ck_t ht (by omega), if_neg (by decide), e, if_pos (ck_t (by omega) (by omega)), tn_nI (by omega), hL a ha t ht]
