/-! reading calls, first lot: both sides answer alike -/
/-- all that a reading call looks at -/
def RD (h : aH) (v : Nat) (V : Vd) (P : Ps) (bt sd : Nat) : Prop := vl (h 0 9) = some v ∧ CV h v V ∧ CL h v V ∧ CA h 3 P bt sd ∧ MV h V ∧ MA h 0 P bt ∧ wfV V ∧ wfP V P
theorem ifb {α : Type} (b : Bool) (A B : α) : (if bi b = 0 then A else B) = (if b = true then B else A) := by cases b <;> rfl
section Ops
variable {h : aH} {v : Nat} {V : Vd} {P : Ps} {bt sd : Nat}
theorem op_look (R : RD h v V P bt sd) (x y : Int32) : ∃ r, fX7_look h x y = some r ∧ fX8_look h x y = some r := by
  obtain ⟨hv, hC, hL, hA, hV, hM, hw, hP⟩ := R
  have w4 := hw.1.2.2.2.2.1
  unfold fX7_look fX8_look
  rw [hv, bn_s, c_hasHand hC hw, bn_s, m_isHand hV hw, bn_s, isHour7, isHour8]
  cases hx : ck x (V 0 4) with
  | false => exact ⟨_, rfl, rfl⟩
  | true =>
    cases hy : ck y 96 with
    | false => exact ⟨_, rfl, rfl⟩
    | true =>
      obtain ⟨a, ha, rfl⟩ := ck_of (by omega) hx
      obtain ⟨t, ht, rfl⟩ := ck_of (by omega) hy
      rw [c_look hC hL hw ha ht, m_look hV hw ha ht]
      exact ⟨_, rfl, rfl⟩
theorem op_written (R : RD h v V P bt sd) (x y z i : Int32) : ∃ r, fX7_written h x y z i = some r ∧ fX8_written h x y z i = some r := by
  obtain ⟨hv, hC, hL, hA, hV, hM, hw, hP⟩ := R
  have w4 := hw.1.2.2.2.2.1
  have w5 := hw.1.2.2.2.2.2.1
  unfold fX7_written fX8_written
  rw [hv, bn_s, c_hasPaper hC hw, bn_s, m_isLetter hV hM hw hP, bn_s, m_isHand hV hw]
  cases hx : ck x (V 0 5) with
  | false => exact ⟨_, rfl, rfl⟩
  | true =>
    obtain ⟨p, hp, rfl⟩ := ck_of (by omega) hx
    have hl := (hP p).1
    rw [if_neg (by decide), c_hasLetter hA (by omega) hl, bn_s, tn_nI (by omega), Bool.true_and]
    cases hy : ck y (P p).length with
    | false => exact ⟨_, rfl, rfl⟩
    | true =>
      obtain ⟨l, hl2, rfl⟩ := ck_of (by omega) hy
      rw [if_neg (by decide), if_neg (by decide), c_hasHand hC hw, bn_s, bn_s]
      cases hz : ck z (V 0 4) with
      | false => exact ⟨_, rfl, rfl⟩
      | true =>
        obtain ⟨a, ha, rfl⟩ := ck_of (by omega) hz
        have hx := List.getElem?_eq_getElem hl2
        have := loS_le (V := V) (x := (P p)[l])
        rw [if_neg (by decide), if_neg (by decide), c_lookOf hC hL hw hP hA hx, m_lookOf hV hM hw hP hx, bn_s, bn_s, c_hours hC hL hw ha (by omega), m_hours hV hw ha (by omega)]
        exact ⟨_, rfl, rfl⟩
theorem op_soonest (R : RD h v V P bt sd) (x y z : Int32) : ∃ r, fX7_soonest h x y z = some r ∧ fX8_soonest h x y z = some r := by
  obtain ⟨hv, hC, hL, hA, hV, hM, hw, hP⟩ := R
  have w4 := hw.1.2.2.2.2.1
  unfold fX7_soonest fX8_soonest
  rw [hv, bn_s, c_hasHand hC hw, bn_s, m_isHand hV hw, bn_s, isHour7, isHour8, isLook7, in_lk]
  cases hx : ck x (V 0 4) with
  | false => exact ⟨_, rfl, rfl⟩
  | true =>
    cases hy : ck y 10000 with
    | false => exact ⟨_, rfl, rfl⟩
    | true =>
      cases hz : ck z 96 with
      | false => exact ⟨_, rfl, rfl⟩
      | true =>
        obtain ⟨a, ha, rfl⟩ := ck_of (by omega) hx
        obtain ⟨k, hk, rfl⟩ := ck_of (by omega) hy
        obtain ⟨t, ht, rfl⟩ := ck_of (by omega) hz
        have e := m_firstL hV hw ha (k := k) (by omega) (96 - t) t 1000 (by omega) (by omega)
        refine ⟨sr (mk V a k) (96 - t) t, ?_, e⟩
        rw [bn_s, bn_s, c_first hC hL hw ha (by omega) ht]
        rfl
theorem op_likely (R : RD h v V P bt sd) (x y : Int32) : ∃ r, fX7_likely h x y = some r ∧ fX8_likely h x y = some r := by
  obtain ⟨hv, hC, hL, hA, hV, hM, hw, hP⟩ := R
  have w4 := hw.1.2.2.2.2.1
  unfold fX7_likely fX8_likely
  rw [hv, bn_s, c_hasHand hC hw, bn_s, m_isHand hV hw, bn_s, isLook7, in_lk]
  cases hx : ck x (V 0 4) with
  | false => exact ⟨_, rfl, rfl⟩
  | true =>
    cases hy : ck y 10000 with
    | false => exact ⟨_, rfl, rfl⟩
    | true =>
      obtain ⟨a, ha, rfl⟩ := ck_of (by omega) hx
      obtain ⟨k, hk, rfl⟩ := ck_of (by omega) hy
      rw [bn_s, bn_s, c_hours hC hL hw ha (by omega), m_hours hV hw ha (by omega)]
      refine ⟨_, rfl, ?_⟩
      show some (1000000 * _ / 96) = some (_ * 1000000 / 96)
      rw [Int32.mul_comm]
theorem op_air (R : RD h v V P bt sd) (x y i : Int32) : ∃ r, fX7_air h x y i = some r ∧ fX8_air h x y i = some r := by
  obtain ⟨hv, hC, hL, hA, hV, hM, hw, hP⟩ := R
  have w4 := hw.1.2.2.2.2.1
  unfold fX7_air fX8_air
  rw [hv, bn_s, c_hasHand hC hw, bn_s, m_isHand hV hw, bn_s, isHour7, isHour8]
  cases hx : ck x (V 0 4) with
  | false => exact ⟨_, rfl, rfl⟩
  | true =>
    cases hy : ck y 96 with
    | false => exact ⟨_, rfl, rfl⟩
    | true =>
      obtain ⟨a, ha, rfl⟩ := ck_of (by omega) hx
      obtain ⟨t, ht, rfl⟩ := ck_of (by omega) hy
      have := lk_le (V := V) (a := a) (t := t)
      rw [bn_s, bn_s, if_neg (by decide), if_neg (by decide), if_neg (by decide), if_neg (by decide), c_look hC hL hw ha ht, m_look hV hw ha ht, bn_s, bn_s, c_hours hC hL hw ha (by omega), m_hours hV hw ha (by omega)]
      exact ⟨_, rfl, rfl⟩
theorem op_hand (R : RD h v V P bt sd) (x y : Int32) : ∃ r, fX7_hand h x y = some r ∧ fX8_hand h x y = some r := by
  obtain ⟨hv, hC, hL, hA, hV, hM, hw, hP⟩ := R
  have w4 := hw.1.2.2.2.2.1
  unfold fX7_hand fX8_hand
  rw [hv, bn_s, c_hasHand hC hw, bn_s, m_isHand hV hw, bn_s]
  cases hx : ck x (V 0 4) with
  | false => exact ⟨_, rfl, rfl⟩
  | true =>
    obtain ⟨a, ha, rfl⟩ := ck_of (by omega) hx
    obtain ⟨c1, c2, c3⟩ := hC.2.2 a ha
    obtain ⟨m1, m2, m3⟩ := hV.2.2 a ha
    have k4 : ck (nI a) 4 = true := ck_t (by omega) (by omega)
    have k8 : ck (nI a) 8 = true := ck_t (by omega) (by omega)
    simp only [bi_it, k4, k8, if_true, tn_nI (show a < 2 ^ 31 by omega), c1, c2, c3, m1, m2, m3]
    by_cases h0 : y = 0
    · simp only [if_pos h0]; exact ⟨_, rfl, rfl⟩
    · simp only [if_neg h0]
      by_cases h1 : y = 1
      · simp only [if_pos h1]; exact ⟨_, rfl, rfl⟩
      · simp only [if_neg h1]
        by_cases h2 : y = 2
        · simp only [if_pos h2]; exact ⟨_, rfl, rfl⟩
        · simp only [if_neg h2]; exact ⟨_, rfl, rfl⟩
theorem op_weather (R : RD h v V P bt sd) (x y : Int32) : ∃ r, fX7_weather h x y = some r ∧ fX8_weather h x y = some r := by
  obtain ⟨hv, hC, hL, hA, hV, hM, hw, hP⟩ := R
  have w6 := hw.1.2.2.2.2.2.2
  unfold fX7_weather fX8_weather
  rw [isHour7, isHour8, bn_s, bn_s, hv, in_0 2 2 (by omega) rfl, bn_s, bn_s, ck_le 2 2 (by omega) rfl]
  cases hx : ck x 96 with
  | false => exact ⟨_, rfl, rfl⟩
  | true =>
    obtain ⟨t, ht, rfl⟩ := ck_of (by omega) hx
    rw [bi_it, bi_it]
    cases hy : ck y (2 + 1) with
    | false => exact ⟨_, rfl, rfl⟩
    | true =>
      rw [bi_it, if_pos rfl, hC.1.1, hV.1.1]
      by_cases h0 : nI (V 0 6) = 0
      · rw [if_pos h0, if_pos h0]; exact ⟨_, rfl, rfl⟩
      · rw [if_neg h0, if_neg h0, show nI t / 12 = nI (t / 12) from pk_div (d := 12) (by omega) (by omega) (by omega), c_rain hC hw (by omega), m_rain hV hw (by omega), bn_s, bn_s, c_damp hC hw ht (rainS_le hw _), m_damp hV hw ht (rainS_le hw _), c_light hC hw ht, m_light hV hw ht]
        unfold fX6_windAt
        rw [hC.1.2.1, hV.1.2.1]
        simp only [bn_s]
        by_cases g0 : y = 0
        · simp only [if_pos g0]; exact ⟨_, rfl, rfl⟩
        · simp only [if_neg g0]
          by_cases g1 : y = 1
          · simp only [if_pos g1]; exact ⟨_, rfl, rfl⟩
          · simp only [if_neg g1]; exact ⟨_, rfl, rfl⟩
end Ops
