/-! PAPERS as lists of letters: hour, hand, the air's hour + 1 (0: not forged) -/
abbrev Lt : Type := Nat × Nat × Nat
abbrev Ps : Type := Nat → List Lt
def loS (V : Vd) (x : Lt) : Nat := lk V x.2.1 (if x.2.2 = 0 then x.1 else x.2.2 - 1)
theorem loS_le {V : Vd} {x : Lt} : loS V x < 9000 := lk_le
def wfP (V : Vd) (P : Ps) : Prop := ∀ p, (P p).length ≤ 12 ∧ (V 0 5 ≤ p → P p = []) ∧ ∀ x ∈ P p, x.1 < 96 ∧ x.2.1 < V 0 4 ∧ x.2.2 ≤ 96
/-- the landed program's archive at the cell a -/
def CA (h : aH) (a : Nat) (P : Ps) (bt sd : Nat) : Prop := (∀ p, p < 4 → h (a + 1) p = nI (P p).length) ∧ (∀ p, p < 4 → ∀ l x, (P p)[l]? = some x → h (a + 2) (p * 12 + l) = nI x.1 ∧ h (a + 3) (p * 12 + l) = nI x.2.1 ∧ h (a + 4) (p * 12 + l) = mI x.2.2) ∧ h a 4 = mI bt ∧ h a 5 = nI sd
/-- the reference's row of numbers from the place o on -/
def MA (h : aH) (o : Nat) (P : Ps) (bt : Nat) : Prop := (∀ p, p < 4 → h 55 (o + (48 + p)) = nI (P p).length) ∧ (∀ p, p < 4 → ∀ l x, (P p)[l]? = some x → h 55 (o + (12 * p + l)) = nI (x.1 + 96 * x.2.1 + 384 * x.2.2)) ∧ h 55 (o + 52) = mI bt
theorem wfP_at {V : Vd} {P : Ps} (hp : wfP V P) {p l : Nat} {x : Lt} (hx : (P p)[l]? = some x) : (x.1 < 96 ∧ x.2.1 < V 0 4 ∧ x.2.2 ≤ 96) ∧ l < (P p).length ∧ l < 12 := by
  have h1 := (List.getElem?_eq_some_iff.mp hx).1
  have h2 := (hp p).1
  exact ⟨(hp p).2.2 x (List.mem_of_getElem? hx), h1, by omega⟩
theorem wfP_lt {V : Vd} {P : Ps} (hw : wfV V) (hp : wfP V P) {p l : Nat} {x : Lt} (hx : (P p)[l]? = some x) : p < 4 ∧ p < V 0 5 := by
  have h5 := hw.1.2.2.2.2.2.1
  have : p < V 0 5 := by
    rcases Nat.lt_or_ge p (V 0 5) with z | z
    · exact z
    · rw [(hp p).2.1 z] at hx; cases hx
  exact ⟨by omega, this⟩
theorem c_count {h : aH} {a : Nat} {P : Ps} {bt sd p : Nat} (hA : CA h a P bt sd) (hp : p < 4) : fX0_countOf h a (nI p) = some (nI (P p).length) := by
  unfold fX0_countOf
  rw [if_neg (nI_pos (by omega)), if_neg (show ¬ 4 ≤ nI p from nI_ge (b := 4) hp (by omega)), if_pos (ck_t hp (by omega)), tn_nI (by omega), hA.1 p hp]
theorem c_hasLetter {h : aH} {a : Nat} {P : Ps} {bt sd p : Nat} (hA : CA h a P bt sd) (hp : p < 4) (hl : (P p).length ≤ 12) (x : Int32) : fX0_hasLetter h a (nI p) x = some (ck x (P p).length) := by
  unfold fX0_hasLetter
  rw [if_neg (nI_pos (by omega)), if_neg (show ¬ 4 ≤ nI p from nI_ge (b := 4) hp (by omega)), if_pos (ck_t hp (by omega)), tn_nI (by omega), hA.1 p hp, ← ck_two (by omega)]
  by_cases h0 : x < 0
  · rw [if_pos h0, if_pos h0]
  · rw [if_neg h0, if_neg h0]
    by_cases h12 : 12 ≤ x
    · have : nI (P p).length ≤ x := by
        rw [fa_le, nI_toInt (by omega)]
        rw [fa_le] at h12
        have e : (12 : Int32).toInt = 12 := rfl
        omega
      rw [if_pos h12, if_pos this]
    · rw [if_neg h12]
theorem ix12 (p l : Nat) : nI p * 12 + nI l = nI (p * 12 + l) := by
  rw [show (12 : Int32) = nI 12 from rfl, pk_mul, nI_add]
theorem ix12' (p l : Nat) : 12 * nI p + nI l = nI (12 * p + l) := by
  rw [show (12 : Int32) = nI 12 from rfl, pk_mul, nI_add]
section Letter
variable {h : aH} {a v : Nat} {V : Vd} {P : Ps} {bt sd p l : Nat} {x : Lt}
theorem c_hour (hA : CA h a P bt sd) (hp : p < 4) (hl : (P p).length ≤ 12) (hx : (P p)[l]? = some x) : fX0_hourOf h a (nI p) (nI l) = some (nI x.1) := by
  have h1 := (List.getElem?_eq_some_iff.mp hx).1
  unfold fX0_hourOf
  rw [c_hasLetter hA hp hl, bn_s, ck_t h1 (by omega), if_neg (by decide), ix12, if_pos (ck_t (by omega) (by omega)), tn_nI (by omega), (hA.2.1 p hp l x hx).1]
theorem c_writer (hA : CA h a P bt sd) (hp : p < 4) (hl : (P p).length ≤ 12) (hx : (P p)[l]? = some x) : fX0_writerOf h a (nI p) (nI l) = some (nI x.2.1) := by
  have h1 := (List.getElem?_eq_some_iff.mp hx).1
  unfold fX0_writerOf
  rw [c_hasLetter hA hp hl, bn_s, ck_t h1 (by omega), if_neg (by decide), ix12, if_pos (ck_t (by omega) (by omega)), tn_nI (by omega), (hA.2.1 p hp l x hx).2.1]
theorem c_air (hA : CA h a P bt sd) (hp : p < 4) (hl : (P p).length ≤ 12) (hx : (P p)[l]? = some x) : fX0_airOf h a (nI p) (nI l) = some (mI x.2.2) := by
  have h1 := (List.getElem?_eq_some_iff.mp hx).1
  unfold fX0_airOf
  rw [c_hasLetter hA hp hl, bn_s, ck_t h1 (by omega), if_neg (by decide), ix12, if_pos (ck_t (by omega) (by omega)), tn_nI (by omega), (hA.2.1 p hp l x hx).2.2]
theorem c_forged (hA : CA h a P bt sd) (hp : p < 4) (hl : (P p).length ≤ 12) (hx : (P p)[l]? = some x) (h96 : x.2.2 ≤ 96) : fX0_isForged h a (nI p) (nI l) = some (decide (x.2.2 ≠ 0)) := by
  unfold fX0_isForged
  rw [c_air hA hp hl hx, bn_s]
  by_cases g : x.2.2 = 0
  · rw [if_pos ((mI_m1 (by omega)).mpr g), decide_eq_false (by simpa using g)]
  · rw [if_neg (fun z => g ((mI_m1 (by omega)).mp z)), decide_eq_true g]
theorem c_lookOf (hC : CV h v V) (hL : CL h v V) (hw : wfV V) (hP : wfP V P) (hA : CA h a P bt sd) (hx : (P p)[l]? = some x) : fX0_lookOf h a v (nI p) (nI l) = some (nI (loS V x)) := by
  obtain ⟨⟨b1, b2, b3⟩, b4, b5⟩ := wfP_at hP hx
  obtain ⟨hp, -⟩ := wfP_lt hw hP hx
  have hl := (hP p).1
  have e := hA.2.1 p hp l x hx
  unfold fX0_lookOf
  rw [c_hasLetter hA hp hl, bn_s, ck_t b4 (by omega), if_neg (by decide), ix12, if_pos (ck_t (by omega) (by omega)), tn_nI (by omega), e.1, e.2.1, e.2.2]
  unfold loS
  by_cases g : x.2.2 = 0
  · rw [if_pos ((mI_m1 (by omega)).mpr g), if_pos g, c_look hC hL hw b2 b1]; rfl
  · rw [if_neg (fun z => g ((mI_m1 (by omega)).mp z)), if_neg g]
    obtain ⟨k, hk⟩ : ∃ k, x.2.2 = k + 1 := ⟨x.2.2 - 1, by omega⟩
    rw [hk, mI_s, Nat.add_sub_cancel, c_look hC hL hw b2 (by omega)]; rfl
theorem m_count (hM : MA h 0 P bt) (hp : p < 4) : h 55 (tn (48 + nI p)) = nI (P p).length := by
  rw [show 48 + nI p = nI (48 + p) from nI_add 48 p, tn_nI (by omega)]
  have := hM.1 p hp
  rw [Nat.zero_add] at this
  exact this
theorem ck48 (hp : p < 4) : ck (48 + nI p) 1782 = true := by
  rw [show 48 + nI p = nI (48 + p) from nI_add 48 p]
  exact ck_t (by omega) (by omega)
theorem m_at (hM : MA h 0 P bt) (hw : wfV V) (hP : wfP V P) (hx : (P p)[l]? = some x) : ck (12 * nI p + nI l) 1782 = true ∧ h 55 (tn (12 * nI p + nI l)) = nI (x.1 + 96 * x.2.1 + 384 * x.2.2) := by
  obtain ⟨⟨b1, b2, b3⟩, b4, b5⟩ := wfP_at hP hx
  obtain ⟨hp, -⟩ := wfP_lt hw hP hx
  rw [ix12']
  refine ⟨ck_t (by omega) (by omega), ?_⟩
  rw [tn_nI (by omega)]
  have := hM.2.1 p hp l x hx
  rw [Nat.zero_add] at this
  exact this
theorem m_hour (hM : MA h 0 P bt) (hw : wfV V) (hP : wfP V P) (hx : (P p)[l]? = some x) : fX8_hourOf h (nI p) (nI l) = some (nI x.1) := by
  obtain ⟨⟨b1, b2, b3⟩, b4, b5⟩ := wfP_at hP hx
  have w4 := hw.1.2.2.2.2.1
  obtain ⟨g1, g2⟩ := m_at hM hw hP hx
  unfold fX8_hourOf
  rw [if_pos g1, g2, show rmd (nI (x.1 + 96 * x.2.1 + 384 * x.2.2)) 96 = nI ((x.1 + 96 * x.2.1 + 384 * x.2.2) % 96) from rmd_nI (d := 96) (by omega) (by omega) (by omega)]
  congr 2
  omega
theorem m_hand (hM : MA h 0 P bt) (hw : wfV V) (hP : wfP V P) (hx : (P p)[l]? = some x) : fX8_handOf h (nI p) (nI l) = some (nI x.2.1) := by
  obtain ⟨⟨b1, b2, b3⟩, b4, b5⟩ := wfP_at hP hx
  have w4 := hw.1.2.2.2.2.1
  obtain ⟨g1, g2⟩ := m_at hM hw hP hx
  unfold fX8_handOf
  rw [if_pos g1, g2, show nI (x.1 + 96 * x.2.1 + 384 * x.2.2) / 96 = nI ((x.1 + 96 * x.2.1 + 384 * x.2.2) / 96) from pk_div (d := 96) (by omega) (by omega) (by omega), show rmd (nI ((x.1 + 96 * x.2.1 + 384 * x.2.2) / 96)) 4 = nI ((x.1 + 96 * x.2.1 + 384 * x.2.2) / 96 % 4) from rmd_nI (d := 4) (by omega) (by omega) (by omega)]
  congr 2
  omega
theorem m_air (hM : MA h 0 P bt) (hw : wfV V) (hP : wfP V P) (hx : (P p)[l]? = some x) : fX8_airOf h (nI p) (nI l) = some (mI x.2.2) := by
  obtain ⟨⟨b1, b2, b3⟩, b4, b5⟩ := wfP_at hP hx
  have w4 := hw.1.2.2.2.2.1
  obtain ⟨g1, g2⟩ := m_at hM hw hP hx
  unfold fX8_airOf
  rw [if_pos g1, g2, show nI (x.1 + 96 * x.2.1 + 384 * x.2.2) / 384 = nI ((x.1 + 96 * x.2.1 + 384 * x.2.2) / 384) from pk_div (d := 384) (by omega) (by omega) (by omega)]
  congr 1
  show nI _ - 1 = nI _ - 1
  congr 2
  omega
theorem m_lookOf (hV : MV h V) (hM : MA h 0 P bt) (hw : wfV V) (hP : wfP V P) (hx : (P p)[l]? = some x) : fX8_lookOf h (nI p) (nI l) = some (nI (loS V x)) := by
  obtain ⟨⟨b1, b2, b3⟩, b4, b5⟩ := wfP_at hP hx
  unfold fX8_lookOf
  rw [m_air hM hw hP hx, bn_s, m_hand hM hw hP hx, bn_s]
  unfold loS
  by_cases g : x.2.2 = 0
  · rw [if_neg (fun z => ((mI_nn (by omega)).mp z) g), if_pos g, m_hour hM hw hP hx, bn_s, m_look hV hw b2 b1]; rfl
  · rw [if_pos ((mI_nn (by omega)).mpr g), if_neg g]
    obtain ⟨k, hk⟩ : ∃ k, x.2.2 = k + 1 := ⟨x.2.2 - 1, by omega⟩
    rw [hk, mI_s, Nat.add_sub_cancel, m_look hV hw b2 (by omega)]; rfl
theorem m_isLetter (hV : MV h V) (hM : MA h 0 P bt) (hw : wfV V) (hP : wfP V P) (y z : Int32) : fX8_isLetter h y z = some (ck y (V 0 5) && ck z (P (tn y)).length) := by
  unfold fX8_isLetter
  rw [m_isPaper hV hw, bn_s]
  cases hc : ck y (V 0 5) with
  | false => rfl
  | true =>
    have w5 := hw.1.2.2.2.2.2.1
    obtain ⟨p, hp, rfl⟩ := ck_of (by omega) hc
    have hl := (hP p).1
    rw [if_neg (by decide), if_pos (ck48 (by omega)), m_count hM (by omega), show nI (P p).length - 1 = mI (P p).length from rfl, in_ck (by omega), bn_s, tn_nI (by omega)]
    cases ck z (P p).length <;> rfl
end Letter
