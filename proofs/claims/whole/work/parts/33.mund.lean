/-! the reference's rows: copied, remembered, put -/
theorem MA_t {h h2 : aH} {o o2 : Nat} {P : Ps} {bt : Nat} {V : Vd} (hP : wfP V P) (e : ∀ i, i < 53 → h2 55 (o2 + i) = h 55 (o + i)) (H : MA h o P bt) : MA h2 o2 P bt := by
  obtain ⟨a1, a2, a3⟩ := H
  refine ⟨fun p hp => ?_, fun p hp l x hx => ?_, ?_⟩
  · rw [e (48 + p) (by omega)]; exact a1 p hp
  · have := wfP_at hP hx
    rw [e (12 * p + l) (by omega)]; exact a2 p hp l x hx
  · rw [e 52 (by omega)]; exact a3
theorem m_copyL {a b : Nat} (ha : a + 54 ≤ 1782) (hb : b + 54 ≤ 1782) (hd : a + 54 ≤ b ∨ b + 54 ≤ a) (K : aH → Option aH) : ∀ d k n (h : aH), k + d = 54 → d < n → ∃ h2, fX8_copy_L2 K (nI a) (nI b) n h (nI k) = K h2 ∧ (∀ c, c ≠ 55 → h2 c = h c) ∧ (∀ i, i < b + k ∨ b + 54 ≤ i → h2 55 i = h 55 i) ∧ (∀ j, k ≤ j → j < 54 → h2 55 (b + j) = h 55 (a + j))
  | d, k, 0, h, _, hn => absurd hn (by omega)
  | 0, k, n + 1, h, hk, hn => by
    refine ⟨h, ?_, fun _ _ => rfl, fun _ _ => rfl, fun j h1 h2 => by omega⟩
    rw [fX8_copy_L2, if_pos (show 54 ≤ nI k from nI_le (a := 54) (by omega) (by omega))]
  | d + 1, k, n + 1, h, hk, hn => by
    obtain ⟨h2, e1, e2, e3, e4⟩ := m_copyL ha hb hd K d (k + 1) n (aU h 55 (b + k) (h 55 (a + k))) (by omega) (by omega)
    refine ⟨h2, ?_, fun c hc => by rw [e2 c hc, aU_ne hc], fun i hi => ?_, fun j h1 h3 => ?_⟩
    · rw [fX8_copy_L2, if_neg (show ¬ 54 ≤ nI k from nI_ge (b := 54) (by omega) (by omega)), nI_add, nI_add, if_pos (ck_t (by omega) (by omega)), if_pos (ck_t (by omega) (by omega)), tn_nI (by omega), tn_nI (by omega), nI_1]
      exact e1
    · rw [e3 i (by omega)]; simp [aU_rd, show ¬ i = b + k by omega]
    · rcases Nat.lt_or_ge k j with z | z
      · rw [e4 j z h3]; simp [aU_rd, show ¬ a + j = b + k by omega]
      · have : j = k := by omega
        subst this
        rw [e3 (b + j) (by omega)]; simp [aU_rd]
theorem m_copy {a b : Nat} (ha : a + 54 ≤ 1782) (hb : b + 54 ≤ 1782) (hd : a + 54 ≤ b ∨ b + 54 ≤ a) (h : aH) : ∃ h2, fX8_copy h (nI a) (nI b) = some h2 ∧ (∀ c, c ≠ 55 → h2 c = h c) ∧ (∀ i, i < b ∨ b + 54 ≤ i → h2 55 i = h 55 i) ∧ (∀ j, j < 54 → h2 55 (b + j) = h 55 (a + j)) := by
  obtain ⟨h2, e1, e2, e3, e4⟩ := m_copyL ha hb hd (fun h => some h) 54 0 1000 h (by omega) (by omega)
  exact ⟨h2, e1, e2, fun i hi => e3 i (by omega), fun j hj => e4 j (by omega) hj⟩
theorem off54 (k : Nat) : 162 + 54 * nI k = nI (162 + 54 * k) := by
  rw [show (54 : Int32) = nI 54 from rfl, pk_mul, show (162 : Int32) = nI 162 from rfl, nI_add]
theorem m_remL (K : aH → Option aH) : ∀ d k n (h : aH), k + d = 30 → 1 ≤ k → d < n → ∃ h2, fX8_remember_L11 K n h (nI k) = K h2 ∧ (∀ c, c ≠ 55 → h2 c = h c) ∧ (∀ i, i < 162 + 54 * (k - 1) ∨ 1728 ≤ i → h2 55 i = h 55 i) ∧ (∀ i, 162 + 54 * (k - 1) ≤ i → i < 1728 → h2 55 i = h 55 (i + 54))
  | d, k, 0, h, _, _, hn => absurd hn (by omega)
  | 0, k, n + 1, h, hk, hk1, hn => by
    refine ⟨h, ?_, fun _ _ => rfl, fun _ _ => rfl, fun i h1 h2 => by omega⟩
    rw [fX8_remember_L11, if_pos (show 30 ≤ nI k from nI_le (a := 30) (by omega) (by omega))]
  | d + 1, k, n + 1, h, hk, hk1, hn => by
    obtain ⟨h1, f1, f2, f3, f4⟩ := m_copy (a := 162 + 54 * k) (b := 162 + 54 * (k - 1)) (by omega) (by omega) (by omega) h
    obtain ⟨h2, e1, e2, e3, e4⟩ := m_remL K d (k + 1) n h1 (by omega) (by omega) (by omega)
    refine ⟨h2, ?_, fun c hc => by rw [e2 c hc, f2 c hc], fun i hi => ?_, fun i h3 h4 => ?_⟩
    · obtain ⟨k0, rfl⟩ : ∃ k0, k = k0 + 1 := ⟨k - 1, by omega⟩
      rw [fX8_remember_L11, if_neg (show ¬ 30 ≤ nI (k0 + 1) from nI_ge (b := 30) (by omega) (by omega)), nI_pred, off54, off54]
      rw [show k0 + 1 - 1 = k0 from rfl] at f1
      rw [f1, bn_s, nI_1]
      exact e1
    · rw [e3 i (by omega), f3 i (by omega)]
    · rcases Nat.lt_or_ge i (162 + 54 * k) with z | z
      · have := f4 (i - (162 + 54 * (k - 1))) (by omega)
        rw [show 162 + 54 * (k - 1) + (i - (162 + 54 * (k - 1))) = i by omega, show 162 + 54 * k + (i - (162 + 54 * (k - 1))) = i + 54 by omega] at this
        rw [e3 i (by omega), this]
      · rw [e4 i (by omega) h4, f3 (i + 54) (by omega)]
/-- what can be undone behind one deed more -/
def pu (S : Ps × Nat) (un : Un) : Un := (S :: un).take 30
theorem pu_len (S : Ps × Nat) (un : Un) : (pu S un).length = min 30 (un.length + 1) := by unfold pu; rw [List.length_take]; rfl
theorem m_remember {h : aH} {V : Vd} {P : Ps} {bt : Nat} {un : Un} (hM : MA h 0 P bt) (hP : wfP V P) (hU : UnM h un) (hw : wfU V un) : ∃ h2, fX8_remember h = some h2 ∧ (∀ c, c ≠ 54 → c ≠ 55 → h2 c = h c) ∧ (∀ j, j ≠ 25 → h2 54 j = h 54 j) ∧ (∀ i, i < 162 → h2 55 i = h 55 i) ∧ UnM h2 (pu (P, bt) un) := by
  have hl := hw.1
  obtain ⟨u1, u2⟩ := hU
  by_cases g : un.length = 30
  · obtain ⟨h1, f1, f2, f3, f4⟩ := m_remL (fun h5 => bn (fX8_copy (aU h5 54 25 (h5 54 25 - 1)) 0 (162 + 54 * (h5 54 25 - 1))) (fun h7 => some (aU h7 54 25 (h7 54 25 + 1)))) 29 1 1000 h (by omega) (by omega) (by omega)
    have c25 : h1 54 25 = nI 30 := by rw [f2 54 (by omega), u1, g]
    obtain ⟨h2, e1, e2, e3, e4⟩ := m_copy (a := 0) (b := 1728) (by omega) (by omega) (by omega) (aU h1 54 25 (nI 29))
    refine ⟨aU h2 54 25 (nI 30), ?_, fun c hc hc2 => ?_, fun j hj => ?_, fun i hi => ?_, ?_, fun j S hS => ?_⟩
    · unfold fX8_remember
      rw [u1, g, if_pos (show nI 30 = 30 from rfl)]
      refine Eq.trans f1 ?_
      show bn (fX8_copy (aU h1 54 25 (h1 54 25 - 1)) 0 (162 + 54 * (h1 54 25 - 1))) (fun h7 => some (aU h7 54 25 (h7 54 25 + 1))) = _
      rw [c25, show nI 30 - 1 = nI 29 from rfl, off54, show fX8_copy (aU h1 54 25 (nI 29)) 0 (nI (162 + 54 * 29)) = some h2 from e1, bn_s, e2 54 (by omega)]
      rw [show aU h1 54 25 (nI 29) 54 25 = nI 29 by simp [aU_rd]]
      rfl
    · rw [aU_ne hc, e2 c hc2, aU_ne hc, f2 c hc2]
    · simp only [aU_rd]; simp [hj]; rw [e2 54 (by omega)]; simp [aU_rd, hj, f2 54 (by omega)]
    · rw [aU_ne (by omega), e3 i (by omega), aU_ne (by omega), f3 i (by omega)]
    · rw [pu_len, g]; simp [aU_rd]
    · have hj : j < 30 := by
        have := (List.getElem?_eq_some_iff.mp hS).1
        rw [pu_len] at this; omega
      rw [pu_len, g, show min 30 (30 + 1) = 30 from rfl]
      unfold pu at hS
      rw [List.getElem?_take, if_pos hj] at hS
      cases j with
      | zero =>
        cases hS
        refine MA_t (o := 0) hP (fun i hi => ?_) hM
        have := e4 i (by omega)
        rw [aU_ne (by omega), show 162 + 54 * (30 - 1 - 0) + i = 1728 + i by omega, this, aU_ne (by omega), f3 (0 + i) (by omega)]
      | succ j =>
        have hS : un[j]? = some S := hS
        have := u2 j S hS
        rw [g] at this
        refine MA_t (o := 162 + 54 * (30 - 1 - j)) (hw.2 S (List.mem_of_getElem? hS)).1 (fun i hi => ?_) this
        rw [aU_ne (by omega), e3 _ (by omega), aU_ne (by omega), f4 _ (by omega) (by omega), show (162 + 54 * (30 - 1 - (j + 1)) + i) + 54 = 162 + 54 * (30 - 1 - j) + i by omega]
  · obtain ⟨h2, e1, e2, e3, e4⟩ := m_copy (a := 0) (b := 162 + 54 * un.length) (by omega) (by omega) (by omega) h
    refine ⟨aU h2 54 25 (nI (un.length + 1)), ?_, fun c hc hc2 => ?_, fun j hj => ?_, fun i hi => ?_, ?_, fun j S hS => ?_⟩
    · unfold fX8_remember
      rw [u1, if_neg (show ¬ nI un.length = 30 from fun z => g ((nI_eq (b := 30) (by omega) (by omega)).mp z)), off54, show fX8_copy h 0 (nI (162 + 54 * un.length)) = some h2 from e1, bn_s, e2 54 (by omega), u1, nI_1]
    · rw [aU_ne hc, e2 c hc2]
    · simp only [aU_rd]; simp [hj]; rw [e2 54 (by omega)]
    · rw [aU_ne (by omega), e3 i (by omega)]
    · rw [pu_len, Nat.min_eq_right (by omega)]; simp [aU_rd]
    · have hj : j < un.length + 1 := by
        have := (List.getElem?_eq_some_iff.mp hS).1
        rw [pu_len] at this; omega
      rw [pu_len, Nat.min_eq_right (by omega)]
      unfold pu at hS
      rw [List.getElem?_take, if_pos (by omega)] at hS
      cases j with
      | zero =>
        cases hS
        refine MA_t (o := 0) hP (fun i hi => ?_) hM
        have := e4 i (by omega)
        rw [aU_ne (by omega), show 162 + 54 * (un.length + 1 - 1 - 0) + i = 162 + 54 * un.length + i by omega, this]
      | succ j =>
        have hS : un[j]? = some S := hS
        refine MA_t (o := 162 + 54 * (un.length - 1 - j)) (hw.2 S (List.mem_of_getElem? hS)).1 (fun i hi => ?_) (u2 j S hS)
        rw [aU_ne (by omega), e3 _ (by omega), show un.length + 1 - 1 - (j + 1) = un.length - 1 - j by omega]
theorem m_put {h : aH} {V : Vd} {P : Ps} {bt p : Nat} {x : Lt} (hM : MA h 0 P bt) (hP : wfP V P) (hp : p < 4) (hl : (P p).length < 12) (h1 : x.1 < 96) (h2 : x.2.1 < 4) (h3 : x.2.2 ≤ 96) : ∃ h2, fX8_put h (nI p) (nI x.1) (nI x.2.1) (mI x.2.2) = some h2 ∧ (∀ c, c ≠ 55 → h2 c = h c) ∧ (∀ i, 52 ≤ i → h2 55 i = h 55 i) ∧ MA h2 0 (upP P p (P p ++ [x])) bt := by
  have e0 : h 55 (48 + p) = nI (P p).length := by have := hM.1 p hp; rw [Nat.zero_add] at this; exact this
  have ev : nI x.1 + 96 * nI x.2.1 + 384 * (mI x.2.2 + 1) = nI (x.1 + 96 * x.2.1 + 384 * x.2.2) := by
    have e1 : mI x.2.2 + 1 = nI x.2.2 := by
      cases x.2.2 with
      | zero => rfl
      | succ c => rw [mI_s, nI_1]
    rw [e1, show (96 : Int32) = nI 96 from rfl, show (384 : Int32) = nI 384 from rfl, pk_mul, pk_mul, nI_add, nI_add]
  refine ⟨aU (aU h 55 (12 * p + (P p).length) (nI (x.1 + 96 * x.2.1 + 384 * x.2.2))) 55 (48 + p) (nI ((P p).length + 1)), ?_, fun c hc => by rw [aU_ne hc, aU_ne hc], fun i hi => ?_, ?_, ?_, ?_⟩
  · unfold fX8_put
    rw [show 48 + nI p = nI (48 + p) from nI_add 48 p, if_pos (ck_t (by omega) (by omega)), tn_nI (by omega), e0, ix12', if_pos (ck_t (by omega) (by omega)), tn_nI (by omega), ev]
    rw [show aU h 55 (12 * p + (P p).length) (nI (x.1 + 96 * x.2.1 + 384 * x.2.2)) 55 (48 + p) = nI (P p).length by simp [aU_rd, show ¬ 48 + p = 12 * p + (P p).length by omega, e0], nI_1]
  · simp [aU_rd, show ¬ i = 48 + p by omega, show ¬ i = 12 * p + (P p).length by omega]
  · intro q hq
    have := hM.1 q hq
    rw [Nat.zero_add] at this ⊢
    unfold upP
    by_cases z : q = p
    · subst z; simp [aU_rd]
    · simp [aU_rd, z, show ¬ 48 + q = 12 * p + (P p).length by omega, this]
  · intro q hq l y hy
    rw [Nat.zero_add]
    unfold upP at hy
    by_cases z : q = p
    · subst z
      rw [if_pos rfl] at hy
      rcases Nat.lt_or_ge l (P q).length with g | g
      · rw [List.getElem?_append_left g] at hy
        have := hM.2.1 q hq l y hy
        rw [Nat.zero_add] at this
        simp [aU_rd, show ¬ 12 * q + l = 48 + q by omega, show ¬ l = (P q).length by omega, this]
      · rw [List.getElem?_append_right g] at hy
        have z0 : l - (P q).length = 0 := by
          have := (List.getElem?_eq_some_iff.mp hy).1
          simp at this; omega
        rw [z0] at hy
        cases hy
        have hi : l = (P q).length := by omega
        simp [aU_rd, hi, show ¬ 12 * q + (P q).length = 48 + q by omega]
    · rw [if_neg z] at hy
      have b := (hP q).1
      have b2 := (List.getElem?_eq_some_iff.mp hy).1
      have := hM.2.1 q hq l y hy
      rw [Nat.zero_add] at this
      simp [aU_rd, show ¬ 12 * q + l = 48 + p by omega, show ¬ 12 * q + l = 12 * p + (P p).length by omega, this]
  · have := hM.2.2
    rw [Nat.zero_add] at this ⊢
    simp [aU_rd, show ¬ 52 = 48 + p by omega, show ¬ 52 = 12 * p + (P p).length by omega, this]
