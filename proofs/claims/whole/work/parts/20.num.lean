/-! numbers: plain facts (the fa_ rows are the kit's, pasted) -/
theorem fa_lt (a b : Int32) : a < b ↔ a.toInt < b.toInt := Int32.lt_iff_toInt_lt
theorem fa_le (a b : Int32) : a ≤ b ↔ a.toInt ≤ b.toInt := Int32.le_iff_toInt_le
theorem fa_eq (a b : Int32) : a = b ↔ a.toInt = b.toInt := Int32.toInt_inj.symm
theorem fa_lt64 (a b : Int64) : a < b ↔ a.toInt < b.toInt := Int64.lt_iff_toInt_lt
theorem fa_le64 (a b : Int64) : a ≤ b ↔ a.toInt ≤ b.toInt := Int64.le_iff_toInt_le
theorem fa_eq64 (a b : Int64) : a = b ↔ a.toInt = b.toInt := Int64.toInt_inj.symm
theorem fa_wide_le (a b : Int32) : a.toInt64 ≤ b.toInt64 ↔ a ≤ b := by rw [fa_le64, fa_le, Int32.toInt_toInt64, Int32.toInt_toInt64]
theorem fa_of_nlt {a b : Int32} (h : ¬ a < b) : b ≤ a := by
  rw [fa_lt] at h
  rw [fa_le]
  omega
theorem fa_of_nle {a b : Int32} (h : ¬ a ≤ b) : b < a := by
  rw [fa_le] at h
  rw [fa_lt]
  omega
theorem fa_lit (n : Nat) : (OfNat.ofNat n : Int32) = nI n := rfl
theorem fa_litL (n : Nat) : (OfNat.ofNat n : Int64) = lN n := rfl
theorem fa_and (a b : Nat) : nI a &&& nI b = nI (a &&& b) := by
  apply Int32.toBitVec_inj.1
  show BitVec.ofNat 32 a &&& BitVec.ofNat 32 b = BitVec.ofNat 32 (a &&& b)
  apply BitVec.eq_of_getLsbD_eq
  intro i hi
  simp [hi]
theorem fa_or (a b : Nat) : nI a ||| nI b = nI (a ||| b) := by
  apply Int32.toBitVec_inj.1
  show BitVec.ofNat 32 a ||| BitVec.ofNat 32 b = BitVec.ofNat 32 (a ||| b)
  apply BitVec.eq_of_getLsbD_eq
  intro i hi
  simp [hi]
/-- a number less one: -1 is none -/
def mI (a : Nat) : Int32 := nI a - 1
theorem mI_0 : mI 0 = -1 := by decide
theorem mI_s (a : Nat) : mI (a + 1) = nI a := nI_pred a
theorem nI_ne_m1 {a : Nat} (h : a < 2 ^ 31) : ¬ nI a = -1 := by
  rw [fa_eq, nI_toInt h]
  show ¬ (a : Int) = -1
  omega
theorem mI_m1 {a : Nat} (h : a < 2 ^ 31) : mI a = -1 ↔ a = 0 := by
  cases a with
  | zero => exact ⟨fun _ => rfl, fun _ => mI_0⟩
  | succ a => rw [mI_s]; exact ⟨fun z => absurd z (nI_ne_m1 (by omega)), fun z => by omega⟩
theorem mI_neg {a : Nat} (h : a < 2 ^ 31) : mI a < 0 ↔ a = 0 := by
  cases a with
  | zero => exact ⟨fun _ => rfl, fun _ => by rw [mI_0]; decide⟩
  | succ a => rw [mI_s]; exact ⟨fun z => absurd z (nI_pos (by omega)), fun z => by omega⟩
theorem mI_nn {a : Nat} (h : a < 2 ^ 31) : 0 ≤ mI a ↔ ¬ a = 0 := by
  cases a with
  | zero => exact ⟨fun z => absurd z (by rw [mI_0]; decide), fun z => absurd rfl z⟩
  | succ a => rw [mI_s]; exact ⟨fun _ => by omega, fun _ => nI_pos' (by omega)⟩
theorem mI_inj {a b : Nat} (ha : a < 2 ^ 31) (hb : b < 2 ^ 31) : mI a = mI b ↔ a = b := by
  constructor
  · intro h
    have h1 : mI a + 1 = mI b + 1 := by rw [h]
    have e : ∀ c : Nat, mI c + 1 = nI c := fun c => by
      cases c with
      | zero => decide
      | succ c => rw [mI_s, nI_1]
    rw [e, e] at h1
    exact (nI_eq ha hb).mp h1
  · intro h; rw [h]
theorem rmd_nI {a d : Nat} (ha : a < 2 ^ 31) (h0 : 0 < d) (hd : d < 2 ^ 31) : rmd (nI a) (nI d) = nI (a % d) := pk_rem ha h0 hd
theorem ck_nI {i n : Nat} (h : i < 2 ^ 31) : ck (nI i) n = decide (i < n) := by
  unfold ck
  rw [nI_toInt h]
  by_cases hi : i < n
  · rw [decide_eq_true (show (0 : Int) ≤ (i : Int) ∧ (i : Int) < (n : Int) by omega), decide_eq_true hi]
  · rw [decide_eq_false (show ¬ ((0 : Int) ≤ (i : Int) ∧ (i : Int) < (n : Int)) by omega), decide_eq_false hi]
theorem ck_t {i n : Nat} (h : i < n) (hn : n ≤ 2 ^ 31) : ck (nI i) n = true := by rw [ck_nI (by omega), decide_eq_true h]
theorem ck_of {x : Int32} {n : Nat} (hn : n < 2 ^ 31) (h : ck x n = true) : ∃ j, j < n ∧ x = nI j := vp_in_of (ck_in h) hn
theorem ck_iff {x : Int32} {n : Nat} : ck x n = true ↔ 0 ≤ x.toInt ∧ x.toInt < n := by unfold ck; exact decide_eq_true_iff
theorem ck_m1 (n : Nat) : ck (-1) n = false := by
  unfold ck
  exact decide_eq_false (by intro h; have := h.1; exact absurd this (by decide))
/-- the two forms of 'is it within' -/
theorem ck_two {x : Int32} {n : Nat} (hn : n < 2 ^ 31) : (if x < 0 then some false else if nI n ≤ x then some false else some true) = some (ck x n) := by
  by_cases h0 : x < 0
  · rw [if_pos h0]
    have : ck x n = false := by
      unfold ck
      rw [fa_lt] at h0
      have h0 : x.toInt < 0 := h0
      exact decide_eq_false (by omega)
    rw [this]
  · rw [if_neg h0]
    by_cases h1 : nI n ≤ x
    · rw [if_pos h1]
      have : ck x n = false := by
        unfold ck
        rw [fa_le, nI_toInt hn] at h1
        exact decide_eq_false (by omega)
      rw [this]
    · rw [if_neg h1]
      have : ck x n = true := by
        rw [fa_le, nI_toInt hn] at h1
        rw [fa_lt] at h0
        have h0 : ¬ x.toInt < 0 := h0
        exact ck_iff.mpr (by omega)
      rw [this]
theorem in_eq (a b c : Int64) : fX8_in a b c = some (decide (b ≤ a ∧ a ≤ c)) := by
  unfold fX8_in lg_cmp
  by_cases h1 : b ≤ a
  · have e1 : ¬ (if a > b then (1 : Int32) else if a = b then 0 else -1) < 0 := by
      by_cases g : a > b
      · rw [if_pos g]; decide
      · rw [if_neg g]
        have : a = b := by
          rw [gt_iff_lt, fa_lt64] at g
          rw [fa_le64] at h1
          exact (fa_eq64 a b).mpr (by omega)
        rw [if_pos this]; decide
    rw [if_neg e1]
    by_cases h2 : a ≤ c
    · have e2 : ¬ 0 < (if a > c then (1 : Int32) else if a = c then 0 else -1) := by
        have g : ¬ a > c := by
          rw [gt_iff_lt, fa_lt64]
          rw [fa_le64] at h2
          omega
        rw [if_neg g]
        by_cases g2 : a = c
        · rw [if_pos g2]; decide
        · rw [if_neg g2]; decide
      rw [if_neg e2, decide_eq_true ⟨h1, h2⟩]
    · have e2 : 0 < (if a > c then (1 : Int32) else if a = c then 0 else -1) := by
        have g : a > c := by
          rw [gt_iff_lt, fa_lt64]
          rw [fa_le64] at h2
          omega
        rw [if_pos g]; decide
      rw [if_pos e2, decide_eq_false (fun z => h2 z.2)]
  · have e1 : (if a > b then (1 : Int32) else if a = b then 0 else -1) < 0 := by
      rw [fa_le64] at h1
      have g : ¬ a > b := by rw [gt_iff_lt, fa_lt64]; omega
      have g2 : ¬ a = b := by rw [fa_eq64]; omega
      rw [if_neg g, if_neg g2]; decide
    rw [if_pos e1, decide_eq_false (fun z => h1 z.1)]
theorem in32 (x a b : Int32) : fX8_in (Int32.toInt64 x) (Int32.toInt64 a) (Int32.toInt64 b) = some (decide (a ≤ x ∧ x ≤ b)) := by
  rw [in_eq]
  simp only [fa_wide_le]
theorem in_ck {x : Int32} {n : Nat} (hn : n < 2 ^ 31) : fX8_in (Int32.toInt64 x) 0 (Int32.toInt64 (mI n)) = some (ck x n) := by
  rw [show (0 : Int64) = Int32.toInt64 0 from rfl, in32]
  congr 1
  unfold ck
  have e : (mI n).toInt = (n : Int) - 1 := by
    cases n with
    | zero => rw [mI_0]; rfl
    | succ n => rw [mI_s, nI_toInt (by omega)]; omega
  have h1 : (0 ≤ x ∧ x ≤ mI n) ↔ (0 ≤ x.toInt ∧ x.toInt < (n : Int)) := by
    rw [fa_le, fa_le, e]
    show (0 ≤ x.toInt ∧ _) ↔ _
    omega
  by_cases g : 0 ≤ x.toInt ∧ x.toInt < (n : Int)
  · rw [decide_eq_true g, decide_eq_true (h1.mpr g)]
  · rw [decide_eq_false g, decide_eq_false (fun z => g (h1.mp z))]
theorem in_0 {x : Int32} (k : Nat) (c : Int64) (hk : k < 2 ^ 31 - 1) (hc : c = Int32.toInt64 (nI k)) : fX8_in (Int32.toInt64 x) 0 c = some (ck x (k + 1)) := by
  rw [hc, ← mI_s]
  exact in_ck (by omega)
theorem bi_0 (b : Bool) : bi b = 0 ↔ b = false := by cases b <;> simp [bi]
theorem bi_f : bi false = 0 := rfl
theorem bi_t : bi true = 1 := rfl
theorem bn_s {α β : Type} (a : α) (f : α → Option β) : bn (some a) f = f a := rfl
theorem bn2_s {α β γ : Type} (a : α) (b : β) (f : α → β → Option γ) : bn2 (some (a, b)) f = f a b := rfl
theorem if_bi {α : Type} (b : Bool) (A B : α) : (if bi b = 0 then A else B) = if b then B else A := by cases b <;> rfl
theorem isHour7 (x : Int32) : fX7_isHour x = some (ck x 96) := ck_two (n := 96) (by omega)
theorem isHour8 (x : Int32) : fX8_isHour x = some (ck x 96) := by
  unfold fX8_isHour
  rw [in_0 95 95 (by omega) rfl]
  rfl
theorem isLook7 (x : Int32) : fX7_isLook x = some (ck x 10000) := by
  have := ck_two (x := x) (n := 10000) (by omega)
  rw [← this]
  unfold fX7_isLook
  by_cases h : 9999 < x
  · have : nI 10000 ≤ x := by
      rw [fa_le]; rw [fa_lt] at h
      have e1 : (9999 : Int32).toInt = 9999 := rfl
      have e2 : (nI 10000).toInt = 10000 := rfl
      omega
    rw [if_pos h, if_pos this]
  · have : ¬ nI 10000 ≤ x := by
      rw [fa_le]; rw [fa_lt] at h
      have e1 : (9999 : Int32).toInt = 9999 := rfl
      have e2 : (nI 10000).toInt = 10000 := rfl
      omega
    rw [if_neg h, if_neg this]
theorem in_lk (x : Int32) : fX8_in (Int32.toInt64 x) 0 9999 = some (ck x 10000) := in_0 9999 9999 (by omega) rfl
theorem one_t : fX8_one 1 = some 1 := rfl
theorem one_f : fX8_one 0 = some 0 := rfl
theorem one_b (b : Bool) : fX8_one (bi b) = some (bi b) := by cases b <;> rfl
theorem tn_nI {a : Nat} (h : a < 2 ^ 31) : tn (nI a) = a := nI_clamp h
theorem bi_it {α : Type} (A B : α) : (if bi true = 0 then A else B) = B := rfl
theorem bi_if {α : Type} (A B : α) : (if bi false = 0 then A else B) = A := rfl
/-- bounds told by two comparisons -/
theorem ck_le {α : Type} {x : Int32} (k : Nat) (c : Int32) (hk : k < 2 ^ 31 - 1) (hc : c = nI k) (A B : α) : (if x < 0 then A else if x ≤ c then B else A) = if ck x (k + 1) = true then B else A := by
  rw [hc]
  by_cases h0 : x < 0
  · have h9 := h0
    rw [fa_lt] at h9
    have h9 : x.toInt < 0 := h9
    rw [if_pos h0, if_neg (fun z => by have := ck_iff.mp z; omega)]
  · have h9 := h0
    rw [fa_lt] at h9
    have h9 : ¬ x.toInt < 0 := h9
    rw [if_neg h0]
    by_cases h1 : x ≤ nI k
    · have h8 := h1
      rw [fa_le, nI_toInt (by omega)] at h8
      rw [if_pos h1, if_pos (ck_iff.mpr (by omega))]
    · have h8 := h1
      rw [fa_le, nI_toInt (by omega)] at h8
      rw [if_neg h1, if_neg (fun z => by have := ck_iff.mp z; omega)]
theorem ck_ltb {α : Type} {x : Int32} (k : Nat) (c : Int32) (hk : k < 2 ^ 31) (hc : c = nI k) (A B : α) : (if x < 0 then A else if x < c then B else A) = if ck x k = true then B else A := by
  rw [hc]
  by_cases h0 : x < 0
  · have h9 := h0
    rw [fa_lt] at h9
    have h9 : x.toInt < 0 := h9
    rw [if_pos h0, if_neg (fun z => by have := ck_iff.mp z; omega)]
  · have h9 := h0
    rw [fa_lt] at h9
    have h9 : ¬ x.toInt < 0 := h9
    rw [if_neg h0]
    by_cases h1 : x < nI k
    · have h8 := h1
      rw [fa_lt, nI_toInt (by omega)] at h8
      rw [if_pos h1, if_pos (ck_iff.mpr (by omega))]
    · have h8 := h1
      rw [fa_lt, nI_toInt (by omega)] at h8
      rw [if_neg h1, if_neg (fun z => by have := ck_iff.mp z; omega)]
