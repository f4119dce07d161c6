/-! hours of a look -/
def ct (g : Nat → Bool) : Nat → Nat
  | 0 => 0
  | t + 1 => ct g t + (if g t then 1 else 0)
theorem ct_s (g : Nat → Bool) (t : Nat) : ct g (t + 1) = ct g t + (if g t then 1 else 0) := rfl
theorem ct_le (g : Nat → Bool) : ∀ t, ct g t ≤ t
  | 0 => Nat.le_refl 0
  | t + 1 => by
    have := ct_le g t
    rw [ct_s]
    by_cases h : g t = true
    · rw [if_pos h]; omega
    · rw [if_neg h]; omega
theorem ct_mono (g : Nat → Bool) (t : Nat) : ∀ d, ct g t ≤ ct g (t + d)
  | 0 => Nat.le_refl _
  | d + 1 => Nat.le_trans (ct_mono g t d) (Nat.le_add_right _ _)
theorem ct_0 (g : Nat → Bool) : ∀ t, ct g t = 0 ↔ ∀ j, j < t → g j = false
  | 0 => ⟨fun _ j hj => absurd hj (Nat.not_lt_zero j), fun _ => rfl⟩
  | t + 1 => by
    rw [ct_s]
    constructor
    · intro h j hj
      by_cases hg : g t = true
      · rw [if_pos hg] at h; omega
      · rcases Nat.lt_or_ge j t with z | z
        · exact (ct_0 g t).mp (by omega) j z
        · have : j = t := by omega
          subst this
          simpa using hg
    · intro h
      rw [(ct_0 g t).mpr (fun j hj => h j (by omega)), h t (by omega)]
      rfl
/-- the hour that is found, ahead of t -/
def fnd (g : Nat → Bool) (i : Int32) : Nat → Int32
  | 0 => -1
  | t + 1 => if g t = true ∧ nI (ct g t) = i then nI t else fnd g i t
theorem fnd_s (g : Nat → Bool) (i : Int32) (t : Nat) : fnd g i (t + 1) = if g t = true ∧ nI (ct g t) = i then nI t else fnd g i t := rfl
theorem fnd_m1 (g : Nat → Bool) : ∀ t, t ≤ 96 → fnd g (-1) t = -1
  | 0, _ => rfl
  | t + 1, h => by
    rw [fnd_s, if_neg (fun z => nI_ne_m1 (by have := ct_le g t; omega) z.2)]
    exact fnd_m1 g t (by omega)
theorem fnd_hit {g : Nat → Bool} {i : Int32} {t : Nat} (hg : g t = true) (hi : nI (ct g t) = i) : ∀ d, t + 1 + d ≤ 96 → fnd g i (t + 1 + d) = nI t
  | 0, _ => by rw [Nat.add_zero, fnd_s, if_pos ⟨hg, hi⟩]
  | d + 1, h => by
    have h1 := ct_mono g (t + 1) d
    have h2 := ct_le g (t + 1 + d)
    have h3 : ct g (t + 1) = ct g t + 1 := by rw [ct_s, if_pos hg]
    rw [show t + 1 + (d + 1) = (t + 1 + d) + 1 from rfl, fnd_s, if_neg (fun z => ?_)]
    · exact fnd_hit hg hi d (by omega)
    · have h4 := z.2
      rw [← hi, nI_eq (by omega) (by omega)] at h4
      omega
/-- the first hour from t on, of d -/
def sr (g : Nat → Bool) : Nat → Nat → Int32
  | 0, _ => -1
  | d + 1, t => if g t = true then nI t else sr g d (t + 1)
theorem sr_m1 (g : Nat → Bool) : ∀ d t, t + d ≤ 96 → (sr g d t = -1 ↔ ∀ j, j < d → g (t + j) = false)
  | 0, t, _ => ⟨fun _ j hj => absurd hj (Nat.not_lt_zero j), fun _ => rfl⟩
  | d + 1, t, h => by
    show (if g t = true then nI t else sr g d (t + 1)) = -1 ↔ _
    by_cases hg : g t = true
    · rw [if_pos hg]
      constructor
      · intro z; exact absurd z (nI_ne_m1 (by omega))
      · intro z; have := z 0 (by omega); rw [Nat.add_zero, hg] at this; cases this
    · rw [if_neg hg, sr_m1 g d (t + 1) (by omega)]
      constructor
      · intro z j hj
        cases j with
        | zero => simpa using hg
        | succ j => have := z j (by omega); rw [show t + (j + 1) = t + 1 + j by omega]; exact this
      · intro z j hj
        have := z (j + 1) (by omega)
        rw [show t + (j + 1) = t + 1 + j by omega] at this
        exact this
/-- does a hand make the look at the hour -/
def mk (V : Vd) (a k : Nat) : Nat → Bool := fun t => decide (lk V a t = k)
theorem mk_eq {V : Vd} {a k t : Nat} (hk : k < 2 ^ 31) : (nI (lk V a t) = nI k) ↔ mk V a k t = true := by
  have := lk_le (V := V) (a := a) (t := t)
  rw [nI_eq (by omega) hk, mk, decide_eq_true_iff]
section Hours
variable {h : aH} {v : Nat} {V : Vd} {a k : Nat}
theorem c_hoursL (hC : CV h v V) (hL : CL h v V) (hw : wfV V) (ha : a < V 0 4) (hk : k < 2 ^ 31) (K : Int32 → Option Int32) (i : Int32) : ∀ d t n, t + d = 96 → d < n → fnd (mk V a k) i t = -1 → fX6_hoursOfLook_L6 K h v (nI a) (nI k) i n (nI (ct (mk V a k) t)) (nI t) = if fnd (mk V a k) i 96 = -1 then K (nI (ct (mk V a k) 96)) else some (fnd (mk V a k) i 96)
  | 0, t, 0, _, hn, _ => absurd hn (by omega)
  | 0, t, n + 1, ht, hn, hf => by
    have : t = 96 := by omega
    subst this
    rw [fX6_hoursOfLook_L6, if_pos (show 96 ≤ nI 96 from nI_le (a := 96) (by omega) (by omega)), if_pos hf]
  | d + 1, t, 0, _, hn, _ => absurd hn (by omega)
  | d + 1, t, n + 1, ht, hn, hf => by
    rw [fX6_hoursOfLook_L6, if_neg (show ¬ 96 ≤ nI t from nI_ge (b := 96) (by omega) (by omega)), c_look hC hL hw ha (by omega), bn_s]
    by_cases hg : mk V a k t = true
    · rw [if_pos ((mk_eq hk).mpr hg)]
      by_cases hi : nI (ct (mk V a k) t) = i
      · have e := fnd_hit hg hi d (by omega)
        rw [show t + 1 + d = 96 by omega] at e
        rw [if_pos hi, e, if_neg (nI_ne_m1 (by omega))]
      · have e1 : nI (ct (mk V a k) t) + 1 = nI (ct (mk V a k) (t + 1)) := by rw [ct_s, if_pos hg, nI_1]
        rw [if_neg hi, e1, nI_1]
        exact c_hoursL hC hL hw ha hk K i d (t + 1) n (by omega) (by omega) (by rw [fnd_s, if_neg (fun z => hi z.2)]; exact hf)
    · have e1 : ct (mk V a k) t = ct (mk V a k) (t + 1) := by rw [ct_s, if_neg hg]; rfl
      rw [if_neg (fun z => hg ((mk_eq hk).mp z)), e1, nI_1]
      exact c_hoursL hC hL hw ha hk K i d (t + 1) n (by omega) (by omega) (by rw [fnd_s, if_neg (fun z => hg z.1)]; exact hf)
def hrs (V : Vd) (a k : Nat) (i : Int32) : Int32 := if i = -1 then nI (ct (mk V a k) 96) else fnd (mk V a k) i 96
theorem c_hours (hC : CV h v V) (hL : CL h v V) (hw : wfV V) (ha : a < V 0 4) (hk : k < 2 ^ 31) (i : Int32) : fX6_hoursOfLook h v (nI a) (nI k) i = some (hrs V a k i) := by
  unfold fX6_hoursOfLook hrs
  have := c_hoursL hC hL hw ha hk (fun z6 => if i = (-1) then some z6 else some (-1)) i 96 0 1000 (by omega) (by omega) rfl
  rw [show nI (ct (mk V a k) 0) = 0 from rfl, show nI 0 = 0 from rfl] at this
  rw [this]
  by_cases hi : i = -1
  · subst hi
    rw [if_pos (fnd_m1 _ 96 (by omega)), if_pos rfl, if_pos rfl]
  · by_cases hf : fnd (mk V a k) i 96 = -1
    · rw [if_pos hf, if_neg hi, if_neg hi, hf]
    · rw [if_neg hf, if_neg hi]
theorem m_hoursL (hM : MV h V) (hw : wfV V) (ha : a < V 0 4) (hk : k < 2 ^ 31) (K : Int32 → Int32 → Option Int32) (i : Int32) : ∀ d t n, t + d = 96 → d < n → fX8_hoursOf_L9 K h (nI a) (nI k) i n (nI (ct (mk V a k) t)) (fnd (mk V a k) i t) (nI t) = K (nI (ct (mk V a k) 96)) (fnd (mk V a k) i 96)
  | 0, t, 0, _, hn => absurd hn (by omega)
  | 0, t, n + 1, ht, hn => by
    have : t = 96 := by omega
    subst this
    rw [fX8_hoursOf_L9, if_pos (show 96 ≤ nI 96 from nI_le (a := 96) (by omega) (by omega))]
  | d + 1, t, 0, _, hn => absurd hn (by omega)
  | d + 1, t, n + 1, ht, hn => by
    rw [fX8_hoursOf_L9, if_neg (show ¬ 96 ≤ nI t from nI_ge (b := 96) (by omega) (by omega)), m_look hM hw ha (by omega), bn_s]
    by_cases hg : mk V a k t = true
    · rw [if_pos ((mk_eq hk).mpr hg)]
      have e1 : nI (ct (mk V a k) t) + 1 = nI (ct (mk V a k) (t + 1)) := by rw [ct_s, if_pos hg, nI_1]
      by_cases hi : nI (ct (mk V a k) t) = i
      · have e2 : nI t = fnd (mk V a k) i (t + 1) := by rw [fnd_s, if_pos ⟨hg, hi⟩]
        have := m_hoursL hM hw ha hk K i d (t + 1) n (by omega) (by omega)
        rw [← e2, ← e1, ← nI_1] at this
        rw [if_pos hi]
        exact this
      · have e2 : fnd (mk V a k) i t = fnd (mk V a k) i (t + 1) := by rw [fnd_s, if_neg (fun z => hi z.2)]
        rw [if_neg hi, e1, nI_1, e2]
        exact m_hoursL hM hw ha hk K i d (t + 1) n (by omega) (by omega)
    · have e1 : ct (mk V a k) t = ct (mk V a k) (t + 1) := by rw [ct_s, if_neg hg]; rfl
      have e2 : fnd (mk V a k) i t = fnd (mk V a k) i (t + 1) := by rw [fnd_s, if_neg (fun z => hg z.1)]
      rw [if_neg (fun z => hg ((mk_eq hk).mp z)), e1, nI_1, e2]
      exact m_hoursL hM hw ha hk K i d (t + 1) n (by omega) (by omega)
theorem m_hours (hM : MV h V) (hw : wfV V) (ha : a < V 0 4) (hk : k < 2 ^ 31) (i : Int32) : fX8_hoursOf h (nI a) (nI k) i = some (hrs V a k i) := by
  unfold fX8_hoursOf hrs
  have := m_hoursL hM hw ha hk (fun z6 z7 => if i = (-1) then some z6 else some z7) i 96 0 1000 (by omega) (by omega)
  rw [show nI (ct (mk V a k) 0) = 0 from rfl, show nI 0 = 0 from rfl, show fnd (mk V a k) i 0 = -1 from rfl] at this
  rw [this]
  by_cases hi : i = -1
  · rw [if_pos hi, if_pos hi]
  · rw [if_neg hi, if_neg hi]
theorem c_firstL (hC : CV h v V) (hL : CL h v V) (hw : wfV V) (ha : a < V 0 4) (hk : k < 2 ^ 31) : ∀ d t n, t + d = 96 → d < n → fX6_firstHour_L3 (fun _ => some (-1)) h v (nI a) (nI k) n (nI t) = some (sr (mk V a k) d t)
  | 0, t, 0, _, hn => absurd hn (by omega)
  | 0, t, n + 1, ht, hn => by
    have : t = 96 := by omega
    subst this
    rw [fX6_firstHour_L3, if_pos (show 96 ≤ nI 96 from nI_le (a := 96) (by omega) (by omega))]
    rfl
  | d + 1, t, 0, _, hn => absurd hn (by omega)
  | d + 1, t, n + 1, ht, hn => by
    rw [fX6_firstHour_L3, if_neg (show ¬ 96 ≤ nI t from nI_ge (b := 96) (by omega) (by omega)), c_look hC hL hw ha (by omega), bn_s]
    show _ = some (if mk V a k t = true then nI t else sr (mk V a k) d (t + 1))
    by_cases hg : mk V a k t = true
    · rw [if_pos ((mk_eq hk).mpr hg), if_pos hg]
    · rw [if_neg (fun z => hg ((mk_eq hk).mp z)), if_neg hg, nI_1]
      exact c_firstL hC hL hw ha hk d (t + 1) n (by omega) (by omega)
theorem c_first (hC : CV h v V) (hL : CL h v V) (hw : wfV V) (ha : a < V 0 4) (hk : k < 2 ^ 31) {t : Nat} (ht : t < 96) : fX6_firstHour h v (nI a) (nI k) (nI t) = some (sr (mk V a k) (96 - t) t) := c_firstL hC hL hw ha hk (96 - t) t 1000 (by omega) (by omega)
theorem m_firstL (hM : MV h V) (hw : wfV V) (ha : a < V 0 4) (hk : k < 2 ^ 31) : ∀ d t n, t + d = 96 → d < n → fX8_soonest_L36 (fun _ => some (-1)) h (nI a) (nI k) n (nI t) = some (sr (mk V a k) d t)
  | 0, t, 0, _, hn => absurd hn (by omega)
  | 0, t, n + 1, ht, hn => by
    have : t = 96 := by omega
    subst this
    rw [fX8_soonest_L36, if_pos (show 96 ≤ nI 96 from nI_le (a := 96) (by omega) (by omega))]
    rfl
  | d + 1, t, 0, _, hn => absurd hn (by omega)
  | d + 1, t, n + 1, ht, hn => by
    rw [fX8_soonest_L36, if_neg (show ¬ 96 ≤ nI t from nI_ge (b := 96) (by omega) (by omega)), m_look hM hw ha (by omega), bn_s]
    show _ = some (if mk V a k t = true then nI t else sr (mk V a k) d (t + 1))
    by_cases hg : mk V a k t = true
    · rw [if_pos ((mk_eq hk).mpr hg), if_pos hg]
    · rw [if_neg (fun z => hg ((mk_eq hk).mp z)), if_neg hg, nI_1]
      exact m_firstL hM hw ha hk d (t + 1) n (by omega) (by omega)
end Hours
