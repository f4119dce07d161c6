/-! rows of letters, one an hour -/
def cc (V : Vd) (L : List Lt) (a f t : Nat) : Nat → Bool := fun j => decide (f + j < L.length ∧ t + j < 96 ∧ loS V (L.getD (f + j) (0, 0, 0)) = lk V a (t + j))
def en (c : Nat → Bool) : Nat → Nat → Nat
  | 0, j => j
  | d + 1, j => if c j = true then en c d (j + 1) else j
theorem en_s (c : Nat → Bool) (d j : Nat) : en c (d + 1) j = if c j = true then en c d (j + 1) else j := rfl
theorem en_ge (c : Nat → Bool) : ∀ d j, j ≤ en c d j ∧ en c d j ≤ j + d
  | 0, j => ⟨Nat.le_refl j, Nat.le_refl j⟩
  | d + 1, j => by
    rw [en_s]
    by_cases h : c j = true
    · rw [if_pos h]
      have := en_ge c d (j + 1)
      omega
    · rw [if_neg h]; omega
/-- how far a row goes: the end is a place where it stops, all ahead of it go on -/
theorem en_all (c : Nat → Bool) : ∀ d j i, j ≤ i → i < en c d j → c i = true
  | 0, j, i, h1, h2 => absurd h2 (by show ¬ i < j; omega)
  | d + 1, j, i, h1, h2 => by
    rw [en_s] at h2
    by_cases h : c j = true
    · rw [if_pos h] at h2
      rcases Nat.lt_or_ge j i with z | z
      · exact en_all c d (j + 1) i z h2
      · have : i = j := by omega
        subst this; exact h
    · rw [if_neg h] at h2; omega
def rn (V : Vd) (L : List Lt) (a f t : Nat) : Nat := en (cc V L a f t) 12 0
theorem cc_lt {V : Vd} {L : List Lt} {a f t j : Nat} (h : cc V L a f t j = true) : f + j < L.length ∧ t + j < 96 := by
  unfold cc at h
  have := of_decide_eq_true h
  exact ⟨this.1, this.2.1⟩
theorem rn_le {V : Vd} {L : List Lt} {a f t : Nat} (hL : L.length ≤ 12) : f + rn V L a f t ≤ L.length ∨ rn V L a f t = 0 := by
  rcases Nat.eq_zero_or_pos (rn V L a f t) with z | z
  · exact Or.inr z
  · have := cc_lt (en_all (cc V L a f t) 12 0 (rn V L a f t - 1) (by omega) (by show _ < rn V L a f t; omega))
    exact Or.inl (by omega)
theorem rn_hr {V : Vd} {L : List Lt} {a f t : Nat} (ht : t < 96) : t + rn V L a f t ≤ 96 := by
  rcases Nat.eq_zero_or_pos (rn V L a f t) with z | z
  · omega
  · have := cc_lt (en_all (cc V L a f t) 12 0 (rn V L a f t - 1) (by omega) (by show _ < rn V L a f t; omega))
    omega
section Runs
variable {h : aH} {v : Nat} {V : Vd} {P : Ps} {bt sd p a : Nat}
theorem getD_at {L : List Lt} {i : Nat} (hi : i < L.length) : L[i]? = some (L.getD i (0, 0, 0)) := by
  rw [List.getD_eq_getElem?_getD, List.getElem?_eq_getElem hi]; rfl
theorem c_rowL (hC : CV h v V) (hL : CL h v V) (hw : wfV V) (hP : wfP V P) (hA : CA h 3 P bt sd) (ha : a < V 0 4) {f t : Nat} (hf : f ≤ 12) (ht : t < 96) (K : Int32 → Option Int32) : ∀ d j n, (P p).length ≤ f + j + d → d < n → j ≤ 12 → fX0_rowFrom_L10 K h 3 v (nI p) (nI f) (nI a) (nI t) (nI (P p).length) n (nI j) = K (nI (en (cc V (P p) a f t) d j))
  | d, j, 0, _, hn, _ => absurd hn (by omega)
  | d, j, n + 1, hd, hn, hj => by
    have hl := (hP p).1
    rw [fX0_rowFrom_L10, nI_add, nI_add]
    by_cases g1 : (P p).length ≤ f + j
    · have e : en (cc V (P p) a f t) d j = j := by
        cases d with
        | zero => rfl
        | succ d => rw [en_s, if_neg (fun z => by have := cc_lt z; omega)]
      rw [if_pos (nI_le g1 (by omega)), e]
    · cases d with
      | zero => omega
      | succ d =>
        rw [if_neg (nI_ge (by omega) (by omega))]
        by_cases g2 : 96 ≤ t + j
        · have e : en (cc V (P p) a f t) (d + 1) j = j := by rw [en_s, if_neg (fun z => by have := cc_lt z; omega)]
          rw [if_pos (show 96 ≤ nI (t + j) from nI_le (a := 96) g2 (by omega)), e]
        · have hx := getD_at (L := P p) (show f + j < (P p).length by omega)
          have b1 := loS_le (V := V) (x := (P p).getD (f + j) (0, 0, 0))
          have b2 := lk_le (V := V) (a := a) (t := t + j)
          rw [if_neg (show ¬ 96 ≤ nI (t + j) from nI_ge (b := 96) (by omega) (by omega)), c_lookOf hC hL hw hP hA hx, bn_s, c_look hC hL hw ha (by omega), bn_s, en_s]
          by_cases g3 : loS V ((P p).getD (f + j) (0, 0, 0)) = lk V a (t + j)
          · have hc : cc V (P p) a f t j = true := decide_eq_true ⟨by omega, by omega, g3⟩
            rw [if_pos (by rw [g3]), if_pos hc, nI_1]
            exact c_rowL hC hL hw hP hA ha hf ht K d (j + 1) n (by omega) (by omega) (by omega)
          · rw [if_neg (fun z => g3 ((nI_eq (by omega) (by omega)).mp z)), if_neg (fun z => g3 (of_decide_eq_true z).2.2)]
theorem c_row (hC : CV h v V) (hL : CL h v V) (hw : wfV V) (hP : wfP V P) (hA : CA h 3 P bt sd) (hp : p < 4) (ha : a < V 0 4) {f t : Nat} (hf : f ≤ 12) (ht : t < 96) : fX0_rowFrom h 3 v (nI p) (nI f) (nI a) (nI t) = some (nI (rn V (P p) a f t)) := by
  have hl := (hP p).1
  unfold fX0_rowFrom
  rw [c_count hA hp, bn_s]
  exact c_rowL hC hL hw hP hA ha hf ht (fun z => some z) 12 0 1000 (by omega) (by omega) (by omega)
theorem m_rowL (hV : MV h V) (hM : MA h 0 P bt) (hw : wfV V) (hP : wfP V P) (hp : p < 4) (ha : a < V 0 4) {f t : Nat} (hf : f ≤ 12) (ht : t < 96) (K : Int32 → Option Int32) : ∀ d j n, (P p).length ≤ f + j + d → d < n → j ≤ 12 → fX8_runFrom_L3 K h (nI p) (nI f) (nI a) (nI t) n (nI j) = K (nI (en (cc V (P p) a f t) d j))
  | d, j, 0, _, hn, _ => absurd hn (by omega)
  | d, j, n + 1, hd, hn, hj => by
    have hl := (hP p).1
    rw [fX8_runFrom_L3, if_pos (ck48 hp), m_count hM hp, nI_add, nI_add]
    by_cases g1 : (P p).length ≤ f + j
    · have e : en (cc V (P p) a f t) d j = j := by
        cases d with
        | zero => rfl
        | succ d => rw [en_s, if_neg (fun z => by have := cc_lt z; omega)]
      rw [if_pos (nI_le g1 (by omega)), e]
    · cases d with
      | zero => omega
      | succ d =>
        rw [if_neg (nI_ge (by omega) (by omega))]
        by_cases g2 : 96 ≤ t + j
        · have e : en (cc V (P p) a f t) (d + 1) j = j := by rw [en_s, if_neg (fun z => by have := cc_lt z; omega)]
          rw [if_pos (show 96 ≤ nI (t + j) from nI_le (a := 96) g2 (by omega)), e]
        · have hx := getD_at (L := P p) (show f + j < (P p).length by omega)
          have b1 := loS_le (V := V) (x := (P p).getD (f + j) (0, 0, 0))
          have b2 := lk_le (V := V) (a := a) (t := t + j)
          rw [if_neg (show ¬ 96 ≤ nI (t + j) from nI_ge (b := 96) (by omega) (by omega)), m_look hV hw ha (by omega), bn_s, m_lookOf hV hM hw hP hx, bn_s, en_s]
          by_cases g3 : loS V ((P p).getD (f + j) (0, 0, 0)) = lk V a (t + j)
          · have hc : cc V (P p) a f t j = true := decide_eq_true ⟨by omega, by omega, g3⟩
            rw [if_pos (by rw [g3]), if_pos hc, nI_1]
            exact m_rowL hV hM hw hP hp ha hf ht K d (j + 1) n (by omega) (by omega) (by omega)
          · rw [if_neg (fun z => g3 ((nI_eq (by omega) (by omega)).mp z.symm)), if_neg (fun z => g3 (of_decide_eq_true z).2.2)]
theorem m_row (hV : MV h V) (hM : MA h 0 P bt) (hw : wfV V) (hP : wfP V P) (hp : p < 4) (ha : a < V 0 4) {f t : Nat} (hf : f ≤ 12) (ht : t < 96) : fX8_runFrom h (nI p) (nI f) (nI a) (nI t) = some (nI (rn V (P p) a f t)) := by
  have hl := (hP p).1
  unfold fX8_runFrom
  exact m_rowL hV hM hw hP hp ha hf ht (fun z => some z) 12 0 1000 (by omega) (by omega) (by omega)
/-- the longest row ahead of t -/
def mx (r : Nat → Nat) : Nat → Nat
  | 0 => 0
  | t + 1 => max (mx r t) (r t)
theorem mx_s (r : Nat → Nat) (t : Nat) : mx r (t + 1) = max (mx r t) (r t) := rfl
theorem mx_le {r : Nat → Nat} {b : Nat} (h : ∀ t, r t ≤ b) : ∀ t, mx r t ≤ b
  | 0 => Nat.zero_le b
  | t + 1 => Nat.max_le.mpr ⟨mx_le h t, h t⟩
theorem rn_b {V : Vd} {L : List Lt} {f t : Nat} : rn V L a f t ≤ 12 := by
  have := (en_ge (cc V L a f t) 12 0).2
  unfold rn; omega
theorem c_longL (hC : CV h v V) (hL : CL h v V) (hw : wfV V) (hP : wfP V P) (hA : CA h 3 P bt sd) (hp : p < 4) (ha : a < V 0 4) {f : Nat} (hf : f ≤ 12) (K : Int32 → Option Int32) : ∀ d t n, t + d = 96 → d < n → fX0_longestRow_L6 K h 3 v (nI p) (nI f) (nI a) n (nI (mx (rn V (P p) a f) t)) (nI t) = K (nI (mx (rn V (P p) a f) 96))
  | d, t, 0, _, hn => absurd hn (by omega)
  | 0, t, n + 1, ht, hn => by
    have : t = 96 := by omega
    subst this
    rw [fX0_longestRow_L6, if_pos (show 96 ≤ nI 96 from nI_le (a := 96) (by omega) (by omega))]
  | d + 1, t, n + 1, ht, hn => by
    have b1 := mx_le (r := rn V (P p) a f) (fun t => rn_b) t
    have b2 := rn_b (a := a) (V := V) (L := P p) (f := f) (t := t)
    have e : (if nI (mx (rn V (P p) a f) t) < nI (rn V (P p) a f t) then nI (rn V (P p) a f t) else nI (mx (rn V (P p) a f) t)) = nI (mx (rn V (P p) a f) (t + 1)) := by
      rw [mx_s]
      by_cases g : mx (rn V (P p) a f) t < rn V (P p) a f t
      · rw [if_pos (nI_lt g (by omega)), Nat.max_eq_right (by omega)]
      · rw [if_neg (nI_nlt (by omega) (by omega)), Nat.max_eq_left (by omega)]
    rw [fX0_longestRow_L6, if_neg (show ¬ 96 ≤ nI t from nI_ge (b := 96) (by omega) (by omega)), c_row hC hL hw hP hA hp ha hf (by omega), bn_s, e, nI_1]
    exact c_longL hC hL hw hP hA hp ha hf K d (t + 1) n (by omega) (by omega)
def lgr (V : Vd) (L : List Lt) (a f : Nat) : Nat := mx (rn V L a f) 96
theorem lgr_b {V : Vd} {L : List Lt} {a f : Nat} : lgr V L a f ≤ 12 := mx_le (fun _ => rn_b) 96
theorem c_long (hC : CV h v V) (hL : CL h v V) (hw : wfV V) (hP : wfP V P) (hA : CA h 3 P bt sd) (hp : p < 4) (ha : a < V 0 4) {f : Nat} (hf : f ≤ 12) : fX0_longestRow h 3 v (nI p) (nI f) (nI a) = some (nI (lgr V (P p) a f)) :=
  c_longL hC hL hw hP hA hp ha hf (fun z => some z) 96 0 1000 (by omega) (by omega)
theorem m_longL (hV : MV h V) (hM : MA h 0 P bt) (hw : wfV V) (hP : wfP V P) (hp : p < 4) (ha : a < V 0 4) {f : Nat} (hf : f ≤ 12) (K : Int32 → Option Int32) : ∀ d t n, t + d = 96 → d < n → fX8_longestRun_L6 K h (nI p) (nI f) (nI a) n (nI (mx (rn V (P p) a f) t)) (nI t) = K (nI (mx (rn V (P p) a f) 96))
  | d, t, 0, _, hn => absurd hn (by omega)
  | 0, t, n + 1, ht, hn => by
    have : t = 96 := by omega
    subst this
    rw [fX8_longestRun_L6, if_pos (show 96 ≤ nI 96 from nI_le (a := 96) (by omega) (by omega))]
  | d + 1, t, n + 1, ht, hn => by
    have b1 := mx_le (r := rn V (P p) a f) (fun t => rn_b) t
    have b2 := rn_b (a := a) (V := V) (L := P p) (f := f) (t := t)
    have ih := m_longL hV hM hw hP hp ha hf K d (t + 1) n (by omega) (by omega)
    rw [fX8_longestRun_L6, if_neg (show ¬ 96 ≤ nI t from nI_ge (b := 96) (by omega) (by omega)), m_row hV hM hw hP hp ha hf (by omega), bn_s, nI_1]
    rw [mx_s] at ih
    by_cases g : rn V (P p) a f t ≤ mx (rn V (P p) a f) t
    · rw [if_pos (nI_le g (by omega))]
      rw [Nat.max_eq_left g] at ih
      exact ih
    · rw [if_neg (nI_ge (by omega) (by omega))]
      rw [Nat.max_eq_right (by omega)] at ih
      exact ih
theorem m_long (hV : MV h V) (hM : MA h 0 P bt) (hw : wfV V) (hP : wfP V P) (hp : p < 4) (ha : a < V 0 4) {f : Nat} (hf : f ≤ 12) : fX8_longestRun h (nI p) (nI f) (nI a) = some (nI (lgr V (P p) a f)) :=
  m_longL hV hM hw hP hp ha hf (fun z => some z) 96 0 1000 (by omega) (by omega)
theorem lgr_end {V : Vd} {L : List Lt} {a f : Nat} (hL : L.length ≤ 12) : f + lgr V L a f ≤ L.length ∨ lgr V L a f = 0 := by
  have : ∀ t, f + mx (rn V L a f) t ≤ L.length ∨ mx (rn V L a f) t = 0 := by
    intro t
    induction t with
    | zero => exact Or.inr rfl
    | succ t ih =>
      rw [mx_s]
      have := rn_le (V := V) (L := L) (a := a) (f := f) (t := t) hL
      omega
  exact this 96
/-- both count the fewest rows alike -/
theorem cm_few (hC : CV h v V) (hL : CL h v V) (hV : MV h V) (hM : MA h 0 P bt) (hw : wfV V) (hP : wfP V P) (hA : CA h 3 P bt sd) (hp : p < 4) (ha : a < V 0 4) : ∀ d f s n m, (P p).length ≤ f + d → d < n → d < m → s ≤ f → f ≤ 12 → ∃ r, fX0_fewestRows_L16 (fun z => some z) h 3 v (nI p) (nI a) (nI (P p).length) n (nI s) (nI f) (nI s) = some r ∧ fX8_addedAt_L50 (fun z => some z) h (nI p) (nI a) m (nI s) (nI f) = some r
  | d, f, s, 0, m, _, hn, _, _, _ => absurd hn (by omega)
  | d, f, s, n, 0, _, _, hm, _, _ => absurd hm (by omega)
  | d, f, s, n + 1, m + 1, hd, hn, hm, hs, hf => by
    have hl := (hP p).1
    rw [fX0_fewestRows_L16, fX8_addedAt_L50, if_pos (ck48 hp), m_count hM hp]
    by_cases g1 : (P p).length ≤ f
    · rw [if_pos (nI_le g1 (by omega)), if_pos (nI_le g1 (by omega))]
      by_cases g2 : 12 ≤ s
      · rw [if_pos (show 12 ≤ nI s from nI_le (a := 12) g2 (by omega))]; exact ⟨_, rfl, rfl⟩
      · rw [if_neg (show ¬ 12 ≤ nI s from nI_ge (b := 12) (by omega) (by omega))]; exact ⟨_, rfl, rfl⟩
    · have b := lgr_b (V := V) (L := P p) (a := a) (f := f)
      rw [if_neg (show ¬ 12 ≤ nI s from nI_ge (b := 12) (by omega) (by omega)), if_neg (nI_ge (by omega) (by omega)), if_neg (nI_ge (by omega) (by omega)), c_long hC hL hw hP hA hp ha hf, m_long hV hM hw hP hp ha hf, bn_s, bn_s]
      by_cases g3 : lgr V (P p) a f = 0
      · rw [g3, if_neg (show ¬ 1 ≤ nI 0 from nI_ge (b := 1) (by omega) (by omega)), if_pos (show nI 0 = 0 from rfl)]; exact ⟨_, rfl, rfl⟩
      · rw [if_pos (show 1 ≤ nI _ from nI_le (a := 1) (by omega) (by omega)), if_neg (nI_ne0 (by omega) (by omega)), nI_1, nI_add]
        have e := lgr_end (V := V) (L := P p) (a := a) (f := f) hl
        cases d with
        | zero => omega
        | succ d => exact cm_few hC hL hV hM hw hP hA hp ha d _ (s + 1) n m (by omega) (by omega) (by omega) (by omega) (by omega)
theorem op_addedAt (R : RD h v V P bt sd) (x y z : Int32) : ∃ r, fX7_addedAt h x y z = some r ∧ fX8_addedAt h x y z = some r := by
  obtain ⟨hv, hC, hL, hA, hV, hM, hw, hP⟩ := R
  have w4 := hw.1.2.2.2.2.1
  have w5 := hw.1.2.2.2.2.2.1
  unfold fX7_addedAt fX8_addedAt
  rw [hv, bn_s, c_hasPaper hC hw, bn_s, m_isPaper hV hw, bn_s, c_hasHand hC hw, bn_s, m_isHand hV hw, bn_s, in_0 1 1 (by omega) rfl, bn_s]
  cases hx : ck x (V 0 5) with
  | false => exact ⟨_, rfl, rfl⟩
  | true =>
    cases hy : ck y (V 0 4) with
    | false => exact ⟨_, rfl, rfl⟩
    | true =>
      obtain ⟨p, hp, rfl⟩ := ck_of (by omega) hx
      obtain ⟨a, ha, rfl⟩ := ck_of (by omega) hy
      have hl := (hP p).1
      simp only [bi_it]
      by_cases h0 : z = 0
      · subst h0
        rw [if_pos rfl, if_pos rfl, show ck 0 (1 + 1) = true from rfl, bi_it, show (0 : Int32) = nI 0 from rfl, c_long hC hL hw hP hA (by omega) ha (by omega), m_long hV hM hw hP (by omega) ha (by omega)]
        exact ⟨_, rfl, rfl⟩
      · rw [if_neg h0, if_neg h0]
        by_cases h1 : z = 1
        · subst h1
          rw [if_pos rfl, show ck 1 (1 + 1) = true from rfl, bi_it]
          unfold fX0_fewestRows
          rw [c_count hA (by omega), bn_s]
          obtain ⟨r, e1, e2⟩ := cm_few hC hL hV hM hw hP hA (p := p) (by omega) ha 12 0 0 1000 1000 (by omega) (by omega) (by omega) (by omega) (by omega)
          refine ⟨r, ?_, e2⟩
          rw [show (0 : Int32) = nI 0 from rfl, e1]
          rfl
        · have : ck z (1 + 1) = false := by
            rcases Bool.eq_false_or_eq_true (ck z (1 + 1)) with q | q
            · obtain ⟨j, hj, rfl⟩ := ck_of (by omega) q
              match j, hj with
              | 0, _ => exact absurd rfl h0
              | 1, _ => exact absurd rfl h1
            · exact q
          rw [if_neg h1, this, bi_if]
          exact ⟨_, rfl, rfl⟩
end Runs
