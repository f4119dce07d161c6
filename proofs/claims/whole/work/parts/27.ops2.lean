/-! reading calls, second lot -/
def fi (g : Nat → Bool) : Nat → Int32
  | 0 => -1
  | t + 1 => if g t = true ∧ ct g t = 0 then nI t else fi g t
def la (g : Nat → Bool) : Nat → Int32
  | 0 => -1
  | t + 1 => if g t = true then nI t else la g t
theorem fi_s (g : Nat → Bool) (t : Nat) : fi g (t + 1) = if g t = true ∧ ct g t = 0 then nI t else fi g t := rfl
theorem la_s (g : Nat → Bool) (t : Nat) : la g (t + 1) = if g t = true then nI t else la g t := rfl
theorem fi_m1 (g : Nat → Bool) : ∀ t, t ≤ 96 → (fi g t = -1 ↔ ct g t = 0)
  | 0, _ => ⟨fun _ => rfl, fun _ => rfl⟩
  | t + 1, ht => by
    rw [fi_s, ct_s]
    by_cases hg : g t = true
    · rw [if_pos hg]
      by_cases h0 : ct g t = 0
      · rw [if_pos ⟨hg, h0⟩]
        exact ⟨fun z => absurd z (nI_ne_m1 (by omega)), fun z => by omega⟩
      · rw [if_neg (fun z => h0 z.2), fi_m1 g t (by omega)]
        exact ⟨fun z => absurd z h0, fun z => by omega⟩
    · rw [if_neg (fun z => hg z.1), if_neg hg, fi_m1 g t (by omega)]
      omega
theorem ct_stop {g : Nat → Bool} {t : Nat} (h : ∀ j, t ≤ j → j < 96 → g j = false) : ∀ d, t + d ≤ 96 → ct g (t + d) = ct g t ∧ fi g (t + d) = fi g t ∧ la g (t + d) = la g t
  | 0, _ => ⟨rfl, rfl, rfl⟩
  | d + 1, hd => by
    have ih := ct_stop h d (by omega)
    have hg : ¬ g (t + d) = true := by rw [h (t + d) (by omega) (by omega)]; decide
    rw [show t + (d + 1) = (t + d) + 1 from rfl, ct_s, fi_s, la_s, if_neg hg, if_neg (fun z => hg z.1), if_neg hg]
    exact ih
section Ops2
variable {h : aH} {v : Nat} {V : Vd} {P : Ps} {bt sd p a : Nat}
def dt (V : Vd) (L : List Lt) (a : Nat) : Nat → Bool := fun t => decide (rn V L a 0 t = L.length)
theorem dt_stop {L : List Lt} {t : Nat} (h : 96 < t + L.length) : ∀ j, t ≤ j → j < 96 → dt V L a j = false := by
  intro j h1 h2
  have := rn_hr (V := V) (L := L) (a := a) (f := 0) h2
  exact decide_eq_false (by omega)
theorem c_datedL (hv : vl (h 0 9) = some v) (hC : CV h v V) (hL : CL h v V) (hw : wfV V) (hP : wfP V P) (hA : CA h 3 P bt sd) (hp : p < 4) (ha : a < V 0 4) (x3 : Int32) (K : Int32 → Int32 → Int32 → Option Int32) : ∀ d t n, t + d = 96 → d < n → fX7_dated_L59 K h (nI p) (nI a) x3 (nI (P p).length) n (nI (ct (dt V (P p) a) t)) (fi (dt V (P p) a) t) (la (dt V (P p) a) t) (nI t) = K (nI (ct (dt V (P p) a) 96)) (fi (dt V (P p) a) 96) (la (dt V (P p) a) 96)
  | d, t, 0, _, hn => absurd hn (by omega)
  | 0, t, n + 1, ht, hn => by
    have : t = 96 := by omega
    subst this
    rw [fX7_dated_L59, if_pos (show 96 ≤ nI 96 from nI_le (a := 96) (by omega) (by omega))]
  | d + 1, t, n + 1, ht, hn => by
    have hl := (hP p).1
    rw [fX7_dated_L59, if_neg (show ¬ 96 ≤ nI t from nI_ge (b := 96) (by omega) (by omega)), nI_add]
    by_cases g1 : 96 < t + (P p).length
    · obtain ⟨e1, e2, e3⟩ := ct_stop (dt_stop (V := V) (a := a) g1) (d + 1) (by omega)
      rw [show t + (d + 1) = 96 by omega] at e1 e2 e3
      rw [if_pos (show 96 < nI _ from nI_lt (a := 96) g1 (by omega)), e1, e2, e3]
    · have b := rn_b (a := a) (V := V) (L := P p) (f := 0) (t := t)
      have bc := ct_le (dt V (P p) a) t
      have ih := c_datedL hv hC hL hw hP hA hp ha x3 K d (t + 1) n (by omega) (by omega)
      rw [if_neg (show ¬ 96 < nI _ from nI_nlt (a := 96) (by omega) (by omega)), hv, bn_s, show (0 : Int32) = nI 0 from rfl, c_row hC hL hw hP hA hp ha (by omega) (by omega), bn_s, nI_1, nI_1]
      rw [ct_s, fi_s, la_s] at ih
      by_cases g2 : rn V (P p) a 0 t = (P p).length
      · have hg : dt V (P p) a t = true := decide_eq_true g2
        rw [if_pos hg, if_pos hg] at ih
        rw [if_pos (by rw [g2])]
        by_cases g3 : ct (dt V (P p) a) t = 0
        · rw [if_pos ⟨hg, g3⟩] at ih
          rw [if_pos ((fi_m1 _ t (by omega)).mpr g3)]
          exact ih
        · rw [if_neg (fun z => g3 z.2)] at ih
          rw [if_neg (fun z => g3 ((fi_m1 _ t (by omega)).mp z))]
          exact ih
      · have hg : ¬ dt V (P p) a t = true := fun z => g2 (of_decide_eq_true z)
        rw [if_neg hg, if_neg (fun z => hg z.1), if_neg hg] at ih
        rw [if_neg (fun z => g2 ((nI_eq (by omega) (by omega)).mp z))]
        exact ih
theorem m_datedL (hV : MV h V) (hM : MA h 0 P bt) (hw : wfV V) (hP : wfP V P) (hp : p < 4) (ha : a < V 0 4) (x3 : Int32) (K : Int32 → Int32 → Int32 → Option Int32) : ∀ d t n, t + d = 96 → d < n → fX8_dated_L46 K h (nI p) (nI a) x3 n (nI (ct (dt V (P p) a) t)) (fi (dt V (P p) a) t) (la (dt V (P p) a) t) (nI t) = K (nI (ct (dt V (P p) a) 96)) (fi (dt V (P p) a) 96) (la (dt V (P p) a) 96)
  | d, t, 0, _, hn => absurd hn (by omega)
  | 0, t, n + 1, ht, hn => by
    have : t = 96 := by omega
    subst this
    rw [fX8_dated_L46, if_pos (show 96 ≤ nI 96 from nI_le (a := 96) (by omega) (by omega))]
  | d + 1, t, n + 1, ht, hn => by
    have hl := (hP p).1
    have b := rn_b (a := a) (V := V) (L := P p) (f := 0) (t := t)
    have bc := ct_le (dt V (P p) a) t
    have ih := m_datedL hV hM hw hP hp ha x3 K d (t + 1) n (by omega) (by omega)
    rw [fX8_dated_L46, if_neg (show ¬ 96 ≤ nI t from nI_ge (b := 96) (by omega) (by omega)), show fX8_runFrom h (nI p) 0 (nI a) (nI t) = _ from m_row hV hM hw hP hp ha (f := 0) (by omega) (by omega), bn_s, if_pos (ck48 hp), m_count hM hp, nI_1, nI_1]
    rw [ct_s, fi_s, la_s] at ih
    by_cases g2 : rn V (P p) a 0 t = (P p).length
    · have hg : dt V (P p) a t = true := decide_eq_true g2
      rw [if_pos hg, if_pos hg] at ih
      rw [if_pos (by rw [g2])]
      by_cases g3 : ct (dt V (P p) a) t = 0
      · rw [if_pos ⟨hg, g3⟩] at ih
        rw [if_pos (by rw [g3]; rfl)]
        exact ih
      · rw [if_neg (fun z => g3 z.2)] at ih
        rw [if_neg (nI_ne0 (by omega) (by omega))]
        exact ih
    · have hg : ¬ dt V (P p) a t = true := fun z => g2 (of_decide_eq_true z)
      rw [if_neg hg, if_neg (fun z => hg z.1), if_neg hg] at ih
      rw [if_neg (fun z => g2 ((nI_eq (by omega) (by omega)).mp z))]
      exact ih
theorem op_dated (R : RD h v V P bt sd) (x y z : Int32) : ∃ r, fX7_dated h x y z = some r ∧ fX8_dated h x y z = some r := by
  obtain ⟨hv, hC, hL, hA, hV, hM, hw, hP⟩ := R
  have w4 := hw.1.2.2.2.2.1
  have w5 := hw.1.2.2.2.2.2.1
  unfold fX7_dated fX8_dated
  rw [hv, bn_s, c_hasPaper hC hw, bn_s, m_isPaper hV hw, bn_s, c_hasHand hC hw, bn_s, m_isHand hV hw, bn_s, in_0 2 2 (by omega) rfl, bn_s, ck_le 2 2 (by omega) rfl]
  cases hx : ck x (V 0 5) with
  | false => exact ⟨_, rfl, rfl⟩
  | true =>
    cases hy : ck y (V 0 4) with
    | false => exact ⟨_, rfl, rfl⟩
    | true =>
      obtain ⟨p, hp, rfl⟩ := ck_of (by omega) hx
      obtain ⟨a, ha, rfl⟩ := ck_of (by omega) hy
      simp only [bi_it]
      cases hz : ck z (2 + 1) with
      | false => exact ⟨_, rfl, rfl⟩
      | true =>
        rw [if_pos rfl, bi_it, c_count hA (by omega), bn_s]
        have e1 := c_datedL hv hC hL hw hP hA (p := p) (by omega) ha z (fun z19 z20 z21 => if z = 0 then some z19 else if z = 1 then some z20 else some z21) 96 0 1000 (by omega) (by omega)
        have e2 := m_datedL hV hM hw hP (p := p) (by omega) ha z (fun z19 z20 z21 => if z = 0 then some z19 else if z = 1 then some z20 else some z21) 96 0 1000 (by omega) (by omega)
        have e3 : nI (ct (dt V (P p) a) 0) = 0 := rfl
        have e4 : fi (dt V (P p) a) 0 = -1 := rfl
        have e5 : la (dt V (P p) a) 0 = -1 := rfl
        have e6 : nI 0 = 0 := rfl
        rw [e3, e4, e5, e6] at e1 e2
        rw [e1, e2]
        by_cases g0 : z = 0
        · simp only [if_pos g0]; exact ⟨_, rfl, rfl⟩
        · simp only [if_neg g0]
          by_cases g1 : z = 1
          · simp only [if_pos g1]; exact ⟨_, rfl, rfl⟩
          · simp only [if_neg g1]; exact ⟨_, rfl, rfl⟩
theorem or_shl0 (x s : Int32) : x ||| ((0 : Int32) <<< s) = x := by
  apply Int32.toBitVec_inj.1
  simp
theorem cm_who (hv : vl (h 0 9) = some v) (hC : CV h v V) (hL : CL h v V) (hV : MV h V) (hM : MA h 0 P bt) (hw : wfV V) (hP : wfP V P) {l : Nat} {x : Lt} (hx : (P p)[l]? = some x) : ∀ d a n m acc, a + d = V 0 4 → d < n → d < m → ∃ r, fX7_who_L46 (fun z => some z) h (nI (loS V x)) n acc (nI a) = some r ∧ fX8_who_L17 (fun z => some z) h (nI p) (nI l) m acc (nI a) = some r
  | d, a, 0, m, acc, _, hn, _ => absurd hn (by omega)
  | d, a, n, 0, acc, _, _, hm => absurd hm (by omega)
  | 0, a, n + 1, m + 1, acc, ha, hn, hm => by
    rw [fX7_who_L46, fX8_who_L17, hv, bn_s, hC.1.2.2.2.2.2.1, hV.1.2.2.2.2.2.1, if_pos (nI_le (by omega) (by have := hw.1.2.2.2.2.1; omega)), if_pos (nI_le (by omega) (by have := hw.1.2.2.2.2.1; omega))]
    exact ⟨_, rfl, rfl⟩
  | d + 1, a, n + 1, m + 1, acc, ha, hn, hm => by
    have w4 := hw.1.2.2.2.2.1
    have bl := loS_le (V := V) (x := x)
    have haV : a < V 0 4 := by omega
    have e1 := c_first hC hL hw haV (k := loS V x) (by omega) (t := 0) (by omega)
    have e2 := m_hours hV hw haV (k := loS V x) (by omega) (-1)
    unfold hrs at e2
    rw [if_pos rfl] at e2
    have bct := ct_le (mk V a (loS V x)) 96
    have key : sr (mk V a (loS V x)) 96 0 = -1 ↔ ct (mk V a (loS V x)) 96 = 0 := by
      rw [sr_m1 _ 96 0 (by omega), ct_0]
      simp only [Nat.zero_add]
    rw [fX7_who_L46, fX8_who_L17, hv, bn_s, hC.1.2.2.2.2.2.1, hV.1.2.2.2.2.2.1, if_neg (nI_ge haV (by omega)), if_neg (nI_ge haV (by omega)), show (0 : Int32) = nI 0 from rfl, e1, bn_s, m_lookOf hV hM hw hP hx, bn_s, e2, bn_s]
    by_cases g : ct (mk V a (loS V x)) 96 = 0
    · have ih := cm_who hv hC hL hV hM hw hP hx d (a + 1) n m acc (by omega) (by omega) (by omega)
      rw [if_pos (key.mpr g), g, if_pos (nI_le (by omega) (by omega)), show fX8_one (nI 0) = some 0 from rfl, bn_s, or_shl0, nI_1]
      exact ih
    · have ih := cm_who hv hC hL hV hM hw hP hx d (a + 1) n m (acc ||| (1 <<< (nI a &&& 31))) (by omega) (by omega) (by omega)
      rw [if_neg (fun z => g (key.mp z)), if_neg (show ¬ nI _ ≤ nI 0 from nI_ge (by omega) (by omega)), one_t, bn_s, nI_1]
      exact ih
theorem op_who (R : RD h v V P bt sd) (x y : Int32) : ∃ r, fX7_who h x y = some r ∧ fX8_who h x y = some r := by
  obtain ⟨hv, hC, hL, hA, hV, hM, hw, hP⟩ := R
  have w4 := hw.1.2.2.2.2.1
  have w5 := hw.1.2.2.2.2.2.1
  unfold fX7_who fX8_who
  rw [hv, bn_s, c_hasPaper hC hw, bn_s, m_isLetter hV hM hw hP, bn_s]
  cases hx : ck x (V 0 5) with
  | false => exact ⟨_, rfl, rfl⟩
  | true =>
    obtain ⟨p, hp, rfl⟩ := ck_of (by omega) hx
    have hl := (hP p).1
    rw [bi_it, c_hasLetter hA (by omega) hl, bn_s, tn_nI (by omega), Bool.true_and]
    cases hy : ck y (P p).length with
    | false => exact ⟨_, rfl, rfl⟩
    | true =>
      obtain ⟨l, hl2, rfl⟩ := ck_of (by omega) hy
      have hx := List.getElem?_eq_getElem hl2
      rw [bi_it, bi_it, c_lookOf hC hL hw hP hA hx, bn_s]
      exact cm_who hv hC hL hV hM hw hP hx (V 0 4) 0 1000 1000 0 (by omega) (by omega) (by omega)
theorem c_asBy (hC : CV h v V) (hL : CL h v V) (hw : wfV V) (hP : wfP V P) (hA : CA h 3 P bt sd) {l : Nat} {x : Lt} (hx : (P p)[l]? = some x) (ha : a < V 0 4) : fX0_looksAsBy h 3 v (nI p) (nI l) (nI a) = some (decide (loS V x = lk V a x.1)) := by
  obtain ⟨⟨b1, b2, b3⟩, b4, b5⟩ := wfP_at hP hx
  obtain ⟨hp, -⟩ := wfP_lt hw hP hx
  have c1 := loS_le (V := V) (x := x)
  have c2 := lk_le (V := V) (a := a) (t := x.1)
  unfold fX0_looksAsBy
  rw [c_lookOf hC hL hw hP hA hx, bn_s, c_hour hA hp (hP p).1 hx, bn_s, c_look hC hL hw ha b1, bn_s]
  by_cases g : loS V x = lk V a x.1
  · rw [if_pos (by rw [g]), decide_eq_true g]
  · rw [if_neg (fun z => g ((nI_eq (by omega) (by omega)).mp z)), decide_eq_false g]
theorem cm_forged (hv : vl (h 0 9) = some v) (hC : CV h v V) (hL : CL h v V) (hA : CA h 3 P bt sd) (hV : MV h V) (hM : MA h 0 P bt) (hw : wfV V) (hP : wfP V P) (hp : p < 4) (y : Int32) : ∀ d l n m a1 a2, l + d = (P p).length → d < n → d < m → ∃ r, fX7_forged_L44 (fun z19 z20 => if y = 0 then some z19 else some z20) h (nI p) y (nI (P p).length) n a1 a2 (nI l) = some r ∧ fX8_forged_L32 (fun z19 z20 => if y = 0 then some z19 else some z20) h (nI p) y m a1 a2 (nI l) = some r
  | d, l, 0, m, a1, a2, _, hn, _ => absurd hn (by omega)
  | d, l, n, 0, a1, a2, _, _, hm => absurd hm (by omega)
  | 0, l, n + 1, m + 1, a1, a2, hl, hn, hm => by
    have h12 := (hP p).1
    rw [fX7_forged_L44, fX8_forged_L32, if_pos (ck48 hp), m_count hM hp, if_pos (nI_le (by omega) (by omega)), if_pos (nI_le (by omega) (by omega))]
    by_cases g : y = 0
    · simp only [if_pos g]; exact ⟨_, rfl, rfl⟩
    · simp only [if_neg g]; exact ⟨_, rfl, rfl⟩
  | d + 1, l, n + 1, m + 1, a1, a2, hl, hn, hm => by
    have h12 := (hP p).1
    have hx := getD_at (L := P p) (show l < (P p).length by omega)
    generalize (P p).getD l (0, 0, 0) = x at hx
    obtain ⟨⟨b1, b2, b3⟩, b4, b5⟩ := wfP_at hP hx
    have c1 := loS_le (V := V) (x := x)
    have c2 := lk_le (V := V) (a := x.2.1) (t := x.1)
    rw [fX7_forged_L44, fX8_forged_L32, if_pos (ck48 hp), m_count hM hp, if_neg (nI_ge (by omega) (by omega)), if_neg (nI_ge (by omega) (by omega)), c_forged hA hp h12 hx b3, bn_s, m_air hM hw hP hx, bn_s]
    by_cases g : x.2.2 = 0
    · have ih := cm_forged hv hC hL hA hV hM hw hP hp y d (l + 1) n m a1 a2 (by omega) (by omega) (by omega)
      rw [decide_eq_false (by simpa using g), bi_if, if_pos ((mI_neg (by omega)).mpr g), nI_1]
      exact ih
    · rw [decide_eq_true g, bi_it, if_neg (fun z => g ((mI_neg (by omega)).mp z)), hv, bn_s, c_writer hA hp h12 hx, bn_s, c_asBy hC hL hw hP hA hx b2, bn_s, m_lookOf hV hM hw hP hx, bn_s, m_hand hM hw hP hx, bn_s, m_hour hM hw hP hx, bn_s, m_look hV hw b2 b1, bn_s, one_t, one_f]
      by_cases g2 : loS V x = lk V x.2.1 x.1
      · have ih := cm_forged hv hC hL hA hV hM hw hP hp y d (l + 1) n m (a1 + 1) a2 (by omega) (by omega) (by omega)
        rw [decide_eq_true g2, bi_it, if_pos (by rw [g2]), bn_s, bn_s, or_shl0, nI_1]
        exact ih
      · have ih := cm_forged hv hC hL hA hV hM hw hP hp y d (l + 1) n m a1 (a2 ||| (1 <<< (nI l &&& 31))) (by omega) (by omega) (by omega)
        rw [decide_eq_false g2, bi_if, if_neg (fun z => g2 ((nI_eq (by omega) (by omega)).mp z)), bn_s, bn_s, nI_1, show a1 + 0 = a1 from Int32.add_zero a1]
        exact ih
theorem op_forged (R : RD h v V P bt sd) (x y : Int32) : ∃ r, fX7_forged h x y = some r ∧ fX8_forged h x y = some r := by
  obtain ⟨hv, hC, hL, hA, hV, hM, hw, hP⟩ := R
  have w5 := hw.1.2.2.2.2.2.1
  unfold fX7_forged fX8_forged
  rw [hv, bn_s, c_hasPaper hC hw, bn_s, m_isPaper hV hw, bn_s, in_0 1 1 (by omega) rfl, bn_s, ck_le 1 1 (by omega) rfl]
  cases hx : ck x (V 0 5) with
  | false => exact ⟨_, rfl, rfl⟩
  | true =>
    cases hy : ck y (1 + 1) with
    | false => exact ⟨_, rfl, rfl⟩
    | true =>
      obtain ⟨p, hp, rfl⟩ := ck_of (by omega) hx
      have h12 := (hP p).1
      simp only [bi_it, if_true]
      rw [c_count hA (by omega), bn_s]
      exact cm_forged hv hC hL hA hV hM hw hP (by omega) y (P p).length 0 1000 1000 0 0 (by omega) (by omega) (by omega)
end Ops2
