/-! reading calls, third lot: rain, letter, judge, told -/
section Rain
variable {h : aH} {v : Nat} {V : Vd} {P : Ps} {bt sd p a : Nat}
def okx (V : Vd) (d r : Nat) (x : Lt) : Bool := !decide (x.1 / 12 = d ∧ x.2.2 = 0) || decide (loS V x = lkR V x.2.1 x.1 r)
def alS (f : Lt → Bool) (L : List Lt) : Nat → Nat → Bool
  | 0, _ => true
  | d + 1, l => f (L.getD l (0, 0, 0)) && alS f L d (l + 1)
def alP (f : Lt → Bool) (P : Ps) : Nat → Nat → Bool
  | 0, _ => true
  | d + 1, p => alS f (P p) (P p).length 0 && alP f P d (p + 1)
theorem c_fitL (hC : CV h v V) (hL : CL h v V) (hA : CA h 3 P bt sd) (hw : wfV V) (hP : wfP V P) (hp : p < 4) {dy r : Nat} (hd8 : dy < 8) (hr : r ≤ 9) (K : Unit → Option Bool) : ∀ d l n, l + d = (P p).length → d < n → fX0_fitsRain_L20 K h 3 v (nI dy) (nI r) (nI p) (nI (P p).length) n (nI l) = if alS (okx V dy r) (P p) d l = true then K () else some false
  | d, l, 0, _, hn => absurd hn (by omega)
  | 0, l, n + 1, hl, hn => by
    have h12 := (hP p).1
    rw [fX0_fitsRain_L20, if_pos (nI_le (by omega) (by omega))]
    rfl
  | d + 1, l, n + 1, hl, hn => by
    have h12 := (hP p).1
    have hx := getD_at (L := P p) (show l < (P p).length by omega)
    have ih := c_fitL hC hL hA hw hP hp hd8 hr K d (l + 1) n (by omega) (by omega)
    show _ = if (okx V dy r ((P p).getD l (0, 0, 0)) && alS (okx V dy r) (P p) d (l + 1)) = true then K () else some false
    generalize (P p).getD l (0, 0, 0) = x at hx
    obtain ⟨⟨b1, b2, b3⟩, b4, b5⟩ := wfP_at hP hx
    have c1 := loS_le (V := V) (x := x)
    have c2 := lkR_le (V := V) (a := x.2.1) (t := x.1) (r := r)
    rw [fX0_fitsRain_L20, if_neg (nI_ge (by omega) (by omega)), c_hour hA hp h12 hx, bn_s, show nI x.1 / 12 = nI (x.1 / 12) from pk_div (d := 12) (by omega) (by omega) (by omega), nI_1]
    by_cases g1 : x.1 / 12 = dy
    · rw [if_pos (by rw [g1]), c_forged hA hp h12 hx b3, bn_s]
      by_cases g2 : x.2.2 = 0
      · rw [decide_eq_false (by simpa using g2), bi_if, c_lookOf hC hL hw hP hA hx, bn_s, c_writer hA hp h12 hx, bn_s, c_lookR hC hw b2 b1 hr, bn_s]
        by_cases g3 : loS V x = lkR V x.2.1 x.1 r
        · have e : okx V dy r x = true := by unfold okx; rw [decide_eq_true g3]; exact Bool.or_true _
          rw [if_pos (by rw [g3]), e, Bool.true_and]
          exact ih
        · have e : okx V dy r x = false := by unfold okx; rw [decide_eq_false g3, decide_eq_true ⟨g1, g2⟩]; rfl
          rw [if_neg (fun z => g3 ((nI_eq (by omega) (by omega)).mp z)), e, Bool.false_and]
          rfl
      · have e : okx V dy r x = true := by unfold okx; rw [decide_eq_false (fun z => g2 z.2)]; rfl
        rw [decide_eq_true g2, bi_it, e, Bool.true_and]
        exact ih
    · have e : okx V dy r x = true := by unfold okx; rw [decide_eq_false (fun z => g1 z.1)]; rfl
      rw [if_neg (fun z => g1 ((nI_eq (by omega) (by omega)).mp z)), e, Bool.true_and]
      exact ih
theorem c_fitP (hC : CV h v V) (hL : CL h v V) (hA : CA h 3 P bt sd) (hw : wfV V) (hP : wfP V P) {dy r : Nat} (hd8 : dy < 8) (hr : r ≤ 9) : ∀ d p n, p + d = 4 → d < n → fX0_fitsRain_L3 (fun _ => some true) h 3 v (nI dy) (nI r) n (nI p) = some (alP (okx V dy r) P d p)
  | d, p, 0, _, hn => absurd hn (by omega)
  | 0, p, n + 1, hp, hn => by
    rw [fX0_fitsRain_L3, if_pos (show 4 ≤ nI p from nI_le (a := 4) (by omega) (by omega))]
    rfl
  | d + 1, p, n + 1, hp, hn => by
    have h12 := (hP p).1
    have ih := c_fitP hC hL hA hw hP hd8 hr d (p + 1) n (by omega) (by omega)
    rw [fX0_fitsRain_L3, if_neg (show ¬ 4 ≤ nI p from nI_ge (b := 4) (by omega) (by omega)), c_count hA (by omega), bn_s, show (0 : Int32) = nI 0 from rfl, c_fitL hC hL hA hw hP (by omega) hd8 hr _ (P p).length 0 1000 (by omega) (by omega), nI_1, ih]
    show _ = some (alS (okx V dy r) (P p) (P p).length 0 && alP (okx V dy r) P d (p + 1))
    cases alS (okx V dy r) (P p) (P p).length 0 <;> rfl
theorem m_fitL (hV : MV h V) (hM : MA h 0 P bt) (hw : wfV V) (hP : wfP V P) (hp : p < 4) {dy r : Nat} (hd8 : dy < 8) (hr : r ≤ 9) (K : Int32 → Option Bool) : ∀ d l n, l + d = (P p).length → d < n → fX8_rained_L17 K h (nI dy) (nI r) (nI p) n 1 (nI l) = if alS (okx V dy r) (P p) d l = true then K 1 else K 0
  | d, l, 0, _, hn => absurd hn (by omega)
  | 0, l, n + 1, hl, hn => by
    have h12 := (hP p).1
    rw [fX8_rained_L17, if_pos (ck48 hp), m_count hM hp, if_pos (nI_le (by omega) (by omega))]
    rfl
  | d + 1, l, n + 1, hl, hn => by
    have h12 := (hP p).1
    have hx := getD_at (L := P p) (show l < (P p).length by omega)
    have ih := m_fitL hV hM hw hP hp hd8 hr K d (l + 1) n (by omega) (by omega)
    show _ = if (okx V dy r ((P p).getD l (0, 0, 0)) && alS (okx V dy r) (P p) d (l + 1)) = true then K 1 else K 0
    generalize (P p).getD l (0, 0, 0) = x at hx
    obtain ⟨⟨b1, b2, b3⟩, b4, b5⟩ := wfP_at hP hx
    have c1 := loS_le (V := V) (x := x)
    have c2 := lkR_le (V := V) (a := x.2.1) (t := x.1) (r := r)
    rw [fX8_rained_L17, if_pos (ck48 hp), m_count hM hp, if_neg (nI_ge (by omega) (by omega)), if_neg (by decide), m_hour hM hw hP hx, bn_s, show nI x.1 / 12 = nI (x.1 / 12) from pk_div (d := 12) (by omega) (by omega) (by omega), nI_1]
    by_cases g1 : x.1 / 12 = dy
    · rw [if_pos (by rw [g1]), m_air hM hw hP hx, bn_s]
      by_cases g2 : x.2.2 = 0
      · rw [if_neg (fun z => (mI_nn (by omega)).mp z g2), m_hand hM hw hP hx, bn_s, bn_s, m_lookR hV hw b2 b1 hr, bn_s, m_lookOf hV hM hw hP hx, bn_s]
        by_cases g3 : loS V x = lkR V x.2.1 x.1 r
        · have e : okx V dy r x = true := by unfold okx; rw [decide_eq_true g3]; exact Bool.or_true _
          rw [if_pos (by rw [g3]), e, Bool.true_and]
          exact ih
        · have e : okx V dy r x = false := by unfold okx; rw [decide_eq_false g3, decide_eq_true ⟨g1, g2⟩]; rfl
          rw [if_neg (fun z => g3 ((nI_eq (by omega) (by omega)).mp z.symm)), e, Bool.false_and, if_neg (by decide)]
          cases n with
          | zero => omega
          | succ n =>
            rw [fX8_rained_L17, if_pos (ck48 hp), m_count hM hp, if_pos rfl]
            by_cases g4 : (P p).length ≤ l + 1
            · rw [if_pos (nI_le g4 (by omega))]
            · rw [if_neg (nI_ge (by omega) (by omega))]
      · have e : okx V dy r x = true := by unfold okx; rw [decide_eq_false (fun z => g2 z.2)]; rfl
        rw [if_pos ((mI_nn (by omega)).mpr g2), e, Bool.true_and]
        exact ih
    · have e : okx V dy r x = true := by unfold okx; rw [decide_eq_false (fun z => g1 z.1)]; rfl
      rw [if_neg (fun z => g1 ((nI_eq (by omega) (by omega)).mp z)), e, Bool.true_and]
      exact ih
theorem m_fit0 (hV : MV h V) (hM : MA h 0 P bt) (hw : wfV V) (hP : wfP V P) {x1 x2 : Int32} : ∀ d p n, p + d = V 0 5 → d < n → fX8_rained_L5 (fun z => ib z) h x1 x2 n 0 (nI p) = some false
  | d, p, 0, _, hn => absurd hn (by omega)
  | 0, p, n + 1, hp, hn => by
    have w5 := hw.1.2.2.2.2.2.1
    rw [fX8_rained_L5, hV.1.2.2.2.2.2.2, if_pos (nI_le (by omega) (by omega))]
    rfl
  | d + 1, p, n + 1, hp, hn => by
    have w5 := hw.1.2.2.2.2.2.1
    have h12 := (hP p).1
    have ih := m_fit0 hV hM hw hP (x1 := x1) (x2 := x2) d (p + 1) n (by omega) (by omega)
    rw [fX8_rained_L5, hV.1.2.2.2.2.2.2, if_neg (nI_ge (by omega) (by omega)), fX8_rained_L17, if_pos (ck48 (by omega)), m_count hM (by omega), if_pos rfl, nI_1, ih]
    by_cases g : nI (P p).length ≤ 0
    · rw [if_pos g]
    · rw [if_neg g]
theorem m_fitP (hV : MV h V) (hM : MA h 0 P bt) (hw : wfV V) (hP : wfP V P) {dy r : Nat} (hd8 : dy < 8) (hr : r ≤ 9) : ∀ d p n, p + d = V 0 5 → d < n → fX8_rained_L5 (fun z => ib z) h (nI dy) (nI r) n 1 (nI p) = some (alP (okx V dy r) P d p)
  | d, p, 0, _, hn => absurd hn (by omega)
  | 0, p, n + 1, hp, hn => by
    have w5 := hw.1.2.2.2.2.2.1
    rw [fX8_rained_L5, hV.1.2.2.2.2.2.2, if_pos (nI_le (by omega) (by omega))]
    rfl
  | d + 1, p, n + 1, hp, hn => by
    have w5 := hw.1.2.2.2.2.2.1
    have h12 := (hP p).1
    have ih := m_fitP hV hM hw hP hd8 hr d (p + 1) n (by omega) (by omega)
    have i0 := m_fit0 hV hM hw hP (x1 := nI dy) (x2 := nI r) d (p + 1) n (by omega) (by omega)
    rw [fX8_rained_L5, hV.1.2.2.2.2.2.2, if_neg (nI_ge (by omega) (by omega)), show fX8_rained_L17 (fun z20 => fX8_rained_L5 (fun z => ib z) h (nI dy) (nI r) n z20 (nI p + 1)) h (nI dy) (nI r) (nI p) 1000 1 0 = _ from m_fitL hV hM hw hP (by omega) hd8 hr _ (P p).length 0 1000 (by omega) (by omega), nI_1, ih, i0]
    show _ = some (alS (okx V dy r) (P p) (P p).length 0 && alP (okx V dy r) P d (p + 1))
    cases alS (okx V dy r) (P p) (P p).length 0 <;> rfl
theorem alP_more {f : Lt → Bool} : ∀ d p e, (∀ q, p + d ≤ q → P q = []) → alP f P (d + e) p = alP f P d p
  | 0, p, 0, _ => rfl
  | 0, p, e + 1, hq => by
    rw [Nat.zero_add]
    show (alS f (P p) (P p).length 0 && alP f P e (p + 1)) = true
    have h1 := alP_more (f := f) 0 (p + 1) e (fun q hq' => hq q (by omega))
    rw [Nat.zero_add] at h1
    rw [h1, hq p (by omega)]
    rfl
  | d + 1, p, e, hq => by
    have h1 := alP_more (f := f) d (p + 1) e (fun q hq' => hq q (by omega))
    rw [show d + 1 + e = (d + e) + 1 by omega]
    show (alS f (P p) (P p).length 0 && alP f P (d + e) (p + 1)) = (alS f (P p) (P p).length 0 && alP f P d (p + 1))
    rw [h1]
theorem cm_rain (hv : vl (h 0 9) = some v) (hC : CV h v V) (hL : CL h v V) (hA : CA h 3 P bt sd) (hV : MV h V) (hM : MA h 0 P bt) (hw : wfV V) (hP : wfP V P) {dy : Nat} (hd8 : dy < 8) : ∀ d r n m acc, r + d = 10 → d < n → d < m → ∃ z, fX7_rain_L30 (fun z => some z) h (nI dy) n acc (nI r) = some z ∧ fX8_rain_L29 (fun z => some z) h (nI dy) m acc (nI r) = some z
  | d, r, 0, m, acc, _, hn, _ => absurd hn (by omega)
  | d, r, n, 0, acc, _, _, hm => absurd hm (by omega)
  | 0, r, n + 1, m + 1, acc, hr, hn, hm => by
    rw [fX7_rain_L30, fX8_rain_L29, if_pos (show 10 ≤ nI r from nI_le (a := 10) (by omega) (by omega)), if_pos (show 10 ≤ nI r from nI_le (a := 10) (by omega) (by omega))]
    exact ⟨_, rfl, rfl⟩
  | d + 1, r, n + 1, m + 1, acc, hr, hn, hm => by
    have w5 := hw.1.2.2.2.2.2.1
    have e1 : fX0_fitsRain h 3 v (nI dy) (nI r) = some (alP (okx V dy r) P 4 0) := c_fitP hC hL hA hw hP hd8 (by omega) 4 0 1000 (by omega) (by omega)
    have e2 : fX8_rained h (nI dy) (nI r) = some (alP (okx V dy r) P (V 0 5) 0) := m_fitP hV hM hw hP hd8 (by omega) (V 0 5) 0 1000 (by omega) (by omega)
    have e3 := alP_more (P := P) (f := okx V dy r) (V 0 5) 0 (4 - V 0 5) (fun q hq => (hP q).2.1 (by omega))
    rw [show V 0 5 + (4 - V 0 5) = 4 by omega] at e3
    rw [e3] at e1
    rw [fX7_rain_L30, fX8_rain_L29, if_neg (show ¬ 10 ≤ nI r from nI_ge (b := 10) (by omega) (by omega)), if_neg (show ¬ 10 ≤ nI r from nI_ge (b := 10) (by omega) (by omega)), hv, bn_s, e1, bn_s, e2, bn_s, one_b, bn_s, nI_1]
    cases alP (okx V dy r) P (V 0 5) 0 with
    | false =>
      rw [bi_if, bi_f, or_shl0]
      exact cm_rain hv hC hL hA hV hM hw hP hd8 d (r + 1) n m _ (by omega) (by omega) (by omega)
    | true =>
      rw [bi_it, bi_t]
      exact cm_rain hv hC hL hA hV hM hw hP hd8 d (r + 1) n m _ (by omega) (by omega) (by omega)
theorem op_rain (R : RD h v V P bt sd) (x : Int32) : ∃ r, fX7_rain h x = some r ∧ fX8_rain h x = some r := by
  obtain ⟨hv, hC, hL, hA, hV, hM, hw, hP⟩ := R
  unfold fX7_rain fX8_rain
  rw [in_0 7 7 (by omega) rfl, bn_s, ck_ltb 8 8 (by omega) rfl, hv, bn_s, hC.1.1, hV.1.1]
  cases hx : ck x 8 with
  | false => exact ⟨_, rfl, rfl⟩
  | true =>
    obtain ⟨dy, hd, rfl⟩ := ck_of (by omega) hx
    rw [if_pos rfl, bi_it]
    by_cases g : nI (V 0 6) = 0
    · rw [if_pos g, if_pos g]; exact ⟨_, rfl, rfl⟩
    · rw [if_neg g, if_neg g]
      exact cm_rain hv hC hL hA hV hM hw hP hd 10 0 1000 1000 0 (by omega) (by omega) (by omega)
/-! judge -/
abbrev Bk : Type := List (Nat × Nat × Nat)
def wfB (V : Vd) (bk : Bk) : Prop := bk.length ≤ 20 ∧ ∀ x ∈ bk, x.1 < V 0 5 ∧ x.2.1 < 12 ∧ x.2.2 < 10000
def CB (h : aH) (bk : Bk) : Prop := h 24 3 = nI bk.length ∧ ∀ k x, bk[k]? = some x → h 25 k = nI x.1 ∧ h 26 k = nI x.2.1 ∧ h 27 k = nI x.2.2
def MB (h : aH) (bk : Bk) : Prop := h 54 32 = nI bk.length ∧ ∀ k x, bk[k]? = some x → h 70 k = nI x.1 ∧ h 71 k = nI x.2.1 ∧ h 72 k = nI x.2.2
theorem cm_judge (hC : CV h v V) (hL : CL h v V) (hA : CA h 3 P bt sd) (hV : MV h V) (hM : MA h 0 P bt) (hw : wfV V) (hP : wfP V P) {bk : Bk} (hb : wfB V bk) (hcb : CB h bk) (hmb : MB h bk) : ∀ d k n m, k + d = bk.length → d < n → d < m → ∃ z, fX2_firstWrong_L2 (fun _ => some (-1)) h v 3 n (nI k) = some z ∧ fX8_judge_L2 (fun _ => some (-1)) h m (nI k) = some z
  | d, k, 0, m, _, hn, _ => absurd hn (by omega)
  | d, k, n, 0, _, _, hm => absurd hm (by omega)
  | 0, k, n + 1, m + 1, hk, hn, hm => by
    have := hb.1
    rw [fX2_firstWrong_L2, fX8_judge_L2, hcb.1, hmb.1, if_pos (nI_le (by omega) (by omega)), if_pos (nI_le (by omega) (by omega))]
    exact ⟨_, rfl, rfl⟩
  | d + 1, k, n + 1, m + 1, hk, hn, hm => by
    have b20 := hb.1
    have w5 := hw.1.2.2.2.2.2.1
    have hx : bk[k]? = some bk[k] := List.getElem?_eq_getElem (by omega)
    generalize bk[k]'(by omega) = x at hx
    obtain ⟨q1, q2, q3⟩ := hb.2 x (List.mem_of_getElem? hx)
    obtain ⟨c1, c2, c3⟩ := hcb.2 k x hx
    obtain ⟨m1, m2, m3⟩ := hmb.2 k x hx
    have h12 := (hP x.1).1
    have ih := cm_judge hC hL hA hV hM hw hP hb hcb hmb d (k + 1) n m (by omega) (by omega) (by omega)
    rw [fX2_firstWrong_L2, fX8_judge_L2, hcb.1, hmb.1, if_neg (nI_ge (by omega) (by omega)), if_neg (nI_ge (by omega) (by omega)), if_neg (show ¬ 20 ≤ nI k from nI_ge (b := 20) (by omega) (by omega)), ck_t (n := 20) (by omega) (by omega), if_pos rfl, if_pos rfl, tn_nI (by omega), c1, c2, c3, m1, m2, m3, c_hasLetter hA (by omega) h12, bn_s, m_isLetter hV hM hw hP, bn_s, ck_t q1 (by omega), Bool.true_and, tn_nI (by omega), nI_1]
    cases hy : ck (nI x.2.1) (P x.1).length with
    | false => exact ⟨_, rfl, rfl⟩
    | true =>
      have hl : x.2.1 < (P x.1).length := by
        rw [ck_nI (by omega)] at hy
        exact of_decide_eq_true hy
      have hxl := List.getElem?_eq_getElem hl
      rw [bi_it, bi_it, c_lookOf hC hL hw hP hA hxl, m_lookOf hV hM hw hP hxl, bn_s, bn_s]
      by_cases g : nI (loS V (P x.1)[x.2.1]) = nI x.2.2
      · rw [if_pos g, if_pos g]; exact ih
      · rw [if_neg g, if_neg g]; exact ⟨_, rfl, rfl⟩
theorem op_judge (R : RD h v V P bt sd) {bk : Bk} (hb : wfB V bk) (hcb : CB h bk) (hmb : MB h bk) : ∃ r, fX7_judge h = some r ∧ fX8_judge h = some r := by
  obtain ⟨hv, hC, hL, hA, hV, hM, hw, hP⟩ := R
  have b20 := hb.1
  obtain ⟨z, e1, e2⟩ := cm_judge hC hL hA hV hM hw hP hb hcb hmb bk.length 0 1000 1000 (by omega) (by omega) (by omega)
  refine ⟨z, ?_, e2⟩
  unfold fX7_judge
  rw [hv, bn_s, show fX2_firstWrong h v 3 = some z from e1]
  rfl
/-! told -/
def sm (P : Ps) : Nat → Nat
  | 0 => 0
  | p + 1 => sm P p + (P p).length
theorem sm_le {V : Vd} {P : Ps} (hP : wfP V P) : ∀ p, sm P p ≤ 12 * p
  | 0 => Nat.le_refl 0
  | p + 1 => by
    have := sm_le hP p
    have h12 := (hP p).1
    show sm P p + (P p).length ≤ _
    omega
theorem sm_more {V : Vd} {P : Ps} (hP : wfP V P) : ∀ d, sm P (V 0 5 + d) = sm P (V 0 5)
  | 0 => rfl
  | d + 1 => by
    show sm P (V 0 5 + d) + (P (V 0 5 + d)).length = _
    rw [sm_more hP d, (hP (V 0 5 + d)).2.1 (by omega)]
    rfl
theorem c_allL (hA : CA h 3 P bt sd) (hP : wfP V P) (K : Int32 → Option Int32) : ∀ d p n, p + d = 4 → d < n → fX0_countAll_L4 K h 3 n (nI (sm P p)) (nI p) = K (nI (sm P 4))
  | d, p, 0, _, hn => absurd hn (by omega)
  | 0, p, n + 1, hp, hn => by
    have : p = 4 := by omega
    subst this
    rw [fX0_countAll_L4, if_pos (show 4 ≤ nI 4 from nI_le (a := 4) (by omega) (by omega))]
  | d + 1, p, n + 1, hp, hn => by
    rw [fX0_countAll_L4, if_neg (show ¬ 4 ≤ nI p from nI_ge (b := 4) (by omega) (by omega)), if_pos (ck_t (by omega) (by omega)), tn_nI (by omega), hA.1 p (by omega), nI_add, nI_1]
    exact c_allL hA hP K d (p + 1) n (by omega) (by omega)
theorem c_all (hA : CA h 3 P bt sd) (hP : wfP V P) : fX0_countAll h 3 = some (nI (sm P 4)) := c_allL hA hP (fun z => some z) 4 0 1000 (by omega) (by omega)
theorem m_allL (hV : MV h V) (hM : MA h 0 P bt) (hw : wfV V) (K : Int32 → Option Int32) : ∀ d p n, p + d = V 0 5 → d < n → fX8_allLetters_L4 K h n (nI (sm P p)) (nI p) = K (nI (sm P (V 0 5)))
  | d, p, 0, _, hn => absurd hn (by omega)
  | 0, p, n + 1, hp, hn => by
    have w5 := hw.1.2.2.2.2.2.1
    have : p = V 0 5 := by omega
    rw [fX8_allLetters_L4, hV.1.2.2.2.2.2.2, if_pos (nI_le (by omega) (by omega)), this]
  | d + 1, p, n + 1, hp, hn => by
    have w5 := hw.1.2.2.2.2.2.1
    rw [fX8_allLetters_L4, hV.1.2.2.2.2.2.2, if_neg (nI_ge (by omega) (by omega)), if_pos (ck48 (by omega)), m_count hM (by omega), nI_add, nI_1]
    exact m_allL hV hM hw K d (p + 1) n (by omega) (by omega)
theorem m_all (hV : MV h V) (hM : MA h 0 P bt) (hw : wfV V) (hP : wfP V P) : fX8_allLetters h = some (nI (sm P 4)) := by
  have w5 := hw.1.2.2.2.2.2.1
  have e := sm_more hP (4 - V 0 5)
  rw [show V 0 5 + (4 - V 0 5) = 4 by omega] at e
  rw [e]
  exact m_allL hV hM hw (fun z => some z) (V 0 5) 0 1000 (by omega) (by omega)
theorem op_told (R : RD h v V P bt sd) {bk : Bk} (hcb : CB h bk) (hmb : MB h bk) (ht : h 1 1 = h 54 19) (hu : h 18 6 = h 54 25) (x : Int32) : ∃ r, fX7_told h x = some r ∧ fX8_told h x = some r := by
  obtain ⟨hv, hC, hL, hA, hV, hM, hw, hP⟩ := R
  have w6 := hw.1.2.2.2.2.2.2
  have e1 : fX8_one (h 54 2) = some (if h v 0 = 0 then 0 else 1) := by
    rw [hV.1.1, hC.1.1]
    unfold fX8_one
    by_cases g : nI (V 0 6) = 0
    · rw [if_pos g, if_pos g]
    · rw [if_neg g, if_neg g]
  have e52 : h 55 52 = h 3 4 := by
    have := hM.2.2
    rw [Nat.zero_add] at this
    rw [this, hA.2.2.1]
  unfold fX7_told fX8_told
  rw [hv, e1, c_all hA hP, m_all hV hM hw hP]
  simp only [bn_s]
  rw [← ht, ← hu, e52, hcb.1, hmb.1, hC.1.2.1, hC.1.2.2.1, hC.1.2.2.2.1, hC.1.2.2.2.2.2.1, hC.1.2.2.2.2.2.2, hV.1.2.1, hV.1.2.2.1, hV.1.2.2.2.1, hV.1.2.2.2.2.2.1, hV.1.2.2.2.2.2.2]
  by_cases g0 : x = 0
  · simp only [if_pos g0]
    by_cases g : h v 0 = 0
    · simp only [if_pos g]; exact ⟨_, rfl, rfl⟩
    · simp only [if_neg g]; exact ⟨_, rfl, rfl⟩
  · simp only [if_neg g0]
    exact ⟨_, rfl.trans (by
      show _ = some (if x = 1 then nI (V 0 0) else if x = 2 then nI (V 0 1) else if x = 3 then nI (V 0 2) else if x = 4 then nI (V 0 4) else if x = 5 then nI (V 0 5) else if x = 6 then h 1 1 else if x = 7 then h 3 4 else if x = 8 then nI (sm P 4) else if x = 9 then nI bk.length else if x = 10 then h 18 6 else -1000000002)
      repeat' split
      all_goals rfl), by
      repeat' split
      all_goals rfl⟩
end Rain
