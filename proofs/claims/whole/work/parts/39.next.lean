/-! which letter to measure next -/
def fl1 (V : Vd) (L : List Lt) (m a t : Nat) : Nat → Bool
  | 0 => true
  | l + 1 => fl1 V L m a t l && (!(decide (m / 2 ^ l % 2 = 1)) || decide (loS V (L.getD l (0, 0, 0)) = lk V a (t + l)))
def fb (V : Vd) (L : List Lt) (m a t : Nat) : Bool := decide (t + L.length ≤ 96) && fl1 V L m a t L.length
theorem fl1_s (V : Vd) (L : List Lt) (m a t l : Nat) : fl1 V L m a t (l + 1) = (fl1 V L m a t l && (!(decide (m / 2 ^ l % 2 = 1)) || decide (loS V (L.getD l (0, 0, 0)) = lk V a (t + l)))) := rfl
theorem fl1_f {V : Vd} {L : List Lt} {m a t j : Nat} (h : fl1 V L m a t j = false) : ∀ d, fl1 V L m a t (j + d) = false
  | 0 => h
  | d + 1 => by
    rw [show j + (d + 1) = (j + d) + 1 from rfl, fl1_s, fl1_f h d]; rfl
section Fits2
variable {h : aH} {v : Nat} {V : Vd} {P : Ps} {bt sd p a m t : Nat} {ms : Nat → Nat}
theorem c_fitsL (hC : CV h v V) (hL : CL h v V) (hw : wfV V) (hP : wfP V P) (hA : CA h 3 P bt sd) (ha : a < V 0 4) (hm : m < 4096) (ht : t + (P p).length ≤ 96) : ∀ d l n, l + d = (P p).length → d < n → fl1 V (P p) m a t l = true → fX1_fits_L10 (fun _ => some true) h v 3 (nI p) (nI m) (nI a) (nI t) (nI (P p).length) n (nI l) = some (fl1 V (P p) m a t (P p).length)
  | d, l, 0, _, hn, _ => absurd hn (by omega)
  | 0, l, n + 1, hl, hn, hf => by
    have h12 := (hP p).1
    have : l = (P p).length := by omega
    subst this
    rw [fX1_fits_L10, if_pos (nI_le (by omega) (by omega)), hf]
  | d + 1, l, n + 1, hl, hn, hf => by
    have h12 := (hP p).1
    have hx := getD_at (L := P p) (show l < (P p).length by omega)
    have c1 := loS_le (V := V) (x := (P p).getD l (0, 0, 0))
    have c2 := lk_le (V := V) (a := a) (t := t + l)
    have ih := c_fitsL hC hL hw hP hA ha hm ht d (l + 1) n (by omega) (by omega)
    have fs := fl1_s V (P p) m a t l
    rw [hf, Bool.true_and] at fs
    have hb : m / 2 ^ l % 2 < 2 := Nat.mod_lt _ (by omega)
    rw [fX1_fits_L10, if_neg (nI_ge (by omega) (by omega)), bitS (by omega) (by omega), nI_add, c_lookOf hC hL hw hP hA hx, bn_s, c_look hC hL hw ha (by omega), bn_s, nI_1]
    by_cases g : m / 2 ^ l % 2 = 1
    · rw [if_pos (by rw [g]; rfl)]
      rw [decide_eq_true g] at fs
      by_cases e : loS V ((P p).getD l (0, 0, 0)) = lk V a (t + l)
      · rw [if_pos ((nI_eq (by omega) (by omega)).mpr e)]
        exact ih (by rw [fs, decide_eq_true e]; rfl)
      · rw [if_neg (fun z => e ((nI_eq (by omega) (by omega)).mp z))]
        rw [decide_eq_false e] at fs
        have := fl1_f fs d
        rw [show l + 1 + d = (P p).length by omega] at this
        rw [this]
    · rw [if_neg (show ¬ nI (m / 2 ^ l % 2) = 1 from fun z => g ((nI_eq (b := 1) (by omega) (by omega)).mp z))]
      rw [decide_eq_false g] at fs
      exact ih fs
theorem c_fits (hC : CV h v V) (hL : CL h v V) (hw : wfV V) (hP : wfP V P) (hA : CA h 3 P bt sd) (hp : p < 4) (ha : a < V 0 4) (hm : m < 4096) (ht : t + (P p).length ≤ 96) : fX1_fits h v 3 (nI p) (nI m) (nI a) (nI t) = some (fb V (P p) m a t) := by
  have h12 := (hP p).1
  unfold fX1_fits fb
  rw [c_count hA hp, bn_s, decide_eq_true ht, Bool.true_and]
  exact c_fitsL hC hL hw hP hA ha hm ht (P p).length 0 1000 (by omega) (by omega) rfl
theorem m_couldL (hV : MV h V) (hw : wfV V) (hP : wfP V P) (hM : MA h 0 P bt) (hS : MsM h ms) (hms : wfM ms) (hp : p < 4) (ha : a < V 0 4) (ht : t + (P p).length ≤ 96) : ∀ d l n, l + d = (P p).length → d < n → fX8_couldBegin_L26 (fun z => ib z) h (nI p) (nI a) (nI t) n (bi (fl1 V (P p) (ms p) a t l)) (nI l) = some (fl1 V (P p) (ms p) a t (P p).length)
  | d, l, 0, _, hn => absurd hn (by omega)
  | 0, l, n + 1, hl, hn => by
    have h12 := (hP p).1
    have : l = (P p).length := by omega
    subst this
    rw [fX8_couldBegin_L26, if_pos (ck48 hp), m_count hM hp, if_pos (nI_le (by omega) (by omega))]
    cases fl1 V (P p) (ms p) a t (P p).length <;> rfl
  | d + 1, l, n + 1, hl, hn => by
    have h12 := (hP p).1
    have hm := hms p
    rw [fX8_couldBegin_L26, if_pos (ck48 hp), m_count hM hp, if_neg (nI_ge (by omega) (by omega))]
    cases hf : fl1 V (P p) (ms p) a t l with
    | false =>
      have := fl1_f hf (d + 1)
      rw [show l + (d + 1) = (P p).length by omega] at this
      rw [this]; rfl
    | true =>
      have hx := getD_at (L := P p) (show l < (P p).length by omega)
      have c1 := loS_le (V := V) (x := (P p).getD l (0, 0, 0))
      have c2 := lk_le (V := V) (a := a) (t := t + l)
      have ih := m_couldL hV hw hP hM hS hms hp ha ht d (l + 1) n (by omega) (by omega)
      have fs := fl1_s V (P p) (ms p) a t l
      rw [hf, Bool.true_and] at fs
      have hb : ms p / 2 ^ l % 2 < 2 := Nat.mod_lt _ (by omega)
      rw [fs] at ih
      unfold fX8_has
      rw [if_neg (show ¬ bi true = 0 by decide), if_pos (ck_t hp (by omega)), tn_nI (by omega), hS p hp, bitS (by omega) (by omega), nI_add, m_look hV hw ha (by omega), bn_s, m_lookOf hV hM hw hP hx, bn_s, nI_1]
      by_cases g : ms p / 2 ^ l % 2 = 1
      · rw [if_pos (show nI (ms p / 2 ^ l % 2) = 1 by rw [g]; rfl), bn_s, bi_it]
        rw [decide_eq_true g] at ih
        by_cases e : loS V ((P p).getD l (0, 0, 0)) = lk V a (t + l)
        · rw [if_pos ((nI_eq (by omega) (by omega)).mpr e.symm)]
          rw [decide_eq_true e] at ih
          exact ih
        · rw [if_neg (fun z => e ((nI_eq (by omega) (by omega)).mp z).symm)]
          rw [decide_eq_false e] at ih
          exact ih
      · rw [if_neg (show ¬ nI (ms p / 2 ^ l % 2) = 1 from fun z => g ((nI_eq (b := 1) (by omega) (by omega)).mp z)), bn_s, bi_if]
        rw [decide_eq_false g] at ih
        exact ih
theorem m_could (hV : MV h V) (hw : wfV V) (hP : wfP V P) (hM : MA h 0 P bt) (hS : MsM h ms) (hms : wfM ms) (hp : p < 4) (ha : a < V 0 4) (ht : t < 96) : fX8_couldBegin h (nI p) (nI a) (nI t) = some (fb V (P p) (ms p) a t) := by
  have h12 := (hP p).1
  unfold fX8_couldBegin fb
  rw [if_pos (ck48 hp), m_count hM hp, nI_add]
  by_cases g : t + (P p).length ≤ 96
  · rw [if_neg (show ¬ 96 < nI _ from nI_nlt (a := 96) (by omega) (by omega)), decide_eq_true g, Bool.true_and]
    exact m_couldL hV hw hP hM hS hms hp ha g (P p).length 0 1000 (by omega) (by omega)
  · rw [if_pos (show 96 < nI _ from nI_lt (a := 96) (by omega) (by omega)), decide_eq_false g, Bool.false_and]
    rw [fX8_couldBegin_L26, if_pos (ck48 hp), m_count hM hp, if_neg (show ¬ nI _ ≤ 0 from nI_ge (a := 0) (by omega) (by omega)), if_pos rfl]
    rfl
end Fits2
/-! the beginnings as a row -/
def bl (b : Nat → Bool) : Nat → List Nat
  | 0 => []
  | n + 1 => if b n = true then bl b n ++ [n] else bl b n
theorem bl_s (b : Nat → Bool) (n : Nat) : bl b (n + 1) = if b n = true then bl b n ++ [n] else bl b n := rfl
theorem bl_len (b : Nat → Bool) : ∀ n, (bl b n).length ≤ n
  | 0 => Nat.le_refl 0
  | n + 1 => by
    have := bl_len b n
    rw [bl_s]
    by_cases g : b n = true
    · rw [if_pos g, List.length_append]; show (bl b n).length + 1 ≤ _; omega
    · rw [if_neg g]; omega
theorem bl_mem (b : Nat → Bool) : ∀ n x, x ∈ bl b n → x < n ∧ b x = true
  | 0, x, h => absurd h List.not_mem_nil
  | n + 1, x, h => by
    rw [bl_s] at h
    by_cases g : b n = true
    · rw [if_pos g] at h
      rcases List.mem_append.mp h with z | z
      · have := bl_mem b n x z; exact ⟨by omega, this.2⟩
      · rw [List.mem_singleton.mp z]; exact ⟨by omega, g⟩
    · rw [if_neg g] at h
      have := bl_mem b n x h; exact ⟨by omega, this.2⟩
theorem bl_skip (b : Nat → Bool) (n : Nat) : ∀ d, (∀ j, n ≤ j → j < n + d → b j = false) → bl b (n + d) = bl b n
  | 0, _ => rfl
  | d + 1, H => by
    rw [show n + (d + 1) = (n + d) + 1 from rfl, bl_s, if_neg (by rw [H (n + d) (by omega) (by omega)]; decide)]
    exact bl_skip b n d (fun j h1 h2 => H j h1 (by omega))
theorem bl_at {b : Nat → Bool} {x : Nat} (g : b x = true) : ∀ d, (bl b (x + 1 + d))[(bl b x).length]? = some x
  | 0 => by
    rw [Nat.add_zero, bl_s, if_pos g, List.getElem?_append_right (Nat.le_refl _)]
    simp
  | d + 1 => by
    have ih := bl_at g d
    rw [show x + 1 + (d + 1) = (x + 1 + d) + 1 from rfl, bl_s]
    by_cases z : b (x + 1 + d) = true
    · rw [if_pos z, List.getElem?_append_left (List.getElem?_eq_some_iff.mp ih).1, ih]
    · rw [if_neg z, ih]
/-- what the landed program has gathered ahead of n -/
def GB (h : aH) (b : Nat → Bool) (n : Nat) : Prop := h 28 4 = nI (bl b n).length ∧ ∀ j y, (bl b n)[j]? = some y → h 29 j = nI (y / 96) ∧ h 30 j = nI (y % 96)
def bx (V : Vd) (L : List Lt) (m : Nat) : Nat → Bool := fun x => fb V L m (x / 96) (x % 96)
theorem GB_c {h h2 : aH} {b : Nat → Bool} {n : Nat} (e : ∀ k, 28 ≤ k → k < 31 → h2 k = h k) (H : GB h b n) : GB h2 b n := by
  unfold GB at *
  rw [e 28 (by omega) (by omega), e 29 (by omega) (by omega), e 30 (by omega) (by omega)]
  exact H
section Gather
variable {h : aH} {v : Nat} {V : Vd} {P : Ps} {bt sd p a m t : Nat} {ms : Nat → Nat}
theorem c_gathI (hw : wfV V) (hP : wfP V P) (hv : v = 36 ∨ v = 45) (hp : p < 4) (ha : a < V 0 4) (hm : m < 4096) (K : aH → Option aH) : ∀ d t n (h : aH), t + d = 96 → d < n → CV h v V → CL h v V → CA h 3 P bt sd → GB h (bx V (P p) m) (96 * a + t) → ∃ h2, fX1_gather_L27 K v 3 (nI p) (nI m) (nI (P p).length) (nI a) n h (nI t) = K h2 ∧ (∀ k, k < 28 ∨ 31 ≤ k → h2 k = h k) ∧ GB h2 (bx V (P p) m) (96 * a + 96)
  | d, t, 0, _, _, hn, _, _, _, _ => absurd hn (by omega)
  | 0, t, n + 1, h, ht, hn, hC, hL, hA, hG => by
    have : t = 96 := by omega
    subst this
    refine ⟨h, ?_, fun _ _ => rfl, hG⟩
    rw [fX1_gather_L27, if_pos (show 96 ≤ nI 96 from nI_le (a := 96) (by omega) (by omega))]
  | d + 1, t, n + 1, h, ht, hn, hC, hL, hA, hG => by
    have w4 := hw.1.2.2.2.2.1
    have h12 := (hP p).1
    rw [fX1_gather_L27, if_neg (show ¬ 96 ≤ nI t from nI_ge (b := 96) (by omega) (by omega)), nI_add]
    by_cases g : t + (P p).length ≤ 96
    · rw [if_neg (show ¬ 96 < nI _ from nI_nlt (a := 96) (by omega) (by omega))]
      have bll := bl_len (bx V (P p) m) (96 * a + t)
      have ebx : bx V (P p) m (96 * a + t) = fb V (P p) m a t := by
        unfold bx
        rw [show (96 * a + t) / 96 = a by omega, show (96 * a + t) % 96 = t by omega]
      rw [hG.1, if_neg (show ¬ 384 ≤ nI _ from nI_ge (b := 384) (by omega) (by omega)), c_fits hC hL hw hP hA hp ha hm g, bn_s, nI_1]
      cases hb : fb V (P p) m a t with
      | false =>
        rw [bi_if]
        refine c_gathI hw hP hv hp ha hm K d (t + 1) n h (by omega) (by omega) hC hL hA ?_
        rw [hb] at ebx
        rw [show 96 * a + (t + 1) = (96 * a + t) + 1 from rfl]
        unfold GB
        rw [bl_s, ebx]
        exact hG
      | true =>
        rw [bi_it, if_pos (ck_t (by omega) (by omega)), tn_nI (by omega), nI_1]
        have q : ∀ k, k < 28 ∨ 31 ≤ k → aU (aU (aU h 29 (bl (bx V (P p) m) (96 * a + t)).length (nI a)) 30 (bl (bx V (P p) m) (96 * a + t)).length (nI t)) 28 4 (nI ((bl (bx V (P p) m) (96 * a + t)).length + 1)) k = h k := fun k hk => by rw [aU_ne (by omega), aU_ne (by omega), aU_ne (by omega)]
        obtain ⟨h2, e1, e2, e3⟩ := c_gathI hw hP hv hp ha hm K d (t + 1) n (aU (aU (aU h 29 (bl (bx V (P p) m) (96 * a + t)).length (nI a)) 30 (bl (bx V (P p) m) (96 * a + t)).length (nI t)) 28 4 (nI ((bl (bx V (P p) m) (96 * a + t)).length + 1))) (by omega) (by omega) (CV_c (fun k _ _ => q k (by omega)) hC) (CL_c (q _ (by omega)) hL) (CA_c (fun k _ _ => q k (by omega)) hA) (by
          rw [hb] at ebx
          rw [show 96 * a + (t + 1) = (96 * a + t) + 1 from rfl]
          unfold GB
          rw [bl_s, ebx, if_pos rfl]
          refine ⟨by rw [List.length_append]; simp [aU_rd], fun j y hy => ?_⟩
          rcases Nat.lt_or_ge j (bl (bx V (P p) m) (96 * a + t)).length with z | z
          · rw [List.getElem?_append_left z] at hy
            have := hG.2 j y hy
            simp [aU_rd, show ¬ j = (bl (bx V (P p) m) (96 * a + t)).length by omega, this]
          · rw [List.getElem?_append_right z] at hy
            have z0 : j - (bl (bx V (P p) m) (96 * a + t)).length = 0 := by
              have := (List.getElem?_eq_some_iff.mp hy).1
              simp at this; omega
            rw [z0] at hy
            cases hy
            have hj : j = (bl (bx V (P p) m) (96 * a + t)).length := by omega
            rw [show (96 * a + t) / 96 = a by omega, show (96 * a + t) % 96 = t by omega]
            simp [aU_rd, hj])
        exact ⟨h2, e1, fun k hk => by rw [e2 k hk, q k hk], e3⟩
    · rw [if_pos (show 96 < nI _ from nI_lt (a := 96) (by omega) (by omega))]
      refine ⟨h, rfl, fun _ _ => rfl, ?_⟩
      have := bl_skip (bx V (P p) m) (96 * a + t) (96 - t) (fun j h1 h2 => by
        unfold bx fb
        rw [decide_eq_false (by omega)]; rfl)
      rw [show 96 * a + t + (96 - t) = 96 * a + 96 by omega] at this
      unfold GB
      rw [this]; exact hG
theorem c_gathO (hw : wfV V) (hP : wfP V P) (hv : v = 36 ∨ v = 45) (hp : p < 4) (hm : m < 4096) (K : aH → Option aH) : ∀ d a n (h : aH), a + d = V 0 4 → d < n → CV h v V → CL h v V → CA h 3 P bt sd → GB h (bx V (P p) m) (96 * a) → ∃ h2, fX1_gather_L15 K v 3 (nI p) (nI m) (nI (P p).length) n h (nI a) = K h2 ∧ (∀ k, k < 28 ∨ 31 ≤ k → h2 k = h k) ∧ GB h2 (bx V (P p) m) (96 * V 0 4)
  | d, a, 0, _, _, hn, _, _, _, _ => absurd hn (by omega)
  | 0, a, n + 1, h, ha, hn, hC, hL, hA, hG => by
    have w4 := hw.1.2.2.2.2.1
    have : a = V 0 4 := by omega
    refine ⟨h, ?_, fun _ _ => rfl, by rw [← this]; exact hG⟩
    rw [fX1_gather_L15, hC.1.2.2.2.2.2.1, if_pos (nI_le (by omega) (by omega))]
  | d + 1, a, n + 1, h, ha, hn, hC, hL, hA, hG => by
    have w4 := hw.1.2.2.2.2.1
    obtain ⟨h1, f1, f2, f3⟩ := c_gathI hw hP hv hp (a := a) (by omega) hm (fun h11 => fX1_gather_L15 K v 3 (nI p) (nI m) (nI (P p).length) n h11 (nI a + 1)) 96 0 1000 h (by omega) (by omega) hC hL hA hG
    obtain ⟨h2, e1, e2, e3⟩ := c_gathO hw hP hv hp hm K d (a + 1) n h1 (by omega) (by omega) (CV_c (fun k _ _ => f2 k (by omega)) hC) (CL_c (f2 _ (by omega)) hL) (CA_c (fun k _ _ => f2 k (by omega)) hA) f3
    refine ⟨h2, ?_, fun k hk => by rw [e2 k hk, f2 k hk], e3⟩
    rw [fX1_gather_L15, hC.1.2.2.2.2.2.1, if_neg (nI_ge (by omega) (by omega))]
    refine Eq.trans f1 ?_
    show fX1_gather_L15 K v 3 (nI p) (nI m) (nI (P p).length) n h1 (nI a + 1) = _
    rw [nI_1]; exact e1
theorem c_gather (hC : CV h v V) (hL : CL h v V) (hw : wfV V) (hP : wfP V P) (hA : CA h 3 P bt sd) (hv : v = 36 ∨ v = 45) (hp : p < 4) (hm : m < 4096) : ∃ h2, fX1_gather h v 3 (nI p) (nI m) = some h2 ∧ (∀ k, k < 28 ∨ 31 ≤ k → h2 k = h k) ∧ GB h2 (bx V (P p) m) (96 * V 0 4) := by
  have w4 := hw.1.2.2.2.2.1
  have q : ∀ k, k ≠ 28 → aU h 28 4 0 k = h k := fun k hk => aU_ne hk
  have A1 : CA (aU h 28 4 0) 3 P bt sd := CA_c (fun k _ _ => q k (by omega)) hA
  obtain ⟨h2, e1, e2, e3⟩ := c_gathO hw hP hv hp hm (fun h => some h) (V 0 4) 0 1000 (aU h 28 4 0) (by omega) (by omega) (CV_c (fun k _ _ => q k (by omega)) hC) (CL_c (q _ (by omega)) hL) A1 ⟨by simp [aU_rd]; rfl, fun j y hy => by cases hy⟩
  refine ⟨h2, ?_, fun k hk => by rw [e2 k hk, q k (by omega)], e3⟩
  unfold fX1_gather
  rw [c_count A1 hp, bn_s]
  exact e1
/-- what the reference has found ahead of n -/
def FB (h : aH) (b : Nat → Bool) (n : Nat) : Prop := ∀ y, y < n → h 67 y = bi (b y)
theorem ix96' (p l : Nat) : 96 * nI p + nI l = nI (96 * p + l) := by rw [show (96 : Int32) = nI 96 from rfl, pk_mul, nI_add]
theorem m_findI (hw : wfV V) (hP : wfP V P) (hms : wfM ms) (hp : p < 4) (ha : a < V 0 4) (K : aH → Int32 → Option (Int32 × aH)) : ∀ d t n (h : aH), t + d = 96 → d < n → MV h V → MA h 0 P bt → MsM h ms → FB h (bx V (P p) (ms p)) (96 * a + t) → ∃ h2, fX8_findBegins_L15 K (nI p) (nI a) n h (nI (bl (bx V (P p) (ms p)) (96 * a + t)).length) (nI t) = K h2 (nI (bl (bx V (P p) (ms p)) (96 * a + 96)).length) ∧ (∀ k, k ≠ 67 → h2 k = h k) ∧ FB h2 (bx V (P p) (ms p)) (96 * a + 96)
  | d, t, 0, _, _, hn, _, _, _, _ => absurd hn (by omega)
  | 0, t, n + 1, h, ht, hn, hV, hM, hS, hF => by
    have : t = 96 := by omega
    subst this
    refine ⟨h, ?_, fun _ _ => rfl, hF⟩
    rw [fX8_findBegins_L15, if_pos (show 96 ≤ nI 96 from nI_le (a := 96) (by omega) (by omega))]
  | d + 1, t, n + 1, h, ht, hn, hV, hM, hS, hF => by
    have w4 := hw.1.2.2.2.2.1
    have ebx : bx V (P p) (ms p) (96 * a + t) = fb V (P p) (ms p) a t := by
      unfold bx
      rw [show (96 * a + t) / 96 = a by omega, show (96 * a + t) % 96 = t by omega]
    have q : ∀ k, k ≠ 67 → aU h 67 (96 * a + t) (bi (fb V (P p) (ms p) a t)) k = h k := fun k hk => aU_ne hk
    obtain ⟨h2, e1, e2, e3⟩ := m_findI hw hP hms hp ha K d (t + 1) n (aU h 67 (96 * a + t) (bi (fb V (P p) (ms p) a t))) (by omega) (by omega) (MV_c (by rw [q 54 (by omega)]) (by rw [q 54 (by omega)]) (by rw [q 54 (by omega)]) (by rw [q 54 (by omega)]) (fun k _ _ => q k (by omega)) hV) (MA_c hP (fun i _ => by rw [q 55 (by omega)]) hM) (MsM_c (q 66 (by omega)) hS) (fun y hy => by
      by_cases z : y = 96 * a + t
      · subst z; rw [ebx]; simp [aU_rd]
      · simp only [aU_rd, if_true, if_neg z]; exact hF y (by omega))
    refine ⟨h2, ?_, fun k hk => by rw [e2 k hk, q k hk], e3⟩
    rw [fX8_findBegins_L15, if_neg (show ¬ 96 ≤ nI t from nI_ge (b := 96) (by omega) (by omega)), m_could hV hw hP hM hS hms hp ha (by omega), bn_s, ix96', if_pos (ck_t (by omega) (by omega)), one_b, bn_s, tn_nI (by omega), nI_1]
    rw [show 96 * a + (t + 1) = (96 * a + t) + 1 from rfl, bl_s, ebx] at e1
    cases hb : fb V (P p) (ms p) a t with
    | true =>
      rw [hb, if_pos rfl, List.length_append] at e1
      rw [show bi true = 1 from rfl, nI_1]; exact e1
    | false =>
      rw [hb, if_neg (by decide)] at e1
      rw [show bi false = 0 from rfl, Int32.add_zero]; exact e1
theorem m_findO (hw : wfV V) (hP : wfP V P) (hms : wfM ms) (hp : p < 4) (K : aH → Int32 → Option (Int32 × aH)) : ∀ d a n (h : aH), a + d = V 0 4 → d < n → MV h V → MA h 0 P bt → MsM h ms → FB h (bx V (P p) (ms p)) (96 * a) → ∃ h2, fX8_findBegins_L4 K (nI p) n h (nI (bl (bx V (P p) (ms p)) (96 * a)).length) (nI a) = K h2 (nI (bl (bx V (P p) (ms p)) (96 * V 0 4)).length) ∧ (∀ k, k ≠ 67 → h2 k = h k) ∧ FB h2 (bx V (P p) (ms p)) (96 * V 0 4)
  | d, a, 0, _, _, hn, _, _, _, _ => absurd hn (by omega)
  | 0, a, n + 1, h, ha, hn, hV, hM, hS, hF => by
    have w4 := hw.1.2.2.2.2.1
    have : a = V 0 4 := by omega
    subst this
    refine ⟨h, ?_, fun _ _ => rfl, hF⟩
    rw [fX8_findBegins_L4, hV.1.2.2.2.2.2.1, if_pos (nI_le (by omega) (by omega))]
  | d + 1, a, n + 1, h, ha, hn, hV, hM, hS, hF => by
    have w4 := hw.1.2.2.2.2.1
    obtain ⟨h1, f1, f2, f3⟩ := m_findI hw hP hms hp (a := a) (by omega) (fun h9 z8 => fX8_findBegins_L4 K (nI p) n h9 z8 (nI a + 1)) 96 0 1000 h (by omega) (by omega) hV hM hS hF
    obtain ⟨h2, e1, e2, e3⟩ := m_findO hw hP hms hp K d (a + 1) n h1 (by omega) (by omega) (MV_c (by rw [f2 54 (by omega)]) (by rw [f2 54 (by omega)]) (by rw [f2 54 (by omega)]) (by rw [f2 54 (by omega)]) (fun k _ _ => f2 k (by omega)) hV) (MA_c hP (fun i _ => by rw [f2 55 (by omega)]) hM) (MsM_c (f2 66 (by omega)) hS) f3
    refine ⟨h2, ?_, fun k hk => by rw [e2 k hk, f2 k hk], e3⟩
    rw [fX8_findBegins_L4, hV.1.2.2.2.2.2.1, if_neg (nI_ge (by omega) (by omega))]
    refine Eq.trans f1 ?_
    show fX8_findBegins_L4 K (nI p) n h1 _ (nI a + 1) = _
    rw [nI_1]; exact e1
theorem m_find (hV : MV h V) (hw : wfV V) (hP : wfP V P) (hM : MA h 0 P bt) (hS : MsM h ms) (hms : wfM ms) (hp : p < 4) : ∃ h2, fX8_findBegins h (nI p) = some (nI (bl (bx V (P p) (ms p)) (96 * V 0 4)).length, h2) ∧ (∀ k, k ≠ 67 → h2 k = h k) ∧ FB h2 (bx V (P p) (ms p)) (96 * V 0 4) := by
  have w4 := hw.1.2.2.2.2.1
  obtain ⟨h2, e1, e2, e3⟩ := m_findO hw hP hms hp (fun h11 z10 => some (z10, h11)) (V 0 4) 0 1000 h (by omega) (by omega) hV hM hS (fun y hy => absurd hy (by omega))
  exact ⟨h2, e1, e2, e3⟩
end Gather
