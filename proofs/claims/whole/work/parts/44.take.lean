/-! a valley that was read is taken -/
section Fill
variable {h : aH} {v a : Nat} {V : Vd}
theorem ix96 (p l : Nat) : nI p * 96 + nI l = nI (p * 96 + l) := by rw [show (96 : Int32) = nI 96 from rfl, pk_mul, nI_add]
theorem c_fillI (hw : wfV V) (ha : a < V 0 4) (K : aH → Option aH) : ∀ d t n (h : aH), t + d = 96 → d < n → CV h v V → ∃ h2, fX6_fillLooks_L12 K v (nI a) n h (nI t) = K h2 ∧ (∀ k, k ≠ v + 8 → h2 k = h k) ∧ (∀ i, i < a * 96 + t ∨ a * 96 + 96 ≤ i → h2 (v + 8) i = h (v + 8) i) ∧ (∀ s, t ≤ s → s < 96 → h2 (v + 8) (a * 96 + s) = nI (lk V a s))
  | d, t, 0, _, _, hn, _ => absurd hn (by omega)
  | 0, t, n + 1, h, ht, hn, hC => by
    refine ⟨h, ?_, fun _ _ => rfl, fun _ _ => rfl, fun s h1 h2 => by omega⟩
    rw [fX6_fillLooks_L12, if_pos (show 96 ≤ nI t from nI_le (a := 96) (by omega) (by omega))]
  | d + 1, t, n + 1, h, ht, hn, hC => by
    have w4 := hw.1.2.2.2.2.1
    have q : ∀ k, k ≠ v + 8 → aU h (v + 8) (a * 96 + t) (nI (lk V a t)) k = h k := fun k hk => aU_ne hk
    obtain ⟨h2, e1, e2, e3, e4⟩ := c_fillI hw ha K d (t + 1) n (aU h (v + 8) (a * 96 + t) (nI (lk V a t))) (by omega) (by omega) (CV_c (fun k _ _ => q k (by omega)) hC)
    refine ⟨h2, ?_, fun k hk => by rw [e2 k hk, q k hk], fun i hi => ?_, fun s h1 h3 => ?_⟩
    · rw [fX6_fillLooks_L12, if_neg (show ¬ 96 ≤ nI t from nI_ge (b := 96) (by omega) (by omega)), show nI t / 12 = nI (t / 12) from pk_div (d := 12) (by omega) (by omega) (by omega), c_rain hC hw (by omega), bn_s, c_lookR hC hw ha (by omega) (rainS_le hw _), bn_s, ix96, if_pos (ck_t (by omega) (by omega)), tn_nI (by omega), nI_1]
      exact e1
    · rw [e3 i (by omega)]; simp only [aU_rd, if_true]; rw [if_neg (by omega)]
    · rcases Nat.lt_or_ge t s with z | z
      · exact e4 s z h3
      · have : s = t := by omega
        subst this
        rw [e3 _ (by omega)]; simp only [aU_rd, if_true]
theorem c_fillO (hw : wfV V) (K : aH → Option aH) : ∀ d a n (h : aH), a + d = V 0 4 → d < n → CV h v V → ∃ h2, fX6_fillLooks_L2 K v n h (nI a) = K h2 ∧ (∀ k, k ≠ v + 8 → h2 k = h k) ∧ (∀ i, i < a * 96 → h2 (v + 8) i = h (v + 8) i) ∧ (∀ b, a ≤ b → b < V 0 4 → ∀ s, s < 96 → h2 (v + 8) (b * 96 + s) = nI (lk V b s))
  | d, a, 0, _, _, hn, _ => absurd hn (by omega)
  | 0, a, n + 1, h, ha, hn, hC => by
    have w4 := hw.1.2.2.2.2.1
    refine ⟨h, ?_, fun _ _ => rfl, fun _ _ => rfl, fun s h1 h2 => by omega⟩
    rw [fX6_fillLooks_L2, hC.1.2.2.2.2.2.1, if_pos (nI_le (by omega) (by omega))]
  | d + 1, a, n + 1, h, ha, hn, hC => by
    have w4 := hw.1.2.2.2.2.1
    obtain ⟨h1, f1, f2, f3, f4⟩ := c_fillI hw (a := a) (by omega) (fun h8 => fX6_fillLooks_L2 K v n h8 (nI a + 1)) 96 0 1000 h (by omega) (by omega) hC
    obtain ⟨h2, e1, e2, e3, e4⟩ := c_fillO hw K d (a + 1) n h1 (by omega) (by omega) (CV_c (fun k _ _ => f2 k (by omega)) hC)
    refine ⟨h2, ?_, fun k hk => by rw [e2 k hk, f2 k hk], fun i hi => by rw [e3 i (by omega), f3 i (by omega)], fun b h3 h4 s hs => ?_⟩
    · rw [fX6_fillLooks_L2, hC.1.2.2.2.2.2.1, if_neg (nI_ge (by omega) (by omega))]
      refine Eq.trans f1 ?_
      show fX6_fillLooks_L2 K v n h1 (nI a + 1) = _
      rw [nI_1]; exact e1
    · rcases Nat.lt_or_ge a b with z | z
      · exact e4 b z h4 s hs
      · have : b = a := by omega
        subst this
        rw [e3 _ (by omega)]; exact f4 s (by omega) hs
theorem c_fill (hC : CV h v V) (hw : wfV V) : ∃ h2, fX6_fillLooks h v = some h2 ∧ (∀ k, k ≠ v + 8 → h2 k = h k) ∧ CL h2 v V := by
  have w4 := hw.1.2.2.2.2.1
  obtain ⟨h2, e1, e2, e3, e4⟩ := c_fillO hw (fun h => some h) (V 0 4) 0 1000 h (by omega) (by omega) hC
  exact ⟨h2, e1, e2, fun a ha t ht => e4 a (by omega) ha t ht⟩
end Fill
/-- how a paper begins -/
def pgl (a t : Nat) : Nat → List Lt
  | 0 => []
  | k + 1 => pgl a t k ++ [(t + k, a, 0)]
theorem pgl_s (a t k : Nat) : pgl a t (k + 1) = pgl a t k ++ [(t + k, a, 0)] := rfl
theorem pgl_len (a t : Nat) : ∀ k, (pgl a t k).length = k
  | 0 => rfl
  | k + 1 => by rw [pgl_s, List.length_append, pgl_len a t k]; rfl
theorem pgl_mem (a t : Nat) : ∀ k x, x ∈ pgl a t k → x.1 < t + k ∧ x.2.1 = a ∧ x.2.2 = 0
  | 0, x, h => absurd h List.not_mem_nil
  | k + 1, x, h => by
    rw [pgl_s] at h
    rcases List.mem_append.mp h with z | z
    · have := pgl_mem a t k x z; exact ⟨by omega, this.2⟩
    · rw [List.mem_singleton.mp z]; exact ⟨by show t + k < t + (k + 1); omega, rfl, rfl⟩
def pk' (Q : Vd) (p : Nat) : Nat := min (Q 2 p) (96 - Q 1 p)
def PN (V Q : Vd) : Ps := fun p => if p < V 0 5 then pgl (Q 0 p) (Q 1 p) (pk' Q p) else []
theorem PN_wf {V Q : Vd} (hQ : wfQ V Q) : wfP V (PN V Q) := by
  intro p
  unfold PN
  by_cases g : p < V 0 5
  · rw [if_pos g]
    obtain ⟨q0, q1, q2, q3⟩ := hQ p g
    have k1 : pk' Q p ≤ Q 2 p := Nat.min_le_left _ _
    have k2 : pk' Q p ≤ 96 - Q 1 p := Nat.min_le_right _ _
    refine ⟨by rw [pgl_len]; omega, fun z => absurd z (by omega), fun x hx => ?_⟩
    obtain ⟨m1, m2, m3⟩ := pgl_mem _ _ _ x hx
    exact ⟨by omega, by omega, by omega⟩
  · rw [if_neg g]
    exact ⟨Nat.zero_le _, fun _ => rfl, fun x hx => absurd hx List.not_mem_nil⟩
def V4 : Vd := fun _ _ => 4
theorem wfP_4 {V : Vd} {P : Ps} (hw : wfV V) (hP : wfP V P) : wfP V4 P := fun p => ⟨(hP p).1, fun z => (hP p).2.1 (by have := hw.1.2.2.2.2.2.1; have z : 4 ≤ p := z; omega), fun x hx => ⟨((hP p).2.2 x hx).1, by have := hw.1.2.2.2.2.1; have := ((hP p).2.2 x hx).2.1; show x.2.1 < 4; omega, ((hP p).2.2 x hx).2.2⟩⟩
theorem wfP_up {V : Vd} {P : Ps} {p : Nat} {L : List Lt} (hP : wfP V P) (h1 : L.length ≤ 12) (h2 : V 0 5 ≤ p → L = []) (h3 : ∀ x ∈ L, x.1 < 96 ∧ x.2.1 < V 0 4 ∧ x.2.2 ≤ 96) : wfP V (upP P p L) := by
  intro q
  by_cases z : q = p
  · subst z; rw [upP_p]; exact ⟨h1, h2, h3⟩
  · rw [upP_ne _ _ z]; exact hP q
section Begin
variable {h : aH} {v : Nat} {V Q : Vd} {P : Ps} {bt sd p : Nat}
theorem CA_clear {a : Nat} (hA : CA h a P bt sd) (p : Nat) : CA (aU h (a + 1) p 0) a (upP P p []) bt sd := by
  obtain ⟨a1, a2, a3, a4⟩ := hA
  refine ⟨fun q hq => ?_, fun q hq l x hx => ?_, by rw [aU_ne (by omega)]; exact a3, by rw [aU_ne (by omega)]; exact a4⟩
  · by_cases z : q = p
    · subst z; rw [upP_p]; simp only [aU_rd, if_true]; rfl
    · rw [upP_ne _ _ z]; simp only [aU_rd, if_true, if_neg z]; exact a1 q hq
  · by_cases z : q = p
    · subst z; rw [upP_p] at hx; cases hx
    · rw [upP_ne _ _ z] at hx
      rw [aU_ne (by omega), aU_ne (by omega), aU_ne (by omega)]; exact a2 q hq l x hx
theorem c_bpL {a t len : Nat} (hp : p < 4) (ht : t ≤ 95) (hlen : len ≤ 12) (K : aH → Option aH) : ∀ d l n (h : aH) (P : Ps), l + d = min len (96 - t) → d < n → (∀ q, (P q).length ≤ 12) → P p = pgl a t l → CA h 3 P bt sd → ∃ h2, fX0_beginPaper_L3 K 3 (nI p) (nI a) (nI t) (nI len) n h (nI l) = K h2 ∧ (∀ k, k < 4 ∨ 7 < k → h2 k = h k) ∧ CA h2 3 (upP P p (pgl a t (min len (96 - t)))) bt sd
  | d, l, 0, _, _, _, hn, _, _, _ => absurd hn (by omega)
  | 0, l, n + 1, h, P, hl, hn, hP, e, hA => by
    have hl0 : l = min len (96 - t) := by omega
    refine ⟨h, ?_, fun _ _ => rfl, by rw [← hl0, upP_id e]; exact hA⟩
    rw [fX0_beginPaper_L3, nI_add]
    by_cases g : len ≤ l
    · rw [if_pos (nI_le g (by omega))]
    · rw [if_neg (nI_ge (by omega) (by omega)), if_pos (show 96 ≤ nI (t + l) from nI_le (a := 96) (by omega) (by omega))]
  | d + 1, l, n + 1, h, P, hl, hn, hP, e, hA => by
    have lenP : (P p).length = l := by rw [e, pgl_len]
    obtain ⟨h1, a1, a2, a3⟩ := c_put (x := (t + l, a, 0)) hA hP hp (by omega)
    obtain ⟨h2, e1, e2, e3⟩ := c_bpL hp ht hlen K d (l + 1) n h1 (upP P p (P p ++ [(t + l, a, 0)])) (by omega) (by omega) (fun q => by
      by_cases z : q = p
      · subst z; rw [upP_p, List.length_append, lenP]; show l + 1 ≤ 12; omega
      · rw [upP_ne _ _ z]; exact hP q) (by rw [upP_p, e, pgl_s]) a3
    refine ⟨h2, ?_, fun k hk => by rw [e2 k hk, a2 k (by omega)], by rw [upP_up] at e3; exact e3⟩
    rw [fX0_beginPaper_L3, if_neg (nI_ge (by omega) (by omega)), nI_add, if_neg (show ¬ 96 ≤ nI (t + l) from nI_ge (b := 96) (by omega) (by omega))]
    rw [show fX0_put h 3 (nI p) (nI a) (nI (t + l)) (-1) = some h1 from a1, bn_s, nI_1]
    exact e1
theorem upP_tl (P R : Ps) (p : Nat) : (fun q => if p + 1 ≤ q then R q else upP P p (R p) q) = (fun q => if p ≤ q then R q else P q) := by
  funext q
  by_cases z : q = p
  · subst z; rw [if_neg (by omega), upP_p, if_pos (Nat.le_refl _)]
  · rw [upP_ne _ _ z]
    by_cases g : p + 1 ≤ q
    · rw [if_pos g, if_pos (by omega)]
    · rw [if_neg g, if_neg (by omega)]
theorem PN_len (hQ : wfQ V Q) (q : Nat) : (PN V Q q).length ≤ 12 := (PN_wf hQ q).1
theorem c_bgL (hw : wfV V) (hQ : wfQ V Q) (hv : 36 ≤ v) (K : aH → Option aH) : ∀ d p n (h : aH) (P : Ps), p + d = 4 → d < n → (∀ q, (P q).length ≤ 12) → CV h v V → CQ h v V Q → CA h 3 P bt sd → ∃ h2, fX0_beginAs_L7 K 3 v n h (nI p) = K h2 ∧ (∀ k, k < 4 ∨ 7 < k → h2 k = h k) ∧ CA h2 3 (fun q => if p ≤ q then PN V Q q else P q) bt sd
  | d, p, 0, _, _, _, hn, _, _, _, _ => absurd hn (by omega)
  | 0, p, n + 1, h, P, hp, hn, hP, hC, hCQ, hA => by
    refine ⟨h, ?_, fun _ _ => rfl, ?_⟩
    · rw [fX0_beginAs_L7, if_pos (show 4 ≤ nI p from nI_le (a := 4) (by omega) (by omega))]
    · obtain ⟨a1, a2, a3, a4⟩ := hA
      refine ⟨fun q hq => ?_, fun q hq l x hx => ?_, a3, a4⟩
      · show _ = nI (if p ≤ q then PN V Q q else P q).length
        rw [if_neg (by omega)]; exact a1 q hq
      · have hx : (if p ≤ q then PN V Q q else P q)[l]? = some x := hx
        rw [if_neg (by omega)] at hx; exact a2 q hq l x hx
  | d + 1, p, n + 1, h, P, hp, hn, hP, hC, hCQ, hA => by
    have q : ∀ k, k ≠ 4 → aU h 4 p 0 k = h k := fun k hk => aU_ne hk
    have A1 : CA (aU h 4 p 0) 3 (upP P p []) bt sd := CA_clear hA p
    have C1 : CV (aU h 4 p 0) v V := CV_c (fun k _ _ => q k (by omega)) hC
    have Q1 : CQ (aU h 4 p 0) v V Q := by unfold CQ at *; rw [q _ (by omega), q _ (by omega), q _ (by omega)]; exact hCQ
    have P1 : ∀ q, (upP P p [] q).length ≤ 12 := fun q => by
      by_cases z : q = p
      · subst z; rw [upP_p]; exact Nat.zero_le _
      · rw [upP_ne _ _ z]; exact hP q
    have v5 := hw.1.2.2.2.2.2.1
    rw [fX0_beginAs_L7, if_neg (show ¬ 4 ≤ nI p from nI_ge (b := 4) (by omega) (by omega)), if_pos (ck_t (by omega) (by omega)), tn_nI (by omega), c_hasPaper C1 hw, bn_s, nI_1]
    by_cases g : p < V 0 5
    · obtain ⟨b1, b2, b3⟩ := Q1 p g
      obtain ⟨q0, q1, q2, q3⟩ := hQ p g
      obtain ⟨h1, f1, f2, f3⟩ := c_bpL (a := Q 0 p) (t := Q 1 p) (len := Q 2 p) (p := p) (by omega) q1 q3 (fun h5 => some h5) (min (Q 2 p) (96 - Q 1 p)) 0 1000 (aU h 4 p 0) (upP P p []) (by omega) (by omega) P1 (by rw [upP_p]; rfl) A1
      have eP : pgl (Q 0 p) (Q 1 p) (min (Q 2 p) (96 - Q 1 p)) = PN V Q p := by unfold PN; rw [if_pos g]; rfl
      rw [upP_up, eP] at f3
      obtain ⟨h2, e1, e2, e3⟩ := c_bgL hw hQ hv K d (p + 1) n h1 (upP P p (PN V Q p)) (by omega) (by omega) (fun u => by
        by_cases z : u = p
        · rw [z, upP_p]; exact PN_len hQ p
        · rw [upP_ne _ _ z]; exact hP u) (CV_c (fun k _ _ => f2 k (by omega)) C1) (by unfold CQ at *; rw [f2 _ (by omega), f2 _ (by omega), f2 _ (by omega)]; exact Q1) f3
      rw [upP_tl P (PN V Q) p] at e3
      refine ⟨h2, ?_, fun k hk => by rw [e2 k hk, f2 k hk, q k (by omega)], e3⟩
      rw [ck_t g (by omega), bi_it]
      unfold fX0_beginPaper
      rw [b1, b2, b3, show fX0_beginPaper_L3 (fun h5 => some h5) 3 (nI p) (nI (Q 0 p)) (nI (Q 1 p)) (nI (Q 2 p)) 1000 (aU h 4 p 0) 0 = some h1 from f1, bn_s]
      exact e1
    · have eP : PN V Q p = [] := by unfold PN; rw [if_neg g]
      obtain ⟨h2, e1, e2, e3⟩ := c_bgL hw hQ hv K d (p + 1) n (aU h 4 p 0) (upP P p []) (by omega) (by omega) P1 C1 Q1 A1
      rw [← eP, upP_tl P (PN V Q) p] at e3
      refine ⟨h2, ?_, fun k hk => by rw [e2 k hk, q k (by omega)], e3⟩
      rw [ck_nI (by omega), decide_eq_false g, bi_if]
      exact e1
theorem c_begins (hC : CV h v V) (hCQ : CQ h v V Q) (hw : wfV V) (hQ : wfQ V Q) (hv : 36 ≤ v) (hP : ∀ q, (P q).length ≤ 12) (hA : CA h 3 P bt sd) : ∃ h2, fX0_beginAs h 3 v = some h2 ∧ (∀ k, k < 3 ∨ 7 < k → h2 k = h k) ∧ (∀ j, j ≠ 4 → h2 3 j = h 3 j) ∧ CA h2 3 (PN V Q) 0 sd := by
  have q : ∀ k, k ≠ 3 → aU h 3 4 (-1) k = h k := fun k hk => aU_ne hk
  obtain ⟨h2, e1, e2, e3⟩ := c_bgL hw hQ hv (fun h => some h) 4 0 1000 (aU h 3 4 (-1)) P (by omega) (by omega) hP (CV_c (fun k _ _ => q k (by omega)) hC) (by unfold CQ at *; rw [q _ (by omega), q _ (by omega), q _ (by omega)]; exact hCQ) (CA_bt 0 hA)
  refine ⟨h2, e1, fun k hk => by rw [e2 k (by omega), q k (by omega)], fun j hj => by rw [e2 3 (by omega)]; simp only [aU_rd, if_true, if_neg hj], ?_⟩
  have : (fun q => if 0 ≤ q then PN V Q q else P q) = PN V Q := by funext q; rw [if_pos (Nat.zero_le _)]
  rw [this] at e3
  exact e3
/-! the reference takes it -/
theorem m_L10 (K : aH → Option aH) (h : aH) : ∃ h2, fX8_take_L10 K 1000 h 0 = K h2 ∧ (∀ k, k ≠ 57 → h2 k = h k) ∧ h2 57 0 = h 57 3 ∧ h2 57 1 = h 57 4 ∧ h2 57 2 = h 57 5 := by
  refine ⟨aU (aU (aU h 57 0 (h 57 3)) 57 1 (h 57 4)) 57 2 (h 57 5), ?_, fun k hk => by rw [aU_ne hk, aU_ne hk, aU_ne hk], by simp [aU_rd], by simp [aU_rd], by simp [aU_rd]⟩
  rw [fX8_take_L10, if_neg (by decide), if_pos (by decide), if_pos (by decide), fX8_take_L10, if_neg (by decide), if_pos (by decide), if_pos (by decide), fX8_take_L10, if_neg (by decide), if_pos (by decide), if_pos (by decide), fX8_take_L10, if_pos (by decide)]
  rfl
theorem m_thA (K : aH → Option aH) : ∀ d k n (h : aH), k + d = 4 → d < n → ∃ h2, fX8_takeHands_L2 K n h (nI k) = K h2 ∧ (∀ c, c < 59 ∨ 61 < c → h2 c = h c) ∧ (∀ c, 59 ≤ c → c ≤ 61 → (∀ j, j < k ∨ 4 ≤ j → h2 c j = h c j) ∧ (∀ j, k ≤ j → j < 4 → h2 c j = h c (4 + j)))
  | d, k, 0, _, _, hn => absurd hn (by omega)
  | 0, k, n + 1, h, hk, hn => by
    refine ⟨h, ?_, fun _ _ => rfl, fun c _ _ => ⟨fun _ _ => rfl, fun j h1 h2 => by omega⟩⟩
    rw [fX8_takeHands_L2, if_pos (show 4 ≤ nI k from nI_le (a := 4) (by omega) (by omega))]
  | d + 1, k, n + 1, h, hk, hn => by
    obtain ⟨h2, e1, e2, e3⟩ := m_thA K d (k + 1) n (aU (aU (aU h 59 k (h 59 (4 + k))) 60 k (h 60 (4 + k))) 61 k (h 61 (4 + k))) (by omega) (by omega)
    have rd : ∀ c, 59 ≤ c → c ≤ 61 → ∀ j, aU (aU (aU h 59 k (h 59 (4 + k))) 60 k (h 60 (4 + k))) 61 k (h 61 (4 + k)) c j = if j = k then h c (4 + k) else h c j := by
      intro c h1 h3 j
      rcases (by omega : c = 59 ∨ c = 60 ∨ c = 61) with rfl | rfl | rfl
      · rw [aU_ne (by omega), aU_ne (by omega)]; simp only [aU_rd, if_true]
      · rw [aU_ne (by omega)]; simp only [aU_rd, if_true]; rfl
      · simp only [aU_rd, if_true]; rfl
    refine ⟨h2, ?_, fun c hc => by rw [e2 c hc, aU_ne (by omega), aU_ne (by omega), aU_ne (by omega)], fun c h1 h3 => ⟨fun j hj => ?_, fun j h4 h5 => ?_⟩⟩
    · rw [fX8_takeHands_L2, if_neg (show ¬ 4 ≤ nI k from nI_ge (b := 4) (by omega) (by omega)), four_i, if_pos (ck_t (by omega) (by omega)), if_pos (ck_t (by omega) (by omega)), tn_nI (by omega), tn_nI (by omega), nI_1]
      exact e1
    · rw [(e3 c h1 h3).1 j (by omega), rd c h1 h3, if_neg (by omega)]
    · rcases Nat.lt_or_ge k j with z | z
      · rw [(e3 c h1 h3).2 j z h5, rd c h1 h3, if_neg (by omega)]
      · have : j = k := by omega
        subst this
        rw [(e3 c h1 h3).1 j (by omega), rd c h1 h3, if_pos rfl]
theorem m_thB (K : aH → Option aH) : ∀ d k n (h : aH), k + d = 8 → d < n → ∃ h2, fX8_takeHands_L57 K n h (nI k) = K h2 ∧ (∀ c, c ≠ 58 → h2 c = h c) ∧ (∀ j, j < k ∨ 8 ≤ j → h2 58 j = h 58 j) ∧ (∀ j, k ≤ j → j < 8 → h2 58 j = h 58 (8 + j))
  | d, k, 0, _, _, hn => absurd hn (by omega)
  | 0, k, n + 1, h, hk, hn => by
    refine ⟨h, ?_, fun _ _ => rfl, fun _ _ => rfl, fun j h1 h2 => by omega⟩
    rw [fX8_takeHands_L57, if_pos (show 8 ≤ nI k from nI_le (a := 8) (by omega) (by omega))]
  | d + 1, k, n + 1, h, hk, hn => by
    obtain ⟨h2, e1, e2, e3, e4⟩ := m_thB K d (k + 1) n (aU h 58 k (h 58 (8 + k))) (by omega) (by omega)
    refine ⟨h2, ?_, fun c hc => by rw [e2 c hc, aU_ne hc], fun j hj => ?_, fun j h4 h5 => ?_⟩
    · rw [fX8_takeHands_L57, if_neg (show ¬ 8 ≤ nI k from nI_ge (b := 8) (by omega) (by omega)), show 8 + nI k = nI (8 + k) from nI_add 8 k, if_pos (ck_t (by omega) (by omega)), if_pos (ck_t (by omega) (by omega)), tn_nI (by omega), tn_nI (by omega), nI_1]
      exact e1
    · rw [e3 j (by omega)]; simp only [aU_rd, if_true]; rw [if_neg (by omega)]
    · rcases Nat.lt_or_ge k j with z | z
      · rw [e4 j z h5]; simp only [aU_rd, if_true]; rw [if_neg (by omega)]
      · have : j = k := by omega
        subst this
        rw [e3 j (by omega)]; simp only [aU_rd, if_true]
theorem m_th (h : aH) : ∃ h2, fX8_takeHands h = some h2 ∧ (∀ c, c < 58 ∨ 61 < c → h2 c = h c) ∧ (∀ c, 59 ≤ c → c ≤ 61 → ∀ j, j < 4 → h2 c j = h c (4 + j)) ∧ (∀ j, j < 8 → h2 58 j = h 58 (8 + j)) := by
  obtain ⟨h1, a1, a2, a3⟩ := m_thA (fun h4 => fX8_takeHands_L57 (fun h8 => some h8) 1000 h4 0) 4 0 1000 h (by omega) (by omega)
  obtain ⟨h2, b1, b2, b3, b4⟩ := m_thB (fun h8 => some h8) 8 0 1000 h1 (by omega) (by omega)
  refine ⟨h2, ?_, fun c hc => by rw [b2 c (by omega), a2 c (by omega)], fun c h1 h3 j hj => by rw [b2 c (by omega), (a3 c h1 h3).2 j (by omega) hj], fun j hj => by rw [b4 j (by omega) hj, a2 58 (by omega)]⟩
  unfold fX8_takeHands
  exact a1.trans b1
theorem MA_clear (hP : wfP V4 P) (hM : MA h 0 P bt) {p : Nat} (hp : p < 4) : MA (aU h 55 (48 + p) 0) 0 (upP P p []) bt := by
  obtain ⟨a1, a2, a3⟩ := hM
  refine ⟨fun q hq => ?_, fun q hq l x hx => ?_, ?_⟩
  · rw [Nat.zero_add]
    by_cases z : q = p
    · subst z; rw [upP_p]; simp only [aU_rd, if_true]; rfl
    · rw [upP_ne _ _ z]; simp only [aU_rd, if_true]; rw [if_neg (by omega)]
      have := a1 q hq
      rw [Nat.zero_add] at this; exact this
  · rw [Nat.zero_add]
    by_cases z : q = p
    · subst z; rw [upP_p] at hx; cases hx
    · rw [upP_ne _ _ z] at hx
      have b := wfP_at hP hx
      simp only [aU_rd, if_true]; rw [if_neg (by omega)]
      have := a2 q hq l x hx
      rw [Nat.zero_add] at this; exact this
  · simp only [aU_rd, if_true]; rw [if_neg (by omega)]; exact a3
theorem m_bpL {a t len N : Nat} (hp : p < 4) (hpN : p < N) (hN : N ≤ 4) (ha : a < 4) (ht : t ≤ 95) (hlen : len ≤ 12) (K : aH → Option aH) : ∀ d l n (h : aH) (P : Ps), l + d = min len (96 - t) → d < n → wfP V4 P → P p = pgl a t l → MA h 0 P bt → h 54 16 = nI N → h 64 p = nI len → h 63 p = nI t → h 62 p = nI a → ∃ h2, fX8_take_L124 K (nI p) n h (nI l) = K h2 ∧ (∀ k, k ≠ 55 → h2 k = h k) ∧ (∀ i, 52 ≤ i → h2 55 i = h 55 i) ∧ MA h2 0 (upP P p (pgl a t (min len (96 - t)))) bt
  | d, l, 0, _, _, _, hn, _, _, _, _, _, _, _ => absurd hn (by omega)
  | 0, l, n + 1, h, P, hl, hn, hP, e, hM, e16, e64, e63, e62 => by
    have hl0 : l = min len (96 - t) := by omega
    refine ⟨h, ?_, fun _ _ => rfl, fun _ _ => rfl, by rw [← hl0, upP_id e]; exact hM⟩
    rw [fX8_take_L124, e16, if_neg (nI_ge hpN (by omega)), if_pos (ck_t (by omega) (by omega)), tn_nI (by omega), e64, e63, nI_add]
    by_cases g : len ≤ l
    · rw [if_pos (nI_le g (by omega))]
    · rw [if_neg (nI_ge (by omega) (by omega)), if_pos (show 96 ≤ nI (t + l) from nI_le (a := 96) (by omega) (by omega))]
  | d + 1, l, n + 1, h, P, hl, hn, hP, e, hM, e16, e64, e63, e62 => by
    have lenP : (P p).length = l := by rw [e, pgl_len]
    obtain ⟨h1, a1, a2, a3, a4⟩ := m_put (x := (t + l, a, 0)) hM hP hp (by omega) (show t + l < 96 by omega) ha (Nat.zero_le _)
    obtain ⟨h2, e1, e2, e3, e4⟩ := m_bpL hp hpN hN ha ht hlen K d (l + 1) n h1 (upP P p (P p ++ [(t + l, a, 0)])) (by omega) (by omega) (wfP_add hP (show p < 4 from hp) (by omega) ⟨show t + l < 96 by omega, ha, Nat.zero_le _⟩) (by rw [upP_p, e, pgl_s]) a4 (by rw [a2 54 (by omega)]; exact e16) (by rw [a2 64 (by omega)]; exact e64) (by rw [a2 63 (by omega)]; exact e63) (by rw [a2 62 (by omega)]; exact e62)
    refine ⟨h2, ?_, fun k hk => by rw [e2 k hk, a2 k hk], fun i hi => by rw [e3 i hi, a3 i hi], by rw [upP_up] at e4; exact e4⟩
    rw [fX8_take_L124, e16, if_neg (nI_ge hpN (by omega)), if_pos (ck_t (by omega) (by omega)), tn_nI (by omega), e64, e63, e62, nI_add, if_neg (nI_ge (by omega) (by omega)), if_neg (show ¬ 96 ≤ nI (t + l) from nI_ge (b := 96) (by omega) (by omega))]
    rw [show fX8_put h (nI p) (nI (t + l)) (nI a) (-1) = some h1 from a1, bn_s, nI_1]
    exact e1
theorem m_bgL (hw : wfV V) (hQ : wfQ V Q) (K : aH → Option aH) : ∀ d p n (h : aH) (P : Ps), p + d = 4 → d < n → wfP V4 P → SQ h V Q → h 54 16 = nI (V 0 5) → MA h 0 P bt → ∃ h2, fX8_take_L65 K n h (nI p) = K h2 ∧ (∀ k, k ≠ 55 → k < 62 ∨ 64 < k → k ≠ 66 → h2 k = h k) ∧ (∀ i, 52 ≤ i → h2 55 i = h 55 i) ∧ MA h2 0 (fun q => if p ≤ q then PN V Q q else P q) bt ∧ (∀ q, q < p → h2 66 q = h 66 q) ∧ (∀ q, p ≤ q → q < 4 → h2 66 q = 0)
  | d, p, 0, _, _, _, hn, _, _, _, _ => absurd hn (by omega)
  | 0, p, n + 1, h, P, hp, hn, hP, hS, e16, hM => by
    refine ⟨h, ?_, fun _ _ _ _ => rfl, fun _ _ => rfl, ?_, fun _ _ => rfl, fun q h1 h2 => by omega⟩
    · rw [fX8_take_L65, if_pos (show 4 ≤ nI p from nI_le (a := 4) (by omega) (by omega))]
    · obtain ⟨a1, a2, a3⟩ := hM
      refine ⟨fun q hq => ?_, fun q hq l x hx => ?_, a3⟩
      · show _ = nI (if p ≤ q then PN V Q q else P q).length
        rw [if_neg (by omega)]; exact a1 q hq
      · have hx : (if p ≤ q then PN V Q q else P q)[l]? = some x := hx
        rw [if_neg (by omega)] at hx; exact a2 q hq l x hx
  | d + 1, p, n + 1, h, P, hp, hn, hP, hS, e16, hM => by
    have v4 := hw.1.2.2.2.2.1
    have v5 := hw.1.2.2.2.2.2.1
    have qs : ∀ k, k ≠ 55 → k < 62 ∨ 64 < k → aU (aU (aU (aU h 62 p (h 62 (4 + p))) 63 p (h 63 (4 + p))) 64 p (h 64 (4 + p))) 55 (48 + p) 0 k = h k := fun k x y => by rw [aU_ne x, aU_ne (by omega), aU_ne (by omega), aU_ne (by omega)]
    have q62 : ∀ j, aU (aU (aU (aU h 62 p (h 62 (4 + p))) 63 p (h 63 (4 + p))) 64 p (h 64 (4 + p))) 55 (48 + p) 0 62 j = if j = p then h 62 (4 + p) else h 62 j := fun j => by
      rw [aU_ne (by omega), aU_ne (by omega), aU_ne (by omega)]; simp only [aU_rd, if_true]
    have q63 : ∀ j, aU (aU (aU (aU h 62 p (h 62 (4 + p))) 63 p (h 63 (4 + p))) 64 p (h 64 (4 + p))) 55 (48 + p) 0 63 j = if j = p then h 63 (4 + p) else h 63 j := fun j => by
      rw [aU_ne (by omega), aU_ne (by omega)]; simp only [aU_rd, if_true]; rfl
    have q64 : ∀ j, aU (aU (aU (aU h 62 p (h 62 (4 + p))) 63 p (h 63 (4 + p))) 64 p (h 64 (4 + p))) 55 (48 + p) 0 64 j = if j = p then h 64 (4 + p) else h 64 j := fun j => by
      rw [aU_ne (by omega)]; simp only [aU_rd, if_true]; rfl
    have q55 : ∀ i, 52 ≤ i → aU (aU (aU (aU h 62 p (h 62 (4 + p))) 63 p (h 63 (4 + p))) 64 p (h 64 (4 + p))) 55 (48 + p) 0 55 i = h 55 i := fun i hi => by
      simp only [aU_rd, if_true]; rw [if_neg (by omega)]; rfl
    have M1 : MA (aU (aU (aU (aU h 62 p (h 62 (4 + p))) 63 p (h 63 (4 + p))) 64 p (h 64 (4 + p))) 55 (48 + p) 0) 0 (upP P p []) bt := MA_clear hP (MA_c hP (fun i _ => by rw [aU_ne (by omega), aU_ne (by omega), aU_ne (by omega)]) hM) (by omega)
    have EQ : fX8_take_L65 K (n + 1) h (nI p) = fX8_take_L124 (fun h18 => fX8_take_L65 K n (aU h18 66 p 0) (nI (p + 1))) (nI p) 1000 (aU (aU (aU (aU h 62 p (h 62 (4 + p))) 63 p (h 63 (4 + p))) 64 p (h 64 (4 + p))) 55 (48 + p) 0) 0 := by
      rw [fX8_take_L65, if_neg (show ¬ 4 ≤ nI p from nI_ge (b := 4) (by omega) (by omega)), four_i, if_pos (ck_t (by omega) (by omega)), if_pos (ck_t (by omega) (by omega)), if_pos (ck48 (by omega)), tn_nI (by omega), tn_nI (by omega), show 48 + nI p = nI (48 + p) from nI_add 48 p, tn_nI (by omega), ck_t (i := p) (n := 4) (by omega) (by omega), nI_1]
      simp only [if_true]
    rw [EQ]
    generalize aU (aU (aU (aU h 62 p (h 62 (4 + p))) 63 p (h 63 (4 + p))) 64 p (h 64 (4 + p))) 55 (48 + p) 0 = hA at qs q62 q63 q64 q55 M1
    have wf1 : wfP V4 (upP P p []) := wfP_up hP (Nat.zero_le _) (fun _ => rfl) (fun x hx => absurd hx List.not_mem_nil)
    -- the rest from the heap behind the paper
    have rest : ∀ h18 : aH, (∀ k, k ≠ 55 → h18 k = hA k) → (∀ i, 52 ≤ i → h18 55 i = hA 55 i) → MA h18 0 (upP P p (PN V Q p)) bt → ∃ h2, fX8_take_L65 K n (aU h18 66 p 0) (nI (p + 1)) = K h2 ∧ (∀ k, k ≠ 55 → k < 62 ∨ 64 < k → k ≠ 66 → h2 k = h k) ∧ (∀ i, 52 ≤ i → h2 55 i = h 55 i) ∧ MA h2 0 (fun q => if p ≤ q then PN V Q q else P q) bt ∧ (∀ q, q < p → h2 66 q = h 66 q) ∧ (∀ q, p ≤ q → q < 4 → h2 66 q = 0) := by
      intro h18 f1 f2 f3
      have wfN := PN_wf hQ
      have wf2 : wfP V4 (upP P p (PN V Q p)) := wfP_up hP (wfN p).1 (fun z => (wfN p).2.1 (by have z : 4 ≤ p := z; omega)) (fun x hx => ((wfP_4 hw wfN) p).2.2 x hx)
      obtain ⟨h2, e1, e2, e3, e4, e5, e6⟩ := m_bgL hw hQ K d (p + 1) n (aU h18 66 p 0) (upP P p (PN V Q p)) (by omega) (by omega) wf2 (fun q hq => by
        rw [aU_ne (by omega), aU_ne (by omega), aU_ne (by omega), f1 62 (by omega), f1 63 (by omega), f1 64 (by omega), q62, q63, q64, if_neg (by omega), if_neg (by omega), if_neg (by omega)]
        exact hS q hq) (by rw [aU_ne (by omega), f1 54 (by omega), qs 54 (by omega) (by omega)]; exact e16) (MA_c wf2 (fun i _ => by rw [aU_ne (by omega)]) f3)
      rw [upP_tl P (PN V Q) p] at e4
      refine ⟨h2, e1, fun k x y z => by rw [e2 k x y z, aU_ne z, f1 k x, qs k x y], fun i hi => by rw [e3 i hi, aU_ne (by omega), f2 i hi, q55 i hi], e4, fun q hq => ?_, fun q h1 h3 => ?_⟩
      · rw [e5 q (by omega)]; simp only [aU_rd, if_true]; rw [if_neg (by omega), f1 66 (by omega), qs 66 (by omega) (by omega)]
      · rcases Nat.lt_or_ge p q with z | z
        · exact e6 q z h3
        · have : q = p := by omega
          subst this
          rw [e5 q (by omega)]; simp only [aU_rd, if_true]
    by_cases g : p < V 0 5
    · obtain ⟨b1, b2, b3⟩ := hS p g
      obtain ⟨q0, q1, q2, q3⟩ := hQ p g
      obtain ⟨h18, f1, f2, f3, f4⟩ := m_bpL (a := Q 0 p) (t := Q 1 p) (len := Q 2 p) (N := V 0 5) (p := p) (by omega) g v5 (by omega) q1 q3 (fun h18 => fX8_take_L65 K n (aU h18 66 p 0) (nI (p + 1))) (min (Q 2 p) (96 - Q 1 p)) 0 1000 hA (upP P p []) (by omega) (by omega) wf1 (by rw [upP_p]; rfl) M1 (by rw [qs 54 (by omega) (by omega)]; exact e16) (by rw [q64, if_pos rfl]; exact b3) (by rw [q63, if_pos rfl]; exact b2) (by rw [q62, if_pos rfl]; exact b1)
      have eP : pgl (Q 0 p) (Q 1 p) (min (Q 2 p) (96 - Q 1 p)) = PN V Q p := by unfold PN; rw [if_pos g]; rfl
      rw [upP_up, eP] at f4
      obtain ⟨h2, r⟩ := rest h18 f2 f3 f4
      exact ⟨h2, f1.trans r.1, r.2⟩
    · have eP : PN V Q p = [] := by unfold PN; rw [if_neg g]
      obtain ⟨h2, r⟩ := rest hA (fun _ _ => rfl) (fun _ _ => rfl) (by rw [eP]; exact M1)
      refine ⟨h2, ?_, r.2⟩
      rw [fX8_take_L124, qs 54 (by omega) (by omega), e16, if_pos (nI_le (by omega) (by omega))]
      exact r.1
theorem m_take (hw : wfV V) (hQ : wfQ V Q) (hP : wfP V4 P) (hS : SV h V) (hSQ : SQ h V Q) (hM : MA h 0 P bt) : ∃ h2, fX8_take h = some h2 ∧ (∀ k, k < 54 ∨ 64 < k → k ≠ 66 → h2 k = h k) ∧ (∀ j, j = 16 ∨ 18 ≤ j → j ≠ 16 → j ≠ 25 → j ≠ 32 → h2 54 j = h 54 j) ∧ MV h2 V ∧ MA h2 0 (PN V Q) 0 ∧ h2 55 53 = h 55 53 ∧ h2 56 0 = 0 ∧ h2 56 1 = 0 ∧ h2 54 25 = 0 ∧ h2 54 32 = 0 ∧ MsM h2 (fun _ => 0) := by
  have v4 := hw.1.2.2.2.2.1
  have v3 := hw.1.2.2.2.1
  have v6 := hw.1.2.2.2.2.2.2
  obtain ⟨⟨s3, s73, s74, s75, s7, s12, s17⟩, sr, sh⟩ := hS
  obtain ⟨h5, a1, a2, a3, a4, a5⟩ := m_L10 (fun h5 => bn (fX8_takeHands (aU (aU (aU h5 54 6 (h5 54 7)) 54 11 (h5 54 12)) 54 16 (h5 54 17))) (fun h7 => fX8_take_L65 (fun h20 => some (aU (aU (aU (aU (aU h20 55 52 (-1)) 54 32 0) 54 25 0) 56 0 0) 56 1 0)) 1000 h7 0)) (aU h 54 2 (h 54 3))
  have t54 : ∀ j, j ≠ 2 → h5 54 j = h 54 j := fun j hj => by rw [a2 54 (by omega)]; simp only [aU_rd, if_true, if_neg hj]
  have t2 : h5 54 2 = nI (V 0 6) := by rw [a2 54 (by omega)]; simp only [aU_rd, if_true]; exact s3
  have to : ∀ k, k ≠ 57 → k ≠ 54 → h5 k = h k := fun k x y => by rw [a2 k x, aU_ne y]
  obtain ⟨h7, b1, b2, b3, b4⟩ := m_th (aU (aU (aU h5 54 6 (h5 54 7)) 54 11 (h5 54 12)) 54 16 (h5 54 17))
  have u54 : ∀ j, h7 54 j = if j = 16 then h 54 17 else if j = 11 then h 54 12 else if j = 6 then h 54 7 else h5 54 j := fun j => by
    rw [b2 54 (by omega)]
    simp only [aU_rd, if_true]
    rw [t54 17 (by omega), t54 12 (by omega), t54 7 (by omega)]
  have uo : ∀ k, k < 58 ∨ 61 < k → k ≠ 54 → h7 k = h5 k := fun k x y => by rw [b2 k x, aU_ne y, aU_ne y, aU_ne y]
  have us : ∀ c, 59 ≤ c → c ≤ 61 → ∀ j, j < 4 → h7 c j = h c (4 + j) := fun c x y j hj => by
    rw [b3 c x y j hj, aU_ne (by omega), aU_ne (by omega), aU_ne (by omega), to c (by omega) (by omega)]
  have ur : ∀ j, j < 8 → h7 58 j = h 58 (8 + j) := fun j hj => by
    rw [b4 j hj, aU_ne (by omega), aU_ne (by omega), aU_ne (by omega), to 58 (by omega) (by omega)]
  obtain ⟨h20, c1, c2, c3, c4, -, c6⟩ := m_bgL hw hQ (fun h20 => some (aU (aU (aU (aU (aU h20 55 52 (-1)) 54 32 0) 54 25 0) 56 0 0) 56 1 0)) 4 0 1000 h7 P (by omega) (by omega) hP (fun q hq => by
    rw [uo 62 (by omega) (by omega), uo 63 (by omega) (by omega), uo 64 (by omega) (by omega), to 62 (by omega) (by omega), to 63 (by omega) (by omega), to 64 (by omega) (by omega)]
    exact hSQ q hq) (by rw [u54]; exact s17) (MA_c hP (fun i _ => by rw [uo 55 (by omega) (by omega), to 55 (by omega) (by omega)]) hM)
  have ePN : (fun q => if 0 ≤ q then PN V Q q else P q) = PN V Q := by funext q; rw [if_pos (Nat.zero_le _)]
  rw [ePN] at c4
  have w54 : ∀ j, aU (aU (aU (aU (aU h20 55 52 (-1)) 54 32 0) 54 25 0) 56 0 0) 56 1 0 54 j = if j = 25 then 0 else if j = 32 then 0 else h7 54 j := fun j => by
    rw [aU_ne (by omega), aU_ne (by omega)]
    simp only [aU_rd, if_true]
    rw [if_neg (show ¬ 54 = 55 by omega), c2 54 (by omega) (by omega) (by omega)]
  have wo : ∀ k, k < 54 ∨ 56 < k → aU (aU (aU (aU (aU h20 55 52 (-1)) 54 32 0) 54 25 0) 56 0 0) 56 1 0 k = h20 k := fun k hk => by rw [aU_ne (by omega), aU_ne (by omega), aU_ne (by omega), aU_ne (by omega), aU_ne (by omega)]
  have w55 : aU (aU (aU (aU (aU h20 55 52 (-1)) 54 32 0) 54 25 0) 56 0 0) 56 1 0 55 = aU h20 55 52 (-1) 55 := by rw [aU_ne (by omega), aU_ne (by omega), aU_ne (by omega), aU_ne (by omega)]
  refine ⟨aU (aU (aU (aU (aU h20 55 52 (-1)) 54 32 0) 54 25 0) 56 0 0) 56 1 0, ?_, fun k x y => ?_, fun j x y z u => ?_, ⟨⟨?_, ?_, ?_, ?_, ?_, ?_, ?_⟩, fun k hk => ?_, fun a ha => ?_⟩, ?_, ?_, ?_, ?_, ?_, ?_, fun p hp => ?_⟩
  · unfold fX8_take
    have or : h 54 3 = 0 ∨ h 54 3 = 1 := by
      rw [s3]
      rcases (by omega : V 0 6 = 0 ∨ V 0 6 = 1) with z | z
      · left; rw [z]; rfl
      · right; rw [z]; rfl
    rw [if_pos or]
    refine a1.trans ?_
    show bn (fX8_takeHands (aU (aU (aU h5 54 6 (h5 54 7)) 54 11 (h5 54 12)) 54 16 (h5 54 17))) _ = _
    rw [b1, bn_s]
    exact c1
  · rw [wo k (by omega), c2 k (by omega) (by omega) y, uo k (by omega) (by omega), to k (by omega) (by omega)]
  · rw [w54, if_neg z, if_neg u, u54, if_neg y, if_neg (by omega), if_neg (by omega), t54 j (by omega)]
  · rw [w54, if_neg (by omega), if_neg (by omega), u54, if_neg (by omega), if_neg (by omega), if_neg (by omega)]; exact t2
  · rw [wo 57 (by omega), c2 57 (by omega) (by omega) (by omega), uo 57 (by omega) (by omega), a3, aU_ne (by omega)]; exact s73
  · rw [wo 57 (by omega), c2 57 (by omega) (by omega) (by omega), uo 57 (by omega) (by omega), a4, aU_ne (by omega)]; exact s74
  · rw [wo 57 (by omega), c2 57 (by omega) (by omega) (by omega), uo 57 (by omega) (by omega), a5, aU_ne (by omega)]; exact s75
  · rw [w54, if_neg (by omega), if_neg (by omega), u54, if_neg (by omega), if_neg (by omega), if_pos rfl]; exact s7
  · rw [w54, if_neg (by omega), if_neg (by omega), u54, if_neg (by omega), if_pos rfl]; exact s12
  · rw [w54, if_neg (by omega), if_neg (by omega), u54, if_pos rfl]; exact s17
  · rw [wo 58 (by omega), c2 58 (by omega) (by omega) (by omega), ur k (by omega)]; exact sr k hk
  · rw [wo 59 (by omega), wo 60 (by omega), wo 61 (by omega), c2 59 (by omega) (by omega) (by omega), c2 60 (by omega) (by omega) (by omega), c2 61 (by omega) (by omega) (by omega), us 59 (by omega) (by omega) a (by omega), us 60 (by omega) (by omega) a (by omega), us 61 (by omega) (by omega) a (by omega)]; exact sh a ha
  · exact MA_c (PN_wf hQ) (fun i _ => by rw [w55, mI_0]) (MA_bt 0 (PN_wf hQ) c4)
  · rw [w55]; simp only [aU_rd, if_true]; rw [if_neg (by omega), c3 53 (by omega), uo 55 (by omega) (by omega), to 55 (by omega) (by omega)]
  · simp [aU_rd]
  · simp [aU_rd]
  · rw [w54, if_pos rfl]
  · rw [w54, if_neg (by omega), if_pos rfl]
  · rw [wo 66 (by omega)]; exact c6 p (by omega) hp
end Begin
