/-! a call that leaves the state alone but for cells of its own -/
theorem Inv_x {h h2 : aH} (hI : Inv h) (e : ∀ k, k < 28 ∨ 35 ≤ k → k ≠ 67 → k ≠ 68 → k ≠ 69 → h2 k = h k) (e68 : ∀ j, j < 10000 → h2 68 j = 0) : Inv h2 := by
  obtain ⟨v, w, tx, ft, V, P, bt, sd, im, un, ms, bk, hC, hM, hW⟩ := hI
  have hW0 := hW
  obtain ⟨w1, w2, w3, w4, w5, w6, w7, w8, w9, w10⟩ := hW
  obtain ⟨r1, r2, r3, r4, r5, r6, r7, r8, r9⟩ := hC
  obtain ⟨m1, m2, m3, m4, m5, m6, m7, m8, m9, m10⟩ := hM
  have g : ∀ k, k < 28 → h2 k = h k := fun k hk => e k (by omega) (by omega) (by omega) (by omega)
  have g2 : ∀ k, 35 ≤ k → k < 67 → h2 k = h k := fun k a b => e k (by omega) (by omega) (by omega) (by omega)
  have g3 : ∀ k, 70 ≤ k → h2 k = h k := fun k a => e k (by omega) (by omega) (by omega) (by omega)
  have e54 := g2 54 (by omega) (by omega)
  have e55 := g2 55 (by omega) (by omega)
  refine ⟨v, w, tx, ft, V, P, bt, sd, im, un, ms, bk, ⟨?_, TxC_c (g 1 (by omega)) (g 2 (by omega)) r2, CV_c (fun k _ _ => g2 k (by omega) (by omega)) r3, CL_c (g2 _ (by omega) (by omega)) r4, CA_c (fun k _ _ => g k (by omega)) r5, ImC_c (fun k _ _ => g k (by omega)) r6, UnC_c (fun k _ _ => g k (by omega)) r7, MsC_c (g2 35 (by omega) (by omega)) r8, CB_c (fun k _ _ => g k (by omega)) r9⟩, ⟨by rw [e54]; exact m1, TxM_c (by rw [e54]) (g2 65 (by omega) (by omega)) m2, MV_c (by rw [e54]) (by rw [e54]) (by rw [e54]) (by rw [e54]) (fun k _ _ => g2 k (by omega) (by omega)) m3, MA_c w4 (fun i _ => by rw [e55]) m4, by rw [e55]; exact m5, ImM_c w7 (g2 56 (by omega) (by omega)) (fun i _ _ => by rw [e55]) m6, UnM_c w8 (by rw [e54]) (fun i _ _ => by rw [e55]) m7, MsM_c (g2 66 (by omega) (by omega)) m8, MB_c (by rw [e54]) (fun k _ _ => g3 k (by omega)) m9, e68⟩, hW0⟩
  rw [g 0 (by omega)]; exact r1
/-! which hand wrote which paper -/
def lsb (V : Vd) (L : List Lt) (a : Nat) : Nat → Bool := fun l => decide (loS V (L.getD l (0, 0, 0)) = lk V a (L.getD l (0, 0, 0)).1)
def fN (V : Vd) (P : Ps) (p a : Nat) : Nat := ct (lsb V (P p) a) (P p).length
section Fits
variable {h : aH} {v : Nat} {V : Vd} {P : Ps} {bt sd p a : Nat}
theorem c_cntL (hC : CV h v V) (hL : CL h v V) (hw : wfV V) (hP : wfP V P) (hA : CA h 3 P bt sd) (ha : a < V 0 4) (K : Int32 → Option Int32) : ∀ d l n, l + d = (P p).length → d < n → fX0_countAsBy_L13 K h 3 v (nI p) (nI a) (nI (P p).length) n (nI (ct (lsb V (P p) a) l)) (nI l) = K (nI (fN V P p a))
  | d, l, 0, _, hn => absurd hn (by omega)
  | 0, l, n + 1, hl, hn => by
    have h12 := (hP p).1
    have : l = (P p).length := by omega
    subst this
    rw [fX0_countAsBy_L13, if_pos (nI_le (by omega) (by omega))]
    rfl
  | d + 1, l, n + 1, hl, hn => by
    have h12 := (hP p).1
    have hx := getD_at (L := P p) (show l < (P p).length by omega)
    have ih := c_cntL hC hL hw hP hA ha K d (l + 1) n (by omega) (by omega)
    rw [fX0_countAsBy_L13, if_neg (nI_ge (by omega) (by omega)), c_asBy hC hL hw hP hA hx ha, bn_s]
    rw [ct_s] at ih
    show (if bi (lsb V (P p) a l) = 0 then _ else _) = _
    cases hb : lsb V (P p) a l with
    | true =>
      rw [hb, if_pos rfl] at ih
      rw [bi_it, nI_1, nI_1]; exact ih
    | false =>
      rw [hb, if_neg (by decide), Nat.add_zero] at ih
      rw [bi_if, show ∀ z : Int32, z + 0 = z from Int32.add_zero, nI_1]; exact ih
theorem c_cnt (hC : CV h v V) (hL : CL h v V) (hw : wfV V) (hP : wfP V P) (hA : CA h 3 P bt sd) (hp : p < 4) (ha : a < V 0 4) : fX0_countAsBy h 3 v (nI p) (nI a) = some (nI (fN V P p a)) := by
  unfold fX0_countAsBy
  have h12 := (hP p).1
  rw [c_count hA hp, bn_s]
  exact c_cntL hC hL hw hP hA ha (fun z => some z) (P p).length 0 1000 (by omega) (by omega)
theorem m_cntL (hV : MV h V) (hw : wfV V) (hP : wfP V P) (hM : MA h 0 P bt) (hp : p < 4) (ha : a < V 0 4) (K : Int32 → Option aH) : ∀ d l n, l + d = (P p).length → d < n → fX8_layFits_L25 K h (nI p) (nI a) n (nI (ct (lsb V (P p) a) l)) (nI l) = K (nI (fN V P p a))
  | d, l, 0, _, hn => absurd hn (by omega)
  | 0, l, n + 1, hl, hn => by
    have h12 := (hP p).1
    have : l = (P p).length := by omega
    subst this
    rw [fX8_layFits_L25, if_pos (ck48 hp), m_count hM hp, if_pos (nI_le (by omega) (by omega))]
    rfl
  | d + 1, l, n + 1, hl, hn => by
    have h12 := (hP p).1
    have hx := getD_at (L := P p) (show l < (P p).length by omega)
    have b := wfP_at hP hx
    have ih := m_cntL hV hw hP hM hp ha K d (l + 1) n (by omega) (by omega)
    have c1 := loS_le (V := V) (x := (P p).getD l (0, 0, 0))
    have c2 := lk_le (V := V) (a := a) (t := ((P p).getD l (0, 0, 0)).1)
    rw [fX8_layFits_L25, if_pos (ck48 hp), m_count hM hp, if_neg (nI_ge (by omega) (by omega)), m_lookOf hV hM hw hP hx, bn_s, m_hour hM hw hP hx, bn_s, m_look hV hw ha b.1.1, bn_s, one_t, bn_s, one_f, bn_s]
    rw [ct_s] at ih
    by_cases g : loS V ((P p).getD l (0, 0, 0)) = lk V a ((P p).getD l (0, 0, 0)).1
    · have hb : lsb V (P p) a l = true := decide_eq_true g
      rw [hb, if_pos rfl] at ih
      rw [if_pos ((nI_eq (by omega) (by omega)).mpr g), nI_1, nI_1]; exact ih
    · have hb : lsb V (P p) a l = false := decide_eq_false g
      rw [hb, if_neg (by decide), Nat.add_zero] at ih
      rw [if_neg (fun z => g ((nI_eq (by omega) (by omega)).mp z)), show ∀ z : Int32, z + 0 = z from Int32.add_zero, nI_1]; exact ih
theorem ix4 (p l : Nat) : nI p * 4 + nI l = nI (p * 4 + l) := by rw [show (4 : Int32) = nI 4 from rfl, pk_mul, nI_add]
theorem ix4' (p l : Nat) : 4 * nI p + nI l = nI (4 * p + l) := by rw [show (4 : Int32) = nI 4 from rfl, pk_mul, nI_add]
theorem c_cmpI (hw : wfV V) (hP : wfP V P) (hv : v = 36 ∨ v = 45) (hp : p < 4) (K : aH → Option aH) : ∀ d b n (h : aH), b + d = V 0 4 → d < n → CV h v V → CL h v V → CA h 3 P bt sd → ∃ h2, fX4_compare_L13 K v 3 (nI p) n h (nI b) = K h2 ∧ (∀ k, k ≠ 34 → h2 k = h k) ∧ (∀ i, i < p * 4 + b ∨ p * 4 + 4 ≤ i → h2 34 i = h 34 i) ∧ (∀ c, b ≤ c → c < V 0 4 → h2 34 (p * 4 + c) = nI (fN V P p c))
  | d, b, 0, _, _, hn, _, _, _ => absurd hn (by omega)
  | 0, b, n + 1, h, hb, hn, hC, hL, hA => by
    have w4 := hw.1.2.2.2.2.1
    refine ⟨h, ?_, fun _ _ => rfl, fun _ _ => rfl, fun c h1 h2 => by omega⟩
    rw [fX4_compare_L13, hC.1.2.2.2.2.2.1, if_pos (nI_le (by omega) (by omega))]
  | d + 1, b, n + 1, h, hb, hn, hC, hL, hA => by
    have w4 := hw.1.2.2.2.2.1
    have q : ∀ k, k ≠ 34 → aU h 34 (p * 4 + b) (nI (fN V P p b)) k = h k := fun k hk => aU_ne hk
    obtain ⟨h2, e1, e2, e3, e4⟩ := c_cmpI hw hP hv hp K d (b + 1) n (aU h 34 (p * 4 + b) (nI (fN V P p b))) (by omega) (by omega) (CV_c (fun k _ _ => q k (by omega)) hC) (CL_c (q _ (by omega)) hL) (CA_c (fun k _ _ => q k (by omega)) hA)
    refine ⟨h2, ?_, fun k hk => by rw [e2 k hk, q k hk], fun i hi => ?_, fun c h1 h3 => ?_⟩
    · rw [fX4_compare_L13, hC.1.2.2.2.2.2.1, if_neg (nI_ge (by omega) (by omega)), c_cnt hC hL hw hP hA hp (by omega), bn_s, ix4, if_pos (ck_t (by omega) (by omega)), tn_nI (by omega), nI_1]
      exact e1
    · rw [e3 i (by omega)]; simp [aU_rd, show ¬ i = p * 4 + b by omega]
    · rcases Nat.lt_or_ge b c with z | z
      · exact e4 c z h3
      · have : c = b := by omega
        subst this
        rw [e3 (p * 4 + c) (by omega)]; simp [aU_rd]
theorem c_cmpO (hw : wfV V) (hP : wfP V P) (hv : v = 36 ∨ v = 45) (K : aH → Option aH) : ∀ d p n (h : aH), p + d = V 0 5 → d < n → CV h v V → CL h v V → CA h 3 P bt sd → ∃ h2, fX4_compare_L2 K v 3 n h (nI p) = K h2 ∧ (∀ k, k ≠ 34 → h2 k = h k) ∧ (∀ i, i < p * 4 → h2 34 i = h 34 i) ∧ (∀ q, p ≤ q → q < V 0 5 → ∀ c, c < V 0 4 → h2 34 (q * 4 + c) = nI (fN V P q c))
  | d, p, 0, _, _, hn, _, _, _ => absurd hn (by omega)
  | 0, p, n + 1, h, hb, hn, hC, hL, hA => by
    have w5 := hw.1.2.2.2.2.2.1
    refine ⟨h, ?_, fun _ _ => rfl, fun _ _ => rfl, fun q h1 h2 => by omega⟩
    rw [fX4_compare_L2, hC.1.2.2.2.2.2.2, if_pos (nI_le (by omega) (by omega))]
  | d + 1, p, n + 1, h, hb, hn, hC, hL, hA => by
    have w4 := hw.1.2.2.2.2.1
    have w5 := hw.1.2.2.2.2.2.1
    obtain ⟨h1, f1, f2, f3, f4⟩ := c_cmpI hw hP hv (p := p) (by omega) (fun h6 => fX4_compare_L2 K v 3 n h6 (nI p + 1)) (V 0 4) 0 1000 h (by omega) (by omega) hC hL hA
    obtain ⟨h2, e1, e2, e3, e4⟩ := c_cmpO hw hP hv K d (p + 1) n h1 (by omega) (by omega) (CV_c (fun k _ _ => f2 k (by omega)) hC) (CL_c (f2 _ (by omega)) hL) (CA_c (fun k _ _ => f2 k (by omega)) hA)
    refine ⟨h2, ?_, fun k hk => by rw [e2 k hk, f2 k hk], fun i hi => by rw [e3 i (by omega), f3 i (by omega)], fun q h3 h4 c hc => ?_⟩
    · rw [fX4_compare_L2, hC.1.2.2.2.2.2.2, if_neg (nI_ge (by omega) (by omega))]
      refine Eq.trans f1 ?_
      show fX4_compare_L2 K v 3 n h1 (nI p + 1) = _
      rw [nI_1]; exact e1
    · rcases Nat.lt_or_ge p q with z | z
      · exact e4 q z h4 c hc
      · have : q = p := by omega
        subst this
        rw [e3 _ (by omega)]; exact f4 c (by omega) hc
theorem m_layI (hw : wfV V) (hP : wfP V P) (hp : p < 4) (K : aH → Option aH) : ∀ d b n (h : aH), b + d = V 0 4 → d < n → MV h V → MA h 0 P bt → ∃ h2, fX8_layFits_L12 K (nI p) n h (nI b) = K h2 ∧ (∀ k, k ≠ 69 → h2 k = h k) ∧ (∀ i, i < 4 * p + b ∨ 4 * p + 4 ≤ i → h2 69 i = h 69 i) ∧ (∀ c, b ≤ c → c < V 0 4 → h2 69 (4 * p + c) = nI (fN V P p c))
  | d, b, 0, _, _, hn, _, _ => absurd hn (by omega)
  | 0, b, n + 1, h, hb, hn, hV, hM => by
    have w4 := hw.1.2.2.2.2.1
    refine ⟨h, ?_, fun _ _ => rfl, fun _ _ => rfl, fun c h1 h2 => by omega⟩
    rw [fX8_layFits_L12, hV.1.2.2.2.2.2.1, if_pos (nI_le (by omega) (by omega))]
  | d + 1, b, n + 1, h, hb, hn, hV, hM => by
    have w4 := hw.1.2.2.2.2.1
    have h12 := (hP p).1
    have q : ∀ k, k ≠ 69 → aU h 69 (4 * p + b) (nI (fN V P p b)) k = h k := fun k hk => aU_ne hk
    obtain ⟨h2, e1, e2, e3, e4⟩ := m_layI hw hP hp K d (b + 1) n (aU h 69 (4 * p + b) (nI (fN V P p b))) (by omega) (by omega) (MV_c (by rw [q 54 (by omega)]) (by rw [q 54 (by omega)]) (by rw [q 54 (by omega)]) (by rw [q 54 (by omega)]) (fun k _ _ => q k (by omega)) hV) (MA_c hP (fun i _ => by rw [q 55 (by omega)]) hM)
    refine ⟨h2, ?_, fun k hk => by rw [e2 k hk, q k hk], fun i hi => ?_, fun c h1 h3 => ?_⟩
    · rw [fX8_layFits_L12, hV.1.2.2.2.2.2.1, if_neg (nI_ge (by omega) (by omega))]
      refine Eq.trans (m_cntL hV hw hP hM hp (a := b) (by omega) _ (P p).length 0 1000 (by omega) (by omega)) ?_
      show (if ck (4 * nI p + nI b) 16 = true then fX8_layFits_L12 K (nI p) n (aU h 69 (tn (4 * nI p + nI b)) (nI (fN V P p b))) (nI b + 1) else none) = _
      rw [ix4', if_pos (ck_t (by omega) (by omega)), tn_nI (by omega), nI_1]
      exact e1
    · rw [e3 i (by omega)]; simp [aU_rd, show ¬ i = 4 * p + b by omega]
    · rcases Nat.lt_or_ge b c with z | z
      · exact e4 c z h3
      · have : c = b := by omega
        subst this
        rw [e3 (4 * p + c) (by omega)]; simp [aU_rd]
theorem m_layO (hw : wfV V) (hP : wfP V P) (K : aH → Option aH) : ∀ d p n (h : aH), p + d = V 0 5 → d < n → MV h V → MA h 0 P bt → ∃ h2, fX8_layFits_L2 K n h (nI p) = K h2 ∧ (∀ k, k ≠ 69 → h2 k = h k) ∧ (∀ i, i < 4 * p → h2 69 i = h 69 i) ∧ (∀ q, p ≤ q → q < V 0 5 → ∀ c, c < V 0 4 → h2 69 (4 * q + c) = nI (fN V P q c))
  | d, p, 0, _, _, hn, _, _ => absurd hn (by omega)
  | 0, p, n + 1, h, hb, hn, hV, hM => by
    have w5 := hw.1.2.2.2.2.2.1
    refine ⟨h, ?_, fun _ _ => rfl, fun _ _ => rfl, fun q h1 h2 => by omega⟩
    rw [fX8_layFits_L2, hV.1.2.2.2.2.2.2, if_pos (nI_le (by omega) (by omega))]
  | d + 1, p, n + 1, h, hb, hn, hV, hM => by
    have w4 := hw.1.2.2.2.2.1
    have w5 := hw.1.2.2.2.2.2.1
    obtain ⟨h1, f1, f2, f3, f4⟩ := m_layI hw hP (p := p) (by omega) (fun h18 => fX8_layFits_L2 K n h18 (nI p + 1)) (V 0 4) 0 1000 h (by omega) (by omega) hV hM
    obtain ⟨h2, e1, e2, e3, e4⟩ := m_layO hw hP K d (p + 1) n h1 (by omega) (by omega) (MV_c (by rw [f2 54 (by omega)]) (by rw [f2 54 (by omega)]) (by rw [f2 54 (by omega)]) (by rw [f2 54 (by omega)]) (fun k _ _ => f2 k (by omega)) hV) (MA_c hP (fun i _ => by rw [f2 55 (by omega)]) hM)
    refine ⟨h2, ?_, fun k hk => by rw [e2 k hk, f2 k hk], fun i hi => by rw [e3 i (by omega), f3 i (by omega)], fun q h3 h4 c hc => ?_⟩
    · rw [fX8_layFits_L2, hV.1.2.2.2.2.2.2, if_neg (nI_ge (by omega) (by omega))]
      refine Eq.trans f1 ?_
      show fX8_layFits_L2 K n h1 (nI p + 1) = _
      rw [nI_1]; exact e1
    · rcases Nat.lt_or_ge p q with z | z
      · exact e4 q z h4 c hc
      · have : q = p := by omega
        subst this
        rw [e3 _ (by omega)]; exact f4 c (by omega) hc
theorem fN_le (hP : wfP V P) (p a : Nat) : fN V P p a ≤ 12 := Nat.le_trans (ct_le _ _) (hP p).1
end Fits
/-! the codes -/
def dg (N c p : Nat) : Nat := c / 4 ^ (N - 1 - p) % 4
theorem c_dg : ∀ N, N < 5 → ∀ p, p < N → ∀ c, c < 256 → fX4_handIn (nI c) (nI p) (nI N) = some (nI (dg N c p)) := by decide +kernel
theorem m_dg : ∀ N, N < 5 → ∀ p, p < N → ∀ c, c < 256 → fX8_figure (nI c) (nI N) (nI p) = some (nI (dg N c p)) := by decide +kernel
theorem dg_lt (N c p : Nat) : dg N c p < 4 := Nat.mod_lt _ (by omega)
def ga (N H : Nat) (F : Nat → Nat → Nat) : aH := fun k j => if k = 54 then (if j = 16 then nI N else nI H) else nI (F (j / 4) (j % 4))
theorem fit_d {N H c : Nat} {h g : aH} {F : Nat → Nat → Nat} (hN : N ≤ 4) (hH : H ≤ 4) (hc : c < 256) (e16 : g 54 16 = nI N) (e11 : g 54 11 = nI H) (eh : ∀ p, p < N → ∀ a, a < H → h 34 (p * 4 + a) = nI (F p a)) (eg : ∀ p, p < N → ∀ a, a < H → g 69 (4 * p + a) = nI (F p a)) (hF : ∀ p a, F p a ≤ 12) : ∀ d p n m k x2 s, p + d = N → d < n → d < m → d < k → s ≤ 12 * p →
    (fX4_likenessOf_L9 (fun z => some z) h (nI c) (nI N) (nI H) n x2 (nI s) (nI p) = some (-1) ∧ fX8_fitsBy_L7 (fun z => some z) g (nI c) m x2 (nI s) (nI p) = some (-1) ∧ fX8_fitsBy_L7 (fun z => some z) (ga N H (fun _ _ => 0)) (nI c) k x2 0 (nI p) = some (-1)) ∨
    (∃ s', s' ≤ 48 ∧ fX4_likenessOf_L9 (fun z => some z) h (nI c) (nI N) (nI H) n x2 (nI s) (nI p) = some (nI s') ∧ fX8_fitsBy_L7 (fun z => some z) g (nI c) m x2 (nI s) (nI p) = some (nI s') ∧ fX8_fitsBy_L7 (fun z => some z) (ga N H (fun _ _ => 0)) (nI c) k x2 0 (nI p) = some 0)
  | d, p, 0, m, k, x2, s, _, h1, _, _, _ => absurd h1 (by omega)
  | d, p, n, 0, k, x2, s, _, _, h1, _, _ => absurd h1 (by omega)
  | d, p, n, m, 0, x2, s, _, _, _, h1, _ => absurd h1 (by omega)
  | 0, p, n + 1, m + 1, k + 1, x2, s, hp, _, _, _, hs => by
    right
    refine ⟨s, by omega, ?_, ?_, ?_⟩
    · rw [fX4_likenessOf_L9, if_pos (nI_le (by omega) (by omega))]
    · rw [fX8_fitsBy_L7, e16, if_pos (nI_le (by omega) (by omega))]
    · rw [fX8_fitsBy_L7, show ga N H (fun _ _ => 0) 54 16 = nI N from rfl, if_pos (nI_le (by omega) (by omega))]
  | d + 1, p, n + 1, m + 1, k + 1, x2, s, hp, h1, h2, h3, hs => by
    have hd := dg_lt N c p
    have E9 := fX4_likenessOf_L9.eq_2 (fun z => some z) h (nI c) (nI N) (nI H) x2 (nI s) (nI p) n
    have E7 := fX8_fitsBy_L7.eq_2 (fun z => some z) g (nI c) x2 (nI s) (nI p) m
    have Ez := fX8_fitsBy_L7.eq_2 (fun z => some z) (ga N H (fun _ _ => 0)) (nI c) x2 0 (nI p) k
    rw [if_neg (nI_ge (by omega) (by omega)), c_dg N (by omega) p (by omega) c hc, bn_s] at E9
    rw [e16, if_neg (nI_ge (by omega) (by omega)), m_dg N (by omega) p (by omega) c hc, bn_s, e11] at E7
    rw [show ga N H (fun _ _ => 0) 54 16 = nI N from rfl, if_neg (nI_ge (by omega) (by omega)), m_dg N (by omega) p (by omega) c hc, bn_s, show ga N H (fun _ _ => 0) 54 11 = nI H from rfl] at Ez
    rw [E9, E7, Ez]
    by_cases g1 : H ≤ dg N c p
    · left
      have gg := nI_le g1 (by omega)
      rw [if_pos gg, if_pos gg, if_pos gg]
      exact ⟨rfl, rfl, rfl⟩
    · have gg := nI_ge (a := dg N c p) (b := H) (by omega) (by omega)
      rw [if_neg gg, if_neg gg, if_neg gg]
      unfold fX8_has
      by_cases g2 : (x2 >>> (nI (dg N c p) &&& 31)) &&& 1 = 1
      · left
        rw [if_pos g2, if_pos g2]
        exact ⟨rfl, rfl, rfl⟩
      · have bF := hF p (dg N c p)
        rw [if_neg g2, if_neg g2, bn_s, bi_if, bn_s, bi_if, ix4, ix4', if_pos (ck_t (by omega) (by omega)), if_pos (ck_t (by omega) (by omega)), tn_nI (by omega), tn_nI (by omega), eh p (by omega) _ (by omega), eg p (by omega) _ (by omega), nI_add, nI_1, show ga N H (fun _ _ => 0) 69 (4 * p + dg N c p) = 0 from rfl, show (0 : Int32) + 0 = 0 from rfl, if_pos (ck_t (by omega) (by omega))]
        exact fit_d hN hH hc e16 e11 eh eg hF d (p + 1) n m k _ (s + F p (dg N c p)) (by omega) (by omega) (by omega) (by omega) (by omega)
def hcF (F : Nat → Nat → Nat) : aH := fun _ j => nI (F (j / 4) (j % 4))
def Rv (N H : Nat) (F : Nat → Nat → Nat) (c : Nat) : Int32 := (fX8_fitsBy (ga N H F) (nI c)).getD 0
section Codes
variable {N H c : Nat} {h g : aH} {F : Nat → Nat → Nat}
theorem ga_e (hH : H ≤ 4) : ∀ p, p < N → ∀ a, a < H → ga N H F 69 (4 * p + a) = nI (F p a) := by
  intro p _ a ha
  show nI (F ((4 * p + a) / 4) ((4 * p + a) % 4)) = _
  rw [show (4 * p + a) / 4 = p by omega, show (4 * p + a) % 4 = a by omega]
theorem c_fit (hN : N ≤ 4) (hH : H ≤ 4) (hc : c < 256) (eh : ∀ p, p < N → ∀ a, a < H → h 34 (p * 4 + a) = nI (F p a)) (hF : ∀ p a, F p a ≤ 12) : fX4_likenessOf h (nI c) (nI N) (nI H) = some (Rv N H F c) := by
  rcases fit_d (g := ga N H F) hN hH hc rfl rfl eh (ga_e hH) hF N 0 1000 1000 1000 0 0 (by omega) (by omega) (by omega) (by omega) (by omega) with ⟨e1, e2, e3⟩ | ⟨s, _, e1, e2, e3⟩
  · refine Eq.trans e1 ?_
    unfold Rv
    rw [show fX8_fitsBy (ga N H F) (nI c) = some (-1) from e2]; rfl
  · refine Eq.trans e1 ?_
    unfold Rv
    rw [show fX8_fitsBy (ga N H F) (nI c) = some (nI s) from e2]; rfl
theorem m_fit (hN : N ≤ 4) (hH : H ≤ 4) (hc : c < 256) (e16 : g 54 16 = nI N) (e11 : g 54 11 = nI H) (eg : ∀ p, p < N → ∀ a, a < H → g 69 (4 * p + a) = nI (F p a)) (hF : ∀ p a, F p a ≤ 12) : fX8_fitsBy g (nI c) = some (Rv N H F c) := by
  have eh : ∀ p, p < N → ∀ a, a < H → hcF F 34 (p * 4 + a) = nI (F p a) := by
    intro p _ a ha
    show nI (F ((p * 4 + a) / 4) ((p * 4 + a) % 4)) = _
    rw [show (p * 4 + a) / 4 = p by omega, show (p * 4 + a) % 4 = a by omega]
  have h1 := c_fit hN hH hc eh hF
  rcases fit_d (g := g) hN hH hc e16 e11 eh eg hF N 0 1000 1000 1000 0 0 (by omega) (by omega) (by omega) (by omega) (by omega) with ⟨e1, e2, e3⟩ | ⟨s, _, e1, e2, e3⟩
  · rw [show fX8_fitsBy g (nI c) = some (-1) from e2, ← h1]; exact e1.symm
  · rw [show fX8_fitsBy g (nI c) = some (nI s) from e2, ← h1]; exact e1.symm
theorem Rv_d (hN : N ≤ 4) (hH : H ≤ 4) (hc : c < 256) (hF : ∀ p a, F p a ≤ 12) : (Rv N H F c = -1 ∧ fX8_fitsBy (ga N H (fun _ _ => 0)) (nI c) = some (-1)) ∨ (∃ s, s ≤ 48 ∧ Rv N H F c = nI s ∧ fX8_fitsBy (ga N H (fun _ _ => 0)) (nI c) = some 0) := by
  have eh : ∀ p, p < N → ∀ a, a < H → hcF F 34 (p * 4 + a) = nI (F p a) := by
    intro p _ a ha
    show nI (F ((p * 4 + a) / 4) ((p * 4 + a) % 4)) = _
    rw [show (p * 4 + a) / 4 = p by omega, show (p * 4 + a) % 4 = a by omega]
  rcases fit_d (g := ga N H F) hN hH hc rfl rfl eh (ga_e hH) hF N 0 1000 1000 1000 0 0 (by omega) (by omega) (by omega) (by omega) (by omega) with ⟨e1, e2, e3⟩ | ⟨s, hs, e1, e2, e3⟩
  · left
    refine ⟨?_, e3⟩
    unfold Rv
    rw [show fX8_fitsBy (ga N H F) (nI c) = some (-1) from e2]; rfl
  · right
    refine ⟨s, hs, ?_, e3⟩
    unfold Rv
    rw [show fX8_fitsBy (ga N H F) (nI c) = some (nI s) from e2]; rfl
end Codes
theorem pig : ∀ N, N < 5 → ∀ H, H < N → ∀ c, c < 256 → fX8_fitsBy (ga N H (fun _ _ => 0)) (nI c) = some (-1) := by decide +kernel
def idc (N : Nat) : Nat := if N = 2 then 1 else if N = 3 then 6 else if N = 4 then 27 else 0
theorem idn : ∀ N, N < 5 → ∀ H, H < 5 → N ≤ H → fX8_fitsBy (ga N H (fun _ _ => 0)) (nI (idc N)) = some 0 := by decide +kernel
theorem idc_lt : ∀ N, N < 5 → idc N < 4 ^ N ∧ 4 ^ N ≤ 256 := by decide +kernel
theorem shN : ∀ N, N < 5 → (1 : Int32) <<< ((2 * nI N) &&& 31) = nI (4 ^ N) := by decide +kernel
def bs (R : Nat → Int32) : Nat → Nat → Int32 → Int32 → Int32 × Int32
  | 0, _, mo, be => (mo, be)
  | d + 1, c, mo, be => if R c ≤ mo then bs R d (c + 1) mo be else bs R d (c + 1) (R c) (nI c)
theorem bs_1 (R : Nat → Int32) : ∀ d c mo be be2, (bs R d c mo be).1 = (bs R d c mo be2).1
  | 0, _, _, _, _ => rfl
  | d + 1, c, mo, be, be2 => by
    unfold bs
    by_cases g : R c ≤ mo
    · rw [if_pos g, if_pos g]; exact bs_1 R d (c + 1) mo be be2
    · rw [if_neg g, if_neg g]
theorem bs_n (R : Nat → Int32) : ∀ d c mo k, k < c → ∃ j, j < c + d ∧ (bs R d c mo (nI k)).2 = nI j
  | 0, c, mo, k, hk => ⟨k, hk, rfl⟩
  | d + 1, c, mo, k, hk => by
    unfold bs
    by_cases g : R c ≤ mo
    · rw [if_pos g]
      obtain ⟨j, h1, h2⟩ := bs_n R d (c + 1) mo k (by omega)
      exact ⟨j, by omega, h2⟩
    · rw [if_neg g]
      obtain ⟨j, h1, h2⟩ := bs_n R d (c + 1) (R c) c (by omega)
      exact ⟨j, by omega, h2⟩
theorem bs_hit (R : Nat → Int32) : ∀ d c mo be be2, (∃ j, c ≤ j ∧ j < c + d ∧ ¬ R j ≤ mo) → ∃ k, k < c + d ∧ (bs R d c mo be).2 = nI k ∧ (bs R d c mo be2).2 = nI k
  | 0, c, mo, be, be2, ⟨j, h1, h2, _⟩ => absurd h1 (by omega)
  | d + 1, c, mo, be, be2, ⟨j, h1, h2, h3⟩ => by
    unfold bs
    by_cases g : R c ≤ mo
    · rw [if_pos g, if_pos g]
      have : c ≠ j := fun z => h3 (z ▸ g)
      obtain ⟨k, k1, k2⟩ := bs_hit R d (c + 1) mo be be2 ⟨j, by omega, by omega, h3⟩
      exact ⟨k, by omega, k2⟩
    · rw [if_neg g, if_neg g]
      obtain ⟨k, k1, k2⟩ := bs_n R d (c + 1) (R c) c (by omega)
      exact ⟨k, by omega, k2, k2⟩
theorem bs_no (R : Nat → Int32) : ∀ d c mo be, (∀ j, c ≤ j → j < c + d → R j ≤ mo) → bs R d c mo be = (mo, be)
  | 0, _, _, _, _ => rfl
  | d + 1, c, mo, be, H => by
    unfold bs
    rw [if_pos (H c (by omega) (by omega))]
    exact bs_no R d (c + 1) mo be (fun j h1 h2 => H j (by omega) (by omega))
theorem c_srchL {N H : Nat} {F : Nat → Nat → Nat} (hN : N ≤ 4) (hH : H ≤ 4) (hF : ∀ p a, F p a ≤ 12) (K : aH → Option aH) : ∀ d c n (h : aH), c + d = 4 ^ N → d < n → (∀ p, p < N → ∀ a, a < H → h 34 (p * 4 + a) = nI (F p a)) → ∃ h2, fX4_search_L23 K (nI N) (nI H) (nI (4 ^ N)) n h (nI c) = K h2 ∧ (∀ k, k ≠ 33 → h2 k = h k) ∧ h2 33 1 = (bs (Rv N H F) d c (h 33 1) (h 33 2)).1 ∧ h2 33 2 = (bs (Rv N H F) d c (h 33 1) (h 33 2)).2
  | d, c, 0, _, _, hn, _ => absurd hn (by omega)
  | 0, c, n + 1, h, hc, hn, eh => by
    have q := idc_lt N (by omega)
    refine ⟨h, ?_, fun _ _ => rfl, rfl, rfl⟩
    rw [fX4_search_L23, if_pos (nI_le (by omega) (by omega))]
  | d + 1, c, n + 1, h, hc, hn, eh => by
    have q := idc_lt N (by omega)
    rw [fX4_search_L23, if_neg (nI_ge (by omega) (by omega)), c_fit hN hH (by omega) eh hF, bn_s, nI_1]
    unfold bs
    by_cases g : Rv N H F c ≤ h 33 1
    · rw [if_pos g, if_pos g]
      exact c_srchL hN hH hF K d (c + 1) n h (by omega) (by omega) eh
    · rw [if_neg g, if_neg g]
      obtain ⟨h2, e1, e2, e3, e4⟩ := c_srchL hN hH hF K d (c + 1) n (aU (aU h 33 1 (Rv N H F c)) 33 2 (nI c)) (by omega) (by omega) (fun p hp a ha => by rw [aU_ne (by omega), aU_ne (by omega)]; exact eh p hp a ha)
      rw [show aU (aU h 33 1 (Rv N H F c)) 33 2 (nI c) 33 1 = Rv N H F c by simp [aU_rd], show aU (aU h 33 1 (Rv N H F c)) 33 2 (nI c) 33 2 = nI c by simp [aU_rd]] at e3 e4
      exact ⟨h2, e1, fun k hk => by rw [e2 k hk, aU_ne hk, aU_ne hk], e3, e4⟩
theorem m_srchL {N H : Nat} {F : Nat → Nat → Nat} {g : aH} (hN : N ≤ 4) (hH : H ≤ 4) (hF : ∀ p a, F p a ≤ 12) (e16 : g 54 16 = nI N) (e11 : g 54 11 = nI H) (eg : ∀ p, p < N → ∀ a, a < H → g 69 (4 * p + a) = nI (F p a)) (x : Int32) (K : Int32 → Int32 → Option (Int32 × aH)) : ∀ d c n mo be, c + d = 4 ^ N → d < n → fX8_hands_L27 K g x n be mo (nI c) = K (bs (Rv N H F) d c mo be).2 (bs (Rv N H F) d c mo be).1
  | d, c, 0, _, _, _, hn => absurd hn (by omega)
  | 0, c, n + 1, mo, be, hc, hn => by
    have q := idc_lt N (by omega)
    rw [fX8_hands_L27, e16, shN N (by omega), if_pos (nI_le (by omega) (by omega))]
    rfl
  | d + 1, c, n + 1, mo, be, hc, hn => by
    have q := idc_lt N (by omega)
    rw [fX8_hands_L27, e16, shN N (by omega), if_neg (nI_ge (by omega) (by omega)), m_fit hN hH (by omega) e16 e11 eg hF, bn_s, nI_1]
    unfold bs
    by_cases g : Rv N H F c ≤ mo
    · rw [if_pos g, if_pos g]
      exact m_srchL hN hH hF e16 e11 eg x K d (c + 1) n mo be (by omega) (by omega)
    · rw [if_neg g, if_neg g]
      exact m_srchL hN hH hF e16 e11 eg x K d (c + 1) n _ _ (by omega) (by omega)
section OpHands
variable {h : aH} {v w : Nat} {tx : List Nat} {ft : Int32} {V : Vd} {P : Ps} {bt sd : Nat} {im : Im} {un : Un} {ms : Nat → Nat} {bk : Bk}
theorem c_search {N H : Nat} {F : Nat → Nat → Nat} (hN : N ≤ 4) (hH : H ≤ 4) (hF : ∀ p a, F p a ≤ 12) (eh : ∀ p, p < N → ∀ a, a < H → h 34 (p * 4 + a) = nI (F p a)) : ∃ h2, fX4_search h (nI N) (nI H) = some h2 ∧ (∀ k, k ≠ 33 → h2 k = h k) ∧ h2 33 1 = (bs (Rv N H F) (4 ^ N) 0 (-1) 0).1 ∧ h2 33 2 = (bs (Rv N H F) (4 ^ N) 0 (-1) 0).2 := by
  have q := idc_lt N (by omega)
  obtain ⟨h2, e1, e2, e3, e4⟩ := c_srchL hN hH hF (fun h => some h) (4 ^ N) 0 1000 (aU (aU h 33 1 (-1)) 33 2 0) (by omega) (by omega) (fun p hp a ha => by rw [aU_ne (by omega), aU_ne (by omega)]; exact eh p hp a ha)
  rw [show aU (aU h 33 1 (-1)) 33 2 0 33 1 = -1 by simp [aU_rd], show aU (aU h 33 1 (-1)) 33 2 0 33 2 = 0 by simp [aU_rd]] at e3 e4
  refine ⟨h2, ?_, fun k hk => by rw [e2 k hk, aU_ne hk, aU_ne hk], e3, e4⟩
  unfold fX4_search
  have em : (if nI N < 4 then nI N else 4) = nI N := by
    by_cases g : N < 4
    · rw [if_pos (show nI N < 4 from nI_lt (b := 4) g (by omega))]
    · rw [if_neg (show ¬ nI N < 4 from nI_nlt (b := 4) (by omega) (by omega)), show N = 4 by omega]; rfl
  rw [em, shN N (by omega)]
  exact e1
theorem op_hands (hC : RC h v w tx ft V P bt sd im un ms bk) (hM : RM h tx ft V P bt sd im un ms bk) (hW : WF v w tx V P bt sd im un ms bk) (x : Int32) : Ok2 h (fun h => fX7_hands h x) (fun h => fX8_hands h x) := by
  have hI : Inv h := ⟨v, w, tx, ft, V, P, bt, sd, im, un, ms, bk, hC, hM, hW⟩
  obtain ⟨hv, hCV, hCL, hCA, hMV, hMA, hwV, hwP⟩ := RD_of hC hM hW
  have hW0 := hW
  have hM0 := hM
  obtain ⟨w1, w2, w3, w4, w5, w6, w7, w8, w9, w10⟩ := hW
  have hv36 : v = 36 ∨ v = 45 := by omega
  have v4 := w3.1.2.2.2.2.1
  have v5 := w3.1.2.2.2.2.2.1
  have c5 : h v 5 = nI (V 0 4) := hCV.1.2.2.2.2.2.1
  have c6 : h v 6 = nI (V 0 5) := hCV.1.2.2.2.2.2.2
  have d5 : h 54 11 = nI (V 0 4) := hMV.1.2.2.2.2.2.1
  have d6 : h 54 16 = nI (V 0 5) := hMV.1.2.2.2.2.2.2
  have m10 := hM0.2.2.2.2.2.2.2.2.2
  have hF := fN_le hwP
  have q4 := idc_lt (V 0 5) (by omega)
  by_cases gx : x = -1 ∨ ck x (V 0 5) = true
  · by_cases gN : V 0 5 ≤ V 0 4
    · -- enough hands
      obtain ⟨h1, a1, a2, -, a4⟩ := c_cmpO w3 hwP hv36 (fun h => some h) (V 0 5) 0 1000 h (by omega) (by omega) hCV hCL hCA
      obtain ⟨h2, b1, b2, b3, b4⟩ := c_search (h := h1) v5 v4 hF (fun p hp a ha => a4 p (by omega) hp a ha)
      have q2 : ∀ k, k ≠ 33 → k ≠ 34 → h2 k = h k := fun k x y => by rw [b2 k x, a2 k y]
      have qm : ∀ k, 54 ≤ k → h2 k = h k := fun k hk => q2 k (by omega) (by omega)
      obtain ⟨n1, n2, n3, n4, -⟩ := RM_c hW0 qm hM0
      obtain ⟨h3, f1, f2, -, f4⟩ := m_layO w3 hwP (fun h => some h) (V 0 5) 0 1000 h2 (by omega) (by omega) n3 n4
      have p16 : h3 54 16 = nI (V 0 5) := by rw [f2 54 (by omega), qm 54 (by omega), d6]
      have p11 : h3 54 11 = nI (V 0 4) := by rw [f2 54 (by omega), qm 54 (by omega), d5]
      have ms := fun K => m_srchL (F := fN V P) v5 v4 hF p16 p11 (fun p hp a ha => f4 p (by omega) hp a ha) x K (4 ^ V 0 5) 0 1000 (-1) (-1) (by omega) (by omega)
      have hit : ∃ j, 0 ≤ j ∧ j < 0 + 4 ^ V 0 5 ∧ ¬ Rv (V 0 5) (V 0 4) (fN V P) j ≤ -1 := by
        refine ⟨idc (V 0 5), by omega, by omega, ?_⟩
        rcases Rv_d (N := V 0 5) (H := V 0 4) (c := idc (V 0 5)) v5 v4 (by omega) hF with ⟨z1, z2⟩ | ⟨s, s1, s2, _⟩
        · rw [idn (V 0 5) (by omega) (V 0 4) (by omega) gN] at z2
          exact absurd z2 (by decide)
        · rw [s2, fa_le, nI_toInt (by omega)]
          show ¬ (s : Int) ≤ -1
          omega
      obtain ⟨kb, k1, k2, k3⟩ := bs_hit (Rv (V 0 5) (V 0 4) (fN V P)) (4 ^ V 0 5) 0 (-1) 0 (-1) hit
      have Inv3 : Inv h3 := Inv_x hI (fun k x y z u => by rw [f2 k u, q2 k (by omega) (by omega)]) (fun j hj => by rw [f2 68 (by omega), q2 68 (by omega) (by omega)]; exact m10 j hj)
      have hv1 : vl (h1 0 9) = some v := by rw [a2 0 (by omega)]; exact hv
      have hv2 : vl (h2 0 9) = some v := by rw [q2 0 (by omega) (by omega)]; exact hv
      have b1' : fX4_search h1 (h1 v 6) (h1 v 5) = some h2 := by rw [a2 v (by omega), c6, c5]; exact b1
      by_cases z : x = -1
      · refine ⟨(bs (Rv (V 0 5) (V 0 4) (fN V P)) (4 ^ V 0 5) 0 (-1) 0).1, h2, h3, ?_, ?_, Inv3⟩
        · show fX7_hands h x = _
          unfold fX7_hands
          rw [if_pos z, hv, bn_s, c6, c5, if_pos (nI_le gN (by omega)), show fX4_compare h v 3 = some h1 from a1, bn_s, hv1, bn_s, b1', bn_s, b3]
        · show fX8_hands h2 x = _
          unfold fX8_hands
          rw [if_pos z, show fX8_layFits h2 = some h3 from f1, bn_s]
          refine Eq.trans (ms _) ?_
          rw [bs_1 _ _ _ _ (-1) 0]
      · have z2 : ck x (V 0 5) = true := by rcases gx with y | y; exact absurd y z; exact y
        obtain ⟨p, hp, rfl⟩ := ck_of (by omega) z2
        refine ⟨nI (dg (V 0 5) kb p), h2, h3, ?_, ?_, Inv3⟩
        · show fX7_hands h (nI p) = _
          unfold fX7_hands fX4_handOf
          rw [if_neg z, hv, bn_s, c_hasPaper hCV hwV, bn_s, z2, bi_it, c6, c5, if_pos (nI_le gN (by omega)), show fX4_compare h v 3 = some h1 from a1, bn_s, hv1, bn_s, b1', bn_s, hv2, bn_s, b4, k2, q2 v (by omega) (by omega), c6, c_dg _ (by omega) p hp kb (by omega)]
          rfl
        · show fX8_hands h2 (nI p) = _
          unfold fX8_hands
          rw [if_neg z, m_isPaper n3 hwV, bn_s, z2, bi_it, show fX8_layFits h2 = some h3 from f1, bn_s]
          refine Eq.trans (ms _) ?_
          rw [k3, if_pos (nI_pos' (by omega)), p16, m_dg _ (by omega) p hp kb (by omega)]
          rfl
    · -- more papers than hands
      obtain ⟨h3, f1, f2, -, f4⟩ := m_layO w3 hwP (fun h => some h) (V 0 5) 0 1000 h (by omega) (by omega) hMV hMA
      have p16 : h3 54 16 = nI (V 0 5) := by rw [f2 54 (by omega), d6]
      have p11 : h3 54 11 = nI (V 0 4) := by rw [f2 54 (by omega), d5]
      have ms := fun K => m_srchL (F := fN V P) v5 v4 hF p16 p11 (fun p hp a ha => f4 p (by omega) hp a ha) x K (4 ^ V 0 5) 0 1000 (-1) (-1) (by omega) (by omega)
      have no : bs (Rv (V 0 5) (V 0 4) (fN V P)) (4 ^ V 0 5) 0 (-1) (-1) = (-1, -1) := by
        refine bs_no _ _ _ _ _ (fun j h1 h2 => ?_)
        rcases Rv_d (N := V 0 5) (H := V 0 4) (c := j) v5 v4 (by omega) hF with ⟨z1, z2⟩ | ⟨s, s1, s2, s3⟩
        · rw [z1]; exact Int32.le_refl _
        · rw [pig (V 0 5) (by omega) (V 0 4) (by omega) j (by omega)] at s3
          exact absurd s3 (by decide)
      have Inv3 : Inv h3 := Inv_x hI (fun k x y z u => f2 k u) (fun j hj => by rw [f2 68 (by omega)]; exact m10 j hj)
      by_cases z : x = -1
      · refine ⟨-1, h, h3, ?_, ?_, Inv3⟩
        · show fX7_hands h x = _
          unfold fX7_hands
          rw [if_pos z, hv, bn_s, c6, c5, if_neg (nI_ge (by omega) (by omega))]
        · show fX8_hands h x = _
          unfold fX8_hands
          rw [if_pos z, show fX8_layFits h = some h3 from f1, bn_s]
          refine Eq.trans (ms _) ?_
          rw [no]
      · have z2 : ck x (V 0 5) = true := by rcases gx with y | y; exact absurd y z; exact y
        refine ⟨-1, h, h3, ?_, ?_, Inv3⟩
        · show fX7_hands h x = _
          unfold fX7_hands
          rw [if_neg z, hv, bn_s, c_hasPaper hCV hwV, bn_s, z2, bi_it, c6, c5, if_neg (nI_ge (by omega) (by omega))]
        · show fX8_hands h x = _
          unfold fX8_hands
          rw [if_neg z, m_isPaper hMV hwV, bn_s, z2, bi_it, show fX8_layFits h = some h3 from f1, bn_s]
          refine Eq.trans (ms _) ?_
          rw [no]
          rfl
  · have z1 : ¬ x = -1 := fun z => gx (Or.inl z)
    have z2 : ck x (V 0 5) = false := by cases hc : ck x (V 0 5) with | false => rfl | true => exact absurd (Or.inr hc) gx
    refine Ok2_same (r := -1000000001) hI ?_ ?_
    · show fX7_hands h x = _
      unfold fX7_hands; rw [if_neg z1, hv, bn_s, c_hasPaper hCV hwV, bn_s, z2]; rfl
    · show fX8_hands h x = _
      unfold fX8_hands; rw [if_neg z1, m_isPaper hMV hwV, bn_s, z2]; rfl
end OpHands
