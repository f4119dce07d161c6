/-! reading the text: blanks and numbers, both sides -/
def chr (tx : List Nat) (i : Nat) : Int32 := if i < tx.length then nI (tx.getD i 999) else -1
def CR (h : aH) (tx : List Nat) (i fk : Nat) (fp : Int32) : Prop := TxC h tx ∧ h 1 2 = nI i ∧ h 1 3 = nI fk ∧ h 1 4 = fp
def MR (h : aH) (tx : List Nat) (i fk : Nat) (fp : Int32) : Prop := TxM h tx ∧ h 54 20 = nI i ∧ h 54 22 = nI fk ∧ h 54 23 = fp
/-! blanks -/
def skd (tx : List Nat) : Nat → Nat → Nat
  | 0, i => i
  | d + 1, i => if tx.getD i 999 = 32 then skd tx d (i + 1) else i
theorem skd_s (tx : List Nat) (d i : Nat) : skd tx (d + 1) i = if tx.getD i 999 = 32 then skd tx d (i + 1) else i := rfl
theorem skd_b (tx : List Nat) : ∀ d i, i ≤ skd tx d i ∧ skd tx d i ≤ i + d
  | 0, i => ⟨Nat.le_refl i, Nat.le_refl i⟩
  | d + 1, i => by
    rw [skd_s]
    by_cases g : tx.getD i 999 = 32
    · rw [if_pos g]
      have := skd_b tx d (i + 1)
      omega
    · rw [if_neg g]; omega
theorem skd_n (tx : List Nat) : ∀ d i, skd tx d i < i + d → ¬ tx.getD (skd tx d i) 999 = 32
  | 0, i, h => absurd h (by show ¬ i < i + 0; omega)
  | d + 1, i, h => by
    rw [skd_s] at h ⊢
    by_cases g : tx.getD i 999 = 32
    · rw [if_pos g] at h ⊢
      exact skd_n tx d (i + 1) (by omega)
    · rw [if_neg g]; exact g
def sk (tx : List Nat) (i : Nat) : Nat := skd tx (tx.length - i) i
theorem sk_b {tx : List Nat} {i : Nat} (hi : i ≤ tx.length) : i ≤ sk tx i ∧ sk tx i ≤ tx.length := by
  have := skd_b tx (tx.length - i) i
  unfold sk; omega
theorem sk_n {tx : List Nat} {i : Nat} (hi : i ≤ tx.length) (h : sk tx i < tx.length) : ¬ tx.getD (sk tx i) 999 = 32 := skd_n tx _ i (by unfold sk at h; omega)
theorem sk_id {tx : List Nat} {i : Nat} (h : ¬ tx.getD i 999 = 32) : sk tx i = i := by
  unfold sk
  cases tx.length - i with
  | zero => rfl
  | succ d => rw [skd_s, if_neg h]
theorem sk_sk {tx : List Nat} {i : Nat} (hi : i ≤ tx.length) : sk tx (sk tx i) = sk tx i := by
  have b := sk_b hi
  rcases Nat.lt_or_ge (sk tx i) tx.length with g | g
  · exact sk_id (sk_n hi g)
  · have : sk tx i = tx.length := by omega
    rw [this]
    unfold sk
    rw [Nat.sub_self]
    rfl
def JJ (hc hm : aH) (tx : List Nat) (i1 i2 fk : Nat) (fp : Int32) : Prop := CR hc tx i1 fk fp ∧ MR hm tx i2 fk fp ∧ i1 ≤ tx.length ∧ i2 ≤ tx.length ∧ (fk = 0 → sk tx i1 = sk tx i2) ∧ fk ≤ 3
def Fc1 (h h2 : aH) : Prop := ∀ k, k ≠ 1 → h2 k = h k
def Fm1 (h h2 : aH) : Prop := (∀ k, k ≠ 54 → h2 k = h k) ∧ ∀ j, j < 20 ∨ 23 < j → h2 54 j = h 54 j
theorem Fc1_t {h h2 h3 : aH} (a : Fc1 h h2) (b : Fc1 h2 h3) : Fc1 h h3 := fun k hk => by rw [b k hk, a k hk]
theorem Fm1_t {h h2 h3 : aH} (a : Fm1 h h2) (b : Fm1 h2 h3) : Fm1 h h3 := ⟨fun k hk => by rw [b.1 k hk, a.1 k hk], fun j hj => by rw [b.2 j hj, a.2 j hj]⟩
theorem Fc1_r (h : aH) : Fc1 h h := fun _ _ => rfl
theorem Fm1_r (h : aH) : Fm1 h h := ⟨fun _ _ => rfl, fun _ _ => rfl⟩
theorem getT {L : List Nat} {i : Nat} (hi : i < L.length) : L[i]? = some (L.getD i 999) := by
  rw [List.getD_eq_getElem?_getD, List.getElem?_eq_getElem hi]; rfl
theorem getT_o {L : List Nat} {i : Nat} (hi : L.length ≤ i) : L.getD i 999 = 999 := by
  rw [List.getD_eq_getElem?_getD, List.getElem?_eq_none hi]; rfl
theorem getT_le {tx : List Nat} (hT : wfT tx) (i : Nat) : tx.getD i 999 ≤ 999 := by
  rcases Nat.lt_or_ge i tx.length with g | g
  · have := hT.2 _ (List.mem_of_getElem? (getT g)); omega
  · rw [getT_o g]; omega
theorem CR_at {h : aH} {tx : List Nat} {i fk : Nat} {fp : Int32} (H : CR h tx i fk fp) (j : Nat) : CR (aU h 1 2 (nI j)) tx j fk fp := by
  obtain ⟨⟨a1, a2⟩, b, c, d⟩ := H
  refine ⟨⟨by simp [aU_rd, a1], fun k x hx => by rw [aU_ne (by omega)]; exact a2 k x hx⟩, by simp [aU_rd], by simp [aU_rd, c], by simp [aU_rd, d]⟩
theorem MR_at {h : aH} {tx : List Nat} {i fk : Nat} {fp : Int32} (H : MR h tx i fk fp) (j : Nat) : MR (aU h 54 20 (nI j)) tx j fk fp := by
  obtain ⟨⟨a1, a2⟩, b, c, d⟩ := H
  refine ⟨⟨by simp [aU_rd, a1], fun k x hx => by rw [aU_ne (by omega)]; exact a2 k x hx⟩, by simp [aU_rd], by simp [aU_rd, c], by simp [aU_rd, d]⟩
theorem CR_f {h : aH} {tx : List Nat} {i fk : Nat} {fp : Int32} (H : CR h tx i fk fp) (k : Nat) (q : Int32) : CR (aU (aU h 1 3 (nI k)) 1 4 q) tx i k q := by
  obtain ⟨⟨a1, a2⟩, b, c, d⟩ := H
  refine ⟨⟨by simp [aU_rd, a1], fun k x hx => by rw [aU_ne (by omega), aU_ne (by omega)]; exact a2 k x hx⟩, by simp [aU_rd, b], by simp [aU_rd], by simp [aU_rd]⟩
theorem MR_f {h : aH} {tx : List Nat} {i fk : Nat} {fp : Int32} (H : MR h tx i fk fp) (k : Nat) (q : Int32) : MR (aU (aU h 54 22 (nI k)) 54 23 q) tx i k q := by
  obtain ⟨⟨a1, a2⟩, b, c, d⟩ := H
  refine ⟨⟨by simp [aU_rd, a1], fun k x hx => by rw [aU_ne (by omega), aU_ne (by omega)]; exact a2 k x hx⟩, by simp [aU_rd, b], by simp [aU_rd], by simp [aU_rd]⟩
theorem Fc1_at (h : aH) (j : Int32) : Fc1 h (aU h 1 2 j) := fun k hk => aU_ne hk
theorem Fm1_at (h : aH) (j : Int32) : Fm1 h (aU h 54 20 j) := ⟨fun k hk => aU_ne hk, fun i hi => by simp only [aU_rd, if_true]; rw [if_neg (by omega)]⟩
theorem Fc1_f (h : aH) (k q : Int32) : Fc1 h (aU (aU h 1 3 k) 1 4 q) := fun i hi => by rw [aU_ne hi, aU_ne hi]
theorem Fm1_f (h : aH) (k q : Int32) : Fm1 h (aU (aU h 54 22 k) 54 23 q) := ⟨fun i hi => by rw [aU_ne hi, aU_ne hi], fun i hi => by simp only [aU_rd, if_true]; rw [if_neg (by omega), if_neg (by omega)]⟩
theorem CR_c {h h2 : aH} {tx : List Nat} {i fk : Nat} {fp : Int32} (e1 : h2 1 = h 1) (e2 : h2 2 = h 2) (H : CR h tx i fk fp) : CR h2 tx i fk fp := by
  unfold CR TxC at *; rw [e1, e2]; exact H
theorem MR_c {h h2 : aH} {tx : List Nat} {i fk : Nat} {fp : Int32} (e19 : h2 54 19 = h 54 19) (e20 : h2 54 20 = h 54 20) (e22 : h2 54 22 = h 54 22) (e23 : h2 54 23 = h 54 23) (e65 : h2 65 = h 65) (H : MR h tx i fk fp) : MR h2 tx i fk fp := by
  unfold MR TxM at *; rw [e19, e20, e22, e23, e65]; exact H
theorem JJ_c {hc hm hc2 hm2 : aH} {tx : List Nat} {i1 i2 fk : Nat} {fp : Int32} (e1 : hc2 1 = hc 1) (e2 : hc2 2 = hc 2) (e : ∀ j, 18 < j → hm2 54 j = hm 54 j) (e65 : hm2 65 = hm 65) (H : JJ hc hm tx i1 i2 fk fp) : JJ hc2 hm2 tx i1 i2 fk fp :=
  ⟨CR_c e1 e2 H.1, MR_c (e 19 (by omega)) (e 20 (by omega)) (e 22 (by omega)) (e 23 (by omega)) e65 H.2.1, H.2.2⟩
section Read
variable {h hc hm : aH} {tx : List Nat} {i fk : Nat} {fp : Int32}
theorem c_cur (hT : wfT tx) (H : CR h tx i fk fp) (hi : i ≤ tx.length) : fX5_current h = some (chr tx i) := by
  obtain ⟨⟨a1, a2⟩, b, c, d⟩ := H
  have t := hT.1
  unfold fX5_current chr
  rw [b, a1, if_neg (nI_pos (by omega))]
  by_cases g : i < tx.length
  · rw [if_neg (nI_ge g (by omega)), if_neg (show ¬ 230 ≤ nI i from nI_ge (b := 230) (by omega) (by omega)), if_pos (ck_t (by omega) (by omega)), tn_nI (by omega), if_pos g, a2 i _ (getT g)]
  · rw [if_pos (nI_le (by omega) (by omega)), if_neg g]
theorem c_skipL (hT : wfT tx) : ∀ d i n (h : aH), i + d = tx.length → d < n → CR h tx i fk fp → ∃ h2, fX5_skipBlanks_L0 (fun h5 => some h5) n h = some h2 ∧ CR h2 tx (skd tx d i) fk fp ∧ Fc1 h h2
  | d, i, 0, _, _, hn, _ => absurd hn (by omega)
  | 0, i, n + 1, h, hi, hn, H => by
    have t := hT.1
    refine ⟨h, ?_, H, Fc1_r h⟩
    rw [fX5_skipBlanks_L0, H.1.1, H.2.1, if_pos (nI_le (by omega) (by omega))]
  | d + 1, i, n + 1, h, hi, hn, H => by
    have t := hT.1
    have cl := getT_le hT i
    rw [fX5_skipBlanks_L0, c_cur hT H (by omega), H.1.1, H.2.1, if_neg (nI_ge (by omega) (by omega)), bn_s, nI_1]
    unfold chr
    rw [if_pos (show i < tx.length by omega), skd_s]
    by_cases g : tx.getD i 999 = 32
    · rw [if_pos (by rw [g]; rfl), if_pos g]
      obtain ⟨h2, e1, e2, e3⟩ := c_skipL hT d (i + 1) n (aU h 1 2 (nI (i + 1))) (by omega) (by omega) (CR_at H (i + 1))
      exact ⟨h2, e1, e2, Fc1_t (Fc1_at h _) e3⟩
    · rw [if_neg (show ¬ nI _ = 32 from fun z => g ((nI_eq (b := 32) (by omega) (by omega)).mp z)), if_neg g]
      exact ⟨h, rfl, H, Fc1_r h⟩
theorem c_skip (hT : wfT tx) (H : CR h tx i fk fp) (hi : i ≤ tx.length) : ∃ h2, fX5_skipBlanks h = some h2 ∧ CR h2 tx (sk tx i) fk fp ∧ Fc1 h h2 := by
  have t := hT.1
  exact c_skipL hT (tx.length - i) i 1000 h (by omega) (by omega) H
theorem m_hereL (hT : wfT tx) (K : aH → Option (Int32 × aH)) : ∀ d i n (h : aH), i + d = tx.length → d < n → MR h tx i fk fp → ∃ h2, fX8_here_L0 K n h = K h2 ∧ MR h2 tx (skd tx d i) fk fp ∧ Fm1 h h2
  | d, i, 0, _, _, hn, _ => absurd hn (by omega)
  | 0, i, n + 1, h, hi, hn, H => by
    have t := hT.1
    refine ⟨h, ?_, H, Fm1_r h⟩
    rw [fX8_here_L0, H.1.1, H.2.1, if_pos (nI_le (by omega) (by omega))]
  | d + 1, i, n + 1, h, hi, hn, H => by
    have t := hT.1
    have cl := getT_le hT i
    rw [fX8_here_L0, H.1.1, H.2.1, if_neg (nI_ge (by omega) (by omega)), if_pos (ck_t (by omega) (by omega)), tn_nI (by omega), H.1.2 i _ (getT (by omega)), nI_1, skd_s]
    by_cases g : tx.getD i 999 = 32
    · rw [if_pos (by rw [g]; rfl), if_pos g]
      obtain ⟨h2, e1, e2, e3⟩ := m_hereL hT K d (i + 1) n (aU h 54 20 (nI (i + 1))) (by omega) (by omega) (MR_at H (i + 1))
      exact ⟨h2, e1, e2, Fm1_t (Fm1_at h _) e3⟩
    · rw [if_neg (show ¬ nI _ = 32 from fun z => g ((nI_eq (b := 32) (by omega) (by omega)).mp z)), if_neg g]
      exact ⟨h, rfl, H, Fm1_r h⟩
theorem m_here (hT : wfT tx) (H : MR h tx i fk fp) (hi : i ≤ tx.length) : ∃ h2, fX8_here h = some (chr tx (sk tx i), h2) ∧ MR h2 tx (sk tx i) fk fp ∧ Fm1 h h2 := by
  have t := hT.1
  obtain ⟨h2, e1, e2, e3⟩ := m_hereL hT (fun h4 => if (h4 54 19) ≤ (h4 54 20) then some ((-1), h4) else (if ck (h4 54 20) 230 = true then some (h4 65 (tn (h4 54 20)), h4) else none)) (tx.length - i) i 1000 h (by omega) (by omega) H
  refine ⟨h2, ?_, e2, e3⟩
  unfold fX8_here
  refine e1.trans ?_
  have b := sk_b hi
  have e2 : MR h2 tx (sk tx i) fk fp := e2
  show (if (h2 54 19) ≤ (h2 54 20) then some ((-1), h2) else (if ck (h2 54 20) 230 = true then some (h2 65 (tn (h2 54 20)), h2) else none)) = _
  rw [e2.1.1, e2.2.1]
  unfold chr
  by_cases g : sk tx i < tx.length
  · rw [if_neg (nI_ge g (by omega)), if_pos (ck_t (by omega) (by omega)), tn_nI (by omega), if_pos g, e2.1.2 _ _ (getT g)]
  · rw [if_pos (nI_le (by omega) (by omega)), if_neg g]
/-! numbers -/
def dgt (tx : List Nat) (i : Nat) : Bool := decide (48 ≤ tx.getD i 999 ∧ tx.getD i 999 ≤ 57)
theorem dgt_lt {i : Nat} (h : dgt tx i = true) : i < tx.length := by
  rcases Nat.lt_or_ge i tx.length with g | g
  · exact g
  · unfold dgt at h
    rw [getT_o g] at h
    cases h
theorem fig_c (hT : wfT tx) (i : Nat) : fX5_isFigure (chr tx i) = some (dgt tx i) := by
  have cl := getT_le hT i
  unfold chr
  by_cases g : i < tx.length
  · rw [if_pos g]
    unfold fX5_isFigure dgt
    by_cases g1 : 48 ≤ tx.getD i 999
    · rw [if_neg (show ¬ nI _ < 48 from nI_nlt (b := 48) g1 (by omega))]
      by_cases g2 : tx.getD i 999 ≤ 57
      · rw [if_neg (show ¬ 57 < nI _ from nI_nlt (a := 57) g2 (by omega)), decide_eq_true ⟨g1, g2⟩]
      · rw [if_pos (show 57 < nI _ from nI_lt (a := 57) (by omega) (by omega)), decide_eq_false (fun z => g2 z.2)]
    · rw [if_pos (show nI _ < 48 from nI_lt (b := 48) (by omega) (by omega)), decide_eq_false (fun z => g1 z.1)]
  · rw [if_neg g]
    unfold dgt
    rw [getT_o (by omega)]
    rfl
theorem fig_m (hT : wfT tx) (i : Nat) : fX8_in (Int32.toInt64 (chr tx i)) 48 57 = some (dgt tx i) := by
  have cl := getT_le hT i
  have e : ∀ x : Int32, fX8_in (Int32.toInt64 x) 48 57 = some (decide (48 ≤ x ∧ x ≤ 57)) := fun x => in32 x 48 57
  rw [e]
  unfold chr
  by_cases g : i < tx.length
  · rw [if_pos g]
    unfold dgt
    by_cases g1 : 48 ≤ tx.getD i 999 ∧ tx.getD i 999 ≤ 57
    · rw [decide_eq_true g1, decide_eq_true ⟨show 48 ≤ nI _ from nI_le (a := 48) g1.1 (by omega), show nI _ ≤ 57 from nI_le (b := 57) g1.2 (by omega)⟩]
    · rw [decide_eq_false g1, decide_eq_false]
      intro z
      have z1 : ¬ tx.getD i 999 < 48 := fun y => nI_ge (b := 48) y (by omega) z.1
      have z2 : ¬ 57 < tx.getD i 999 := fun y => nI_ge (a := 57) y (by omega) z.2
      exact g1 (by omega)
  · rw [if_neg g]
    unfold dgt
    rw [getT_o (by omega)]
    rfl
def ded (tx : List Nat) : Nat → Nat → Nat
  | 0, i => i
  | d + 1, i => if dgt tx i = true then ded tx d (i + 1) else i
theorem ded_s (tx : List Nat) (d i : Nat) : ded tx (d + 1) i = if dgt tx i = true then ded tx d (i + 1) else i := rfl
theorem ded_b (tx : List Nat) : ∀ d i, i ≤ ded tx d i ∧ ded tx d i ≤ i + d
  | 0, i => ⟨Nat.le_refl i, Nat.le_refl i⟩
  | d + 1, i => by
    rw [ded_s]
    by_cases g : dgt tx i = true
    · rw [if_pos g]
      have := ded_b tx d (i + 1)
      omega
    · rw [if_neg g]; omega
def lim (m : Nat) : Nat := if m = 0 then 1 else if m = 1 then 10 else if m = 2 then 100 else 1000
theorem lim_s {m : Nat} (h : m < 3) : lim (m + 1) = 10 * lim m := by
  rcases (by omega : m = 0 ∨ m = 1 ∨ m = 2) with rfl | rfl | rfl <;> rfl
theorem lim_3 {m : Nat} (h : 3 ≤ m) : lim m = 1000 := by
  unfold lim
  rw [if_neg (by omega), if_neg (by omega), if_neg (by omega)]
theorem lim_le (m : Nat) : lim m ≤ 1000 := by
  rcases Nat.lt_or_ge m 3 with g | g
  · rcases (by omega : m = 0 ∨ m = 1 ∨ m = 2) with rfl | rfl | rfl <;> decide
  · rw [lim_3 g]; omega
theorem figs (hT : wfT tx) {s : Nat} (x1 x2 : Int32) (Kc Km : aH → Int32 → Option (Int32 × aH)) : ∀ d i n m (hc hm : aH) a b, i + d = tx.length → d < n → d < m → s ≤ i → CR hc tx i 0 fp → MR hm tx i 0 fp → a < lim (i - s) → b ≤ 999999 → (i - s ≤ 3 → a = b) → ∃ hc2 hm2 a2 b2, fX5_readNumber_L21 Kc x1 x2 (nI s) n hc (nI a) = Kc hc2 (nI a2) ∧ fX8_takeNumber_L49 Km m hm (nI b) = Km hm2 (nI b2) ∧ CR hc2 tx (ded tx d i) 0 fp ∧ MR hm2 tx (ded tx d i) 0 fp ∧ a2 < 1000 ∧ b2 ≤ 999999 ∧ (ded tx d i - s ≤ 3 → a2 = b2) ∧ Fc1 hc hc2 ∧ Fm1 hm hm2 ∧ hm2 54 21 = hm 54 21
  | d, i, 0, m, _, _, _, _, _, hn, _, _, _, _, _, _, _ => absurd hn (by omega)
  | d, i, n, 0, _, _, _, _, _, _, hn, _, _, _, _, _, _ => absurd hn (by omega)
  | 0, i, n + 1, m + 1, hc, hm, a, b, hi, _, _, hs, HC, HM, ha, hb, hab => by
    have t := hT.1
    have := lim_le (i - s)
    refine ⟨hc, hm, a, b, ?_, ?_, HC, HM, by omega, hb, hab, Fc1_r hc, Fm1_r hm, rfl⟩
    · rw [fX5_readNumber_L21, HC.1.1, HC.2.1, if_pos (nI_le (by omega) (by omega))]
    · rw [fX8_takeNumber_L49, HM.1.1, HM.2.1, if_pos (nI_le (by omega) (by omega))]
  | d + 1, i, n + 1, m + 1, hc, hm, a, b, hi, h1, h2, hs, HC, HM, ha, hb, hab => by
    have t := hT.1
    have ll := lim_le (i - s)
    have cx : chr tx i = nI (tx.getD i 999) := by unfold chr; rw [if_pos (by omega)]
    have fc := fig_c hT i
    have fm := fig_m hT i
    rw [cx] at fm
    have EC := fX5_readNumber_L21.eq_2 Kc x1 x2 (nI s) hc (nI a) n
    have EM := fX8_takeNumber_L49.eq_2 Km hm (nI b) m
    rw [HC.1.1, HC.2.1, if_neg (nI_ge (by omega) (by omega)), c_cur hT HC (by omega), bn_s, fc, bn_s, bn_s, pk_sub hs, nI_1, cx] at EC
    rw [HM.1.1, HM.2.1, if_neg (nI_ge (by omega) (by omega)), if_pos (ck_t (by omega) (by omega)), tn_nI (by omega), HM.1.2 i _ (getT (by omega)), fm, bn_s, nI_1] at EM
    rw [EC, EM, ded_s]
    cases hd : dgt tx i with
    | false =>
      rw [bi_if, bi_if, if_neg (by decide)]
      exact ⟨hc, hm, a, b, rfl, rfl, HC, HM, by omega, hb, hab, Fc1_r hc, Fm1_r hm, rfl⟩
    | true =>
      rw [bi_it, bi_it, if_pos rfl]
      have hdg : 48 ≤ tx.getD i 999 ∧ tx.getD i 999 ≤ 57 := of_decide_eq_true hd
      have C1 := CR_at HC (i + 1)
      have M1 := MR_at HM (i + 1)
      have ea : nI a * 10 + nI (tx.getD i 999) - 48 = nI (a * 10 + tx.getD i 999 - 48) := by
        rw [show (10 : Int32) = nI 10 from rfl, show (48 : Int32) = nI 48 from rfl, pk_mul, nI_add, pk_sub (by omega)]
      have eb : 10 * nI b + nI (tx.getD i 999) - 48 = nI (10 * b + tx.getD i 999 - 48) := by
        rw [show (10 : Int32) = nI 10 from rfl, show (48 : Int32) = nI 48 from rfl, pk_mul, nI_add, pk_sub (by omega)]
      rw [ea, eb]
      have z21 : ∀ y, aU hm 54 20 y 54 21 = hm 54 21 := fun y => by simp [aU_rd]
      by_cases g3 : 3 ≤ i - s
      · rw [if_pos (show 3 ≤ nI (i - s) from nI_le (a := 3) g3 (by omega))]
        rw [lim_3 g3] at ha
        by_cases gb : b ≤ 99999
        · rw [if_pos (show nI b ≤ 99999 from nI_le (b := 99999) gb (by omega))]
          obtain ⟨hc2, hm2, a2, b2, e1, e2, e3, e4, e5, e6, e7, e8, e9, e10⟩ := figs hT (s := s) x1 x2 Kc Km d (i + 1) n m (aU hc 1 2 (nI (i + 1))) (aU hm 54 20 (nI (i + 1))) a (10 * b + tx.getD i 999 - 48) (by omega) (by omega) (by omega) (by omega) C1 M1 (by rw [lim_3 (by omega)]; exact ha) (by omega) (fun z => by omega)
          exact ⟨hc2, hm2, a2, b2, e1, e2, e3, e4, e5, e6, e7, Fc1_t (Fc1_at hc _) e8, Fm1_t (Fm1_at hm _) e9, by rw [e10, z21]⟩
        · rw [if_neg (show ¬ nI b ≤ 99999 from nI_ge (a := 99999) (by omega) (by omega))]
          obtain ⟨hc2, hm2, a2, b2, e1, e2, e3, e4, e5, e6, e7, e8, e9, e10⟩ := figs hT (s := s) x1 x2 Kc Km d (i + 1) n m (aU hc 1 2 (nI (i + 1))) (aU hm 54 20 (nI (i + 1))) a b (by omega) (by omega) (by omega) (by omega) C1 M1 (by rw [lim_3 (by omega)]; exact ha) hb (fun z => by omega)
          exact ⟨hc2, hm2, a2, b2, e1, e2, e3, e4, e5, e6, e7, Fc1_t (Fc1_at hc _) e8, Fm1_t (Fm1_at hm _) e9, by rw [e10, z21]⟩
      · have e := hab (by omega)
        subst e
        have ls := lim_s (m := i - s) (by omega)
        rw [if_neg (show ¬ 3 ≤ nI (i - s) from nI_ge (b := 3) (by omega) (by omega)), if_pos (show nI a ≤ 99999 from nI_le (b := 99999) (by omega) (by omega))]
        obtain ⟨hc2, hm2, a2, b2, e1, e2, e3, e4, e5, e6, e7, e8, e9, e10⟩ := figs hT (s := s) x1 x2 Kc Km d (i + 1) n m (aU hc 1 2 (nI (i + 1))) (aU hm 54 20 (nI (i + 1))) (a * 10 + tx.getD i 999 - 48) (10 * a + tx.getD i 999 - 48) (by omega) (by omega) (by omega) (by omega) C1 M1 (by rw [show i + 1 - s = i - s + 1 by omega, ls]; omega) (by omega) (fun z => by omega)
        exact ⟨hc2, hm2, a2, b2, e1, e2, e3, e4, e5, e6, e7, Fc1_t (Fc1_at hc _) e8, Fm1_t (Fm1_at hm _) e9, by rw [e10, z21]⟩
theorem want_1 {k : Int32} {q : Int32} (H : MR h tx i 0 fp) : fX8_want h 1 k q = some (true, h) := by
  unfold fX8_want
  rw [if_neg (by decide), H.2.2.1, if_pos (show nI 0 = 0 from rfl)]
theorem want_0 {k : Nat} {q : Int32} (H : MR h tx i 0 fp) (hk : 0 < k) (hk2 : k < 10) : fX8_want h 0 (nI k) q = some (false, aU (aU h 54 22 (nI k)) 54 23 q) := by
  unfold fX8_want
  rw [if_pos rfl, H.2.2.1, if_pos (show nI 0 = 0 from rfl), if_neg (nI_ne0 hk (by omega))]
theorem want_f {x k : Int32} {q : Int32} (H : MR h tx i fk fp) (hk : 0 < fk) (hk2 : fk ≤ 3) : fX8_want h x k q = some (false, h) := by
  unfold fX8_want
  rw [H.2.2.1, if_neg (nI_ne0 hk (by omega)), if_neg (nI_ne0 hk (by omega)), ite_self]
theorem fail_0 {k q : Int32} (H : CR h tx i 0 fp) : fX5_fail h k q = some (aU (aU h 1 3 k) 1 4 q) := by
  unfold fX5_fail
  rw [H.2.2.1, if_pos (show nI 0 = 0 from rfl)]
theorem fail_f {k q : Int32} (H : CR h tx i fk fp) (hk : 0 < fk) (hk2 : fk ≤ 3) : fX5_fail h k q = some h := by
  unfold fX5_fail
  rw [H.2.2.1, if_neg (nI_ne0 hk (by omega))]
theorem numJ (hT : wfT tx) {i1 i2 : Nat} (lo hi : Int32) (J : JJ hc hm tx i1 i2 fk fp) : ∃ hc2 hm2 rc rm j1 j2 fk2 fp2, fX5_readNumber hc lo hi = some (rc, hc2) ∧ fX8_takeIn hm lo hi = some (rm, hm2) ∧ JJ hc2 hm2 tx j1 j2 fk2 fp2 ∧ Fc1 hc hc2 ∧ Fm1 hm hm2 ∧ (fk2 = 0 → fk = 0 ∧ i1 < j1 ∧ ∃ v, rc = nI v ∧ rm = nI v ∧ lo ≤ nI v ∧ nI v ≤ hi ∧ v < 1000) := by
  obtain ⟨HC, HM, l1, l2, eq, f3⟩ := J
  have t := hT.1
  by_cases g : fk = 0
  · subst g
    have eq0 := eq rfl
    obtain ⟨h3, a1, a2, a3⟩ := c_skip hT HC l1
    obtain ⟨h4, b1, b2, b3⟩ := m_here hT HM l2
    rw [← eq0] at b1 b2
    have sb := sk_b l1
    generalize sk tx i1 = j at a2 b1 b2 sb
    have b2' : MR (aU h4 54 21 (h4 54 20)) tx j 0 fp := MR_c (by simp [aU_rd]) (by simp [aU_rd]) (by simp [aU_rd]) (by simp [aU_rd]) (aU_ne (by omega)) b2
    have b3' : Fm1 hm (aU h4 54 21 (h4 54 20)) := Fm1_t b3 ⟨fun k hk => aU_ne hk, fun k hk => by simp only [aU_rd, if_true]; rw [if_neg (by omega)]⟩
    have s21 : aU h4 54 21 (h4 54 20) 54 21 = nI j := by rw [← b2.2.1]; simp [aU_rd]
    generalize hh5 : aU h4 54 21 (h4 54 20) = h5 at b2' b3' s21
    obtain ⟨hc2, hm2, a, b, e1, e2, e3, e4, e5, e6, e7, e8, e9, e10⟩ := figs hT (s := j) lo hi
      (fun h14 z13 => if (h14 1 2) = (h3 1 2) then bn (fX5_fail h14 1 (h3 1 2)) (fun h17 => some (z13, h17)) else (if 3 < ((h14 1 2) - (h3 1 2)) then bn (fX5_fail h14 2 (h3 1 2)) (fun h20 => some (z13, h20)) else (if z13 < lo then bn (fX5_fail h14 2 (h3 1 2)) (fun h23 => some (z13, h23)) else (if z13 ≤ hi then some (z13, h14) else bn (fX5_fail h14 2 (h3 1 2)) (fun h26 => some (z13, h26))))))
      (fun h18 z17 => if 4 ≤ ((h18 54 20) - (h18 54 21)) then bn2 (fX8_want h18 0 2 (h18 54 21)) (fun r22 h21 => some (z17, h21)) else bn2 (fX8_want h18 1 2 (h18 54 21)) (fun r25 h24 => some (z17, h24)))
      (tx.length - j) j 1000 1000 h3 h5 0 0 (by omega) (by omega) (by omega) (Nat.le_refl _) a2 b2' (by rw [Nat.sub_self]; decide) (by omega) (fun _ => rfl)
    have db := ded_b tx (tx.length - j) j
    have RC0 : fX5_readNumber hc lo hi = fX5_readNumber_L21 (fun h14 z13 => if (h14 1 2) = (h3 1 2) then bn (fX5_fail h14 1 (h3 1 2)) (fun h17 => some (z13, h17)) else (if 3 < ((h14 1 2) - (h3 1 2)) then bn (fX5_fail h14 2 (h3 1 2)) (fun h20 => some (z13, h20)) else (if z13 < lo then bn (fX5_fail h14 2 (h3 1 2)) (fun h23 => some (z13, h23)) else (if z13 ≤ hi then some (z13, h14) else bn (fX5_fail h14 2 (h3 1 2)) (fun h26 => some (z13, h26)))))) lo hi (h3 1 2) 1000 h3 0 := by
      unfold fX5_readNumber
      rw [HC.2.2.1, if_pos (show nI 0 = 0 from rfl), a1, bn_s]
    have RM0 : fX8_takeNumber hm = bn2 (fX8_want h5 (bi (dgt tx j)) 1 (nI j)) (fun r9 h8 => if (bi r9) = 0 then some (0, h8) else fX8_takeNumber_L49 (fun h18 z17 => if 4 ≤ ((h18 54 20) - (h18 54 21)) then bn2 (fX8_want h18 0 2 (h18 54 21)) (fun r22 h21 => some (z17, h21)) else bn2 (fX8_want h18 1 2 (h18 54 21)) (fun r25 h24 => some (z17, h24))) 1000 h8 0) := by
      unfold fX8_takeNumber
      rw [HM.2.2.1, if_pos (show nI 0 ≤ 0 from Int32.le_refl _), b1, bn2_s, fig_m hT, bn_s, hh5, b2.2.1]
    rw [a2.2.1] at RC0 e1
    have R := RC0.trans e1
    rw [e3.2.1] at R
    have RM1 : fX8_takeNumber_L49 (fun h18 z17 => if 4 ≤ ((h18 54 20) - (h18 54 21)) then bn2 (fX8_want h18 0 2 (h18 54 21)) (fun r22 h21 => some (z17, h21)) else bn2 (fX8_want h18 1 2 (h18 54 21)) (fun r25 h24 => some (z17, h24))) 1000 h5 0 = if 4 ≤ ((hm2 54 20) - (hm2 54 21)) then bn2 (fX8_want hm2 0 2 (hm2 54 21)) (fun r22 h21 => some (nI b, h21)) else bn2 (fX8_want hm2 1 2 (hm2 54 21)) (fun r25 h24 => some (nI b, h24)) := e2
    rw [e4.2.1, e10, s21] at RM1
    generalize hee : ded tx (tx.length - j) j = e at e3 e4 e7 db R RM1
    have TI : ∀ r h2, fX8_takeNumber hm = some (r, h2) → fX8_takeIn hm lo hi = if 0 < (h2 54 22) then bn2 (fX8_want h2 1 2 (h2 54 21)) (fun r7 h6 => some (r, h6)) else (if bi (decide (lo ≤ r ∧ r ≤ hi)) = 0 then bn2 (fX8_want h2 0 2 (h2 54 21)) (fun r13 h12 => some (r, h12)) else bn2 (fX8_want h2 1 2 (h2 54 21)) (fun r16 h15 => some (r, h15))) := by
      intro r h2 hr
      unfold fX8_takeIn
      rw [hr, bn2_s, in32, bn_s]
    have pos : ∀ k, 0 < k → k ≤ 3 → (0 : Int32) < nI k := fun k x y => nI_lt (a := 0) x (by omega)
    cases hd : dgt tx j with
    | false =>
      have ej : e = j := by
        rw [← hee]
        cases tx.length - j with
        | zero => rfl
        | succ d => rw [ded_s, hd]; rfl
      rw [ej, if_pos rfl, fail_0 e3, bn_s] at R
      rw [hd] at RM0
      have RM2 : fX8_takeNumber hm = some (0, aU (aU h5 54 22 (nI 1)) 54 23 (nI j)) := by
        rw [RM0, show bi false = 0 from rfl, show fX8_want h5 0 1 (nI j) = _ from want_0 (k := 1) b2' (by omega) (by omega), bn2_s, bi_if]
      have MF := MR_f b2' 1 (nI j)
      have TI2 := TI _ _ RM2
      rw [MF.2.2.1, if_pos (pos 1 (by omega) (by omega)), want_f MF (by omega) (by omega), bn2_s] at TI2
      exact ⟨_, _, _, _, e, j, 1, nI j, R, TI2, ⟨CR_f e3 1 (nI j), MF, by omega, by omega, fun z => absurd z (by omega), by omega⟩, Fc1_t a3 (Fc1_t e8 (Fc1_f hc2 _ _)), Fm1_t b3' (Fm1_f h5 _ _), fun z => absurd z (by omega)⟩
    | true =>
      have hjl := dgt_lt hd
      have ej : j < e := by
        rw [← hee]
        obtain ⟨d, hd2⟩ : ∃ d, tx.length - j = d + 1 := ⟨tx.length - j - 1, by omega⟩
        rw [hd2, ded_s, hd, if_pos rfl]
        have := ded_b tx d (j + 1)
        omega
      rw [if_neg (fun z => by have := (nI_eq (by omega) (by omega)).mp z; omega), pk_sub (by omega)] at R
      rw [pk_sub (by omega)] at RM1
      rw [hd, show bi true = 1 from rfl, want_1 b2', bn2_s, bi_it] at RM0
      rw [RM0] at TI
      by_cases g3 : e - j ≤ 3
      · have hab := e7 g3
        subst hab
        rw [if_neg (show ¬ 3 < nI (e - j) from nI_nlt (a := 3) g3 (by omega))] at R
        rw [if_neg (show ¬ 4 ≤ nI (e - j) from nI_ge (b := 4) (by omega) (by omega)), want_1 e4, bn2_s] at RM1
        have TI2 := TI _ _ RM1
        rw [e4.2.2.1, if_neg (show ¬ (0 : Int32) < nI 0 by decide), e10, s21] at TI2
        by_cases g : lo ≤ nI a ∧ nI a ≤ hi
        · have g1 : ¬ nI a < lo := fun z => by
            have h1 := g.1
            rw [fa_le] at h1; rw [fa_lt] at z; omega
          rw [if_neg g1, if_pos g.2] at R
          rw [decide_eq_true g, bi_it, want_1 e4, bn2_s] at TI2
          exact ⟨_, _, _, _, e, e, 0, fp, R, TI2, ⟨e3, e4, by omega, by omega, fun _ => rfl, by omega⟩, Fc1_t a3 e8, Fm1_t b3' e9, fun _ => ⟨rfl, by omega, a, rfl, rfl, g.1, g.2, e5⟩⟩
        · have R2 : fX5_readNumber hc lo hi = some (nI a, aU (aU hc2 1 3 2) 1 4 (nI j)) := by
            rw [R, fail_0 e3, bn_s]
            by_cases g1 : nI a < lo
            · rw [if_pos g1]
            · have g2 : ¬ nI a ≤ hi := fun z => g ⟨fa_of_nlt g1, z⟩
              rw [if_neg g1, if_neg g2]
          rw [decide_eq_false g, bi_if, show fX8_want hm2 0 2 (nI j) = _ from want_0 (k := 2) e4 (by omega) (by omega), bn2_s] at TI2
          exact ⟨_, _, _, _, e, e, 2, nI j, R2, TI2, ⟨CR_f e3 2 (nI j), MR_f e4 2 (nI j), by omega, by omega, fun z => absurd z (by omega), by omega⟩, Fc1_t a3 (Fc1_t e8 (Fc1_f hc2 _ _)), Fm1_t b3' (Fm1_t e9 (Fm1_f hm2 _ _)), fun z => absurd z (by omega)⟩
      · rw [if_pos (show 3 < nI (e - j) from nI_lt (a := 3) (by omega) (by omega)), fail_0 e3, bn_s] at R
        rw [if_pos (show 4 ≤ nI (e - j) from nI_le (a := 4) (by omega) (by omega)), show fX8_want hm2 0 2 (nI j) = _ from want_0 (k := 2) e4 (by omega) (by omega), bn2_s] at RM1
        have MF := MR_f e4 2 (nI j)
        have TI2 := TI _ _ RM1
        rw [MF.2.2.1, if_pos (pos 2 (by omega) (by omega)), want_f MF (by omega) (by omega), bn2_s] at TI2
        exact ⟨_, _, _, _, e, e, 2, nI j, R, TI2, ⟨CR_f e3 2 (nI j), MF, by omega, by omega, fun z => absurd z (by omega), by omega⟩, Fc1_t a3 (Fc1_t e8 (Fc1_f hc2 _ _)), Fm1_t b3' (Fm1_t e9 (Fm1_f hm2 _ _)), fun z => absurd z (by omega)⟩
  · have hp : 0 < fk := by omega
    refine ⟨hc, hm, lo, 0, i1, i2, fk, fp, ?_, ?_, ⟨HC, HM, l1, l2, eq, f3⟩, Fc1_r hc, Fm1_r hm, fun z => absurd z g⟩
    · unfold fX5_readNumber
      rw [HC.2.2.1, if_neg (nI_ne0 hp (by omega))]
    · unfold fX8_takeIn fX8_takeNumber
      rw [HM.2.2.1, if_neg (show ¬ nI fk ≤ 0 from nI_ge (a := 0) hp (by omega)), bn2_s, HM.2.2.1, if_pos (show (0 : Int32) < nI fk from nI_lt (a := 0) hp (by omega)), want_f HM hp f3, bn2_s]
end Read
