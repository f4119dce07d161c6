/-! valley() -/
def c0 (h : aH) (w : Nat) : aH := aU (aU (aU (aU (aU (aU (aU (aU (aU (aU h w 0 0) w 1 0) w 2 0) w 3 0) w 4 0) w 5 0) w 6 0) 1 2 0) 1 3 0) 1 4 (-1)
def m0 (h : aH) : aH := aU (aU (aU (aU (aU (aU (aU (aU (aU (aU h 54 20 0) 54 22 0) 54 23 (-1)) 54 3 0) 54 7 0) 54 12 0) 54 17 0) 57 3 0) 57 4 0) 57 5 0
theorem m_L37 (K : aH → Option (Int32 × aH)) (h : aH) : fX8_valley_L37 K 1000 h 3 = K (aU (aU (aU h 57 3 0) 57 4 0) 57 5 0) := by
  rw [fX8_valley_L37, if_neg (by decide), if_pos (by decide), fX8_valley_L37, if_neg (by decide), if_pos (by decide), fX8_valley_L37, if_neg (by decide), if_pos (by decide), fX8_valley_L37, if_pos (by decide)]
  rfl
section OpValley
variable {h : aH} {v w : Nat} {tx : List Nat} {ft : Int32} {V : Vd} {P : Ps} {bt sd : Nat} {im : Im} {un : Un} {ms : Nat → Nat} {bk : Bk}
theorem m0_54 (h : aH) (j : Nat) (hj : j < 20 ∨ 23 < j) (h3 : j ≠ 3) (h7 : j ≠ 7) (h12 : j ≠ 12) (h17 : j ≠ 17) : m0 h 54 j = h 54 j := by
  unfold m0
  rw [aU_ne (by omega), aU_ne (by omega), aU_ne (by omega)]
  simp only [aU_rd, if_true]
  rw [if_neg h17, if_neg h12, if_neg h7, if_neg h3, if_neg (by omega), if_neg (by omega), if_neg (by omega)]
theorem m0_o (h : aH) (k : Nat) (h1 : k ≠ 54) (h2 : k ≠ 57) : m0 h k = h k := by
  unfold m0
  rw [aU_ne h2, aU_ne h2, aU_ne h2, aU_ne h1, aU_ne h1, aU_ne h1, aU_ne h1, aU_ne h1, aU_ne h1, aU_ne h1]
theorem m0_57 (h : aH) (j : Nat) (hj : j < 3) : m0 h 57 j = h 57 j := by
  unfold m0
  simp only [aU_rd, if_true]
  rw [if_neg (by omega), if_neg (by omega), if_neg (by omega)]
  rfl
theorem m0_F (h : aH) : FmP h (m0 h) := ⟨fun k x y => m0_o h k x (by omega), fun j x a b c d => m0_54 h j x a b c d, fun j hj => m0_57 h j hj, fun j _ => by rw [m0_o h 58 (by omega) (by omega)], fun k x y j _ => by rw [m0_o h k (by omega) (by omega)]⟩
theorem m0_MR (H : TxM h tx) : MR (m0 h) tx 0 0 (-1) := by
  refine ⟨⟨by rw [m0_54 h 19 (by omega) (by omega) (by omega) (by omega) (by omega)]; exact H.1, fun i x hx => by rw [m0_o h 65 (by omega) (by omega)]; exact H.2 i x hx⟩, ?_, ?_, ?_⟩
  · simp [m0, aU_rd]; rfl
  · simp [m0, aU_rd]; rfl
  · simp [m0, aU_rd]
theorem c0_o (h : aH) (w k : Nat) (h1 : k ≠ 1) (h2 : k ≠ w) : c0 h w k = h k := by
  unfold c0
  rw [aU_ne h1, aU_ne h1, aU_ne h1, aU_ne h2, aU_ne h2, aU_ne h2, aU_ne h2, aU_ne h2, aU_ne h2, aU_ne h2]
theorem c0_CR (hw : 36 ≤ w) (H : TxC h tx) : CR (c0 h w) tx 0 0 (-1) := by
  refine ⟨⟨?_, fun i x hx => by rw [c0_o h w 2 (by omega) (by omega)]; exact H.2 i x hx⟩, ?_, ?_, ?_⟩
  · unfold c0
    simp [aU_rd, show ¬ 1 = w by omega]; exact H.1
  · simp [c0, aU_rd]; rfl
  · simp [c0, aU_rd]; rfl
  · simp [c0, aU_rd]
theorem c0_w (hw : 36 ≤ w) (j : Nat) (hj : j < 7) : c0 h w w j = 0 := by
  unfold c0
  rw [aU_ne (by omega), aU_ne (by omega), aU_ne (by omega)]
  simp only [aU_rd, if_true]
  rcases (by omega : j = 0 ∨ j = 1 ∨ j = 2 ∨ j = 3 ∨ j = 4 ∨ j = 5 ∨ j = 6) with rfl | rfl | rfl | rfl | rfl | rfl | rfl <;> rfl
theorem DD_0 {hc hm : aH} (hcw : ∀ j, j < 7 → hc w j = 0) : DD w hc (m0 hm) (fun _ _ => 0) (fun _ _ => 0) := by
  refine ⟨⟨⟨hcw 0 (by omega), hcw 1 (by omega), hcw 2 (by omega), hcw 3 (by omega), hcw 4 (by omega), hcw 5 (by omega), hcw 6 (by omega)⟩, fun k hk => absurd hk (Nat.not_lt_zero k), fun k hk => absurd hk (Nat.not_lt_zero k)⟩, fun k hk => absurd hk (Nat.not_lt_zero k), ⟨⟨?_, ?_, ?_, ?_, ?_, ?_, ?_⟩, fun k hk => absurd hk (Nat.not_lt_zero k), fun k hk => absurd hk (Nat.not_lt_zero k)⟩, fun k hk => absurd hk (Nat.not_lt_zero k), ⟨⟨by decide, by decide, by decide, by decide, by decide, by decide, by decide⟩, fun k hk => absurd hk (Nat.not_lt_zero k), fun k hk => absurd hk (Nat.not_lt_zero k)⟩, fun k hk => absurd hk (Nat.not_lt_zero k)⟩
  · simp [m0, aU_rd]; rfl
  · simp [m0, aU_rd]; rfl
  · simp [m0, aU_rd]; rfl
  · simp [m0, aU_rd]; rfl
  · simp [m0, aU_rd]; rfl
  · simp [m0, aU_rd]; rfl
  · simp [m0, aU_rd]; rfl
/-- the text read on both sides, from two heaps -/
theorem parse {hm : aH} (hT : wfT tx) (hw : 36 ≤ w) (HC : TxC h tx) (HM : TxM hm tx) : ∃ hS hc2 hm2 j1 j2 fk fp, fX5_skipBlanks (c0 h w) = some hS ∧ (∀ K, fX5_readInto_L21 K w 1000 hS 0 = K hc2) ∧ (∀ K2, fX8_valley_L56 K2 1000 (m0 hm) = K2 hm2) ∧ JJ hc2 hm2 tx j1 j2 fk fp ∧ (∀ k, k ≠ 1 → k < w ∨ w + 8 ≤ k → hc2 k = h k) ∧ FmP hm hm2 ∧ (fk = 0 → ∃ V Q, DD w hc2 hm2 V Q) := by
  have t := hT.1
  obtain ⟨hS, a1, a2, a3⟩ := c_skip hT (c0_CR hw HC) (Nat.zero_le _)
  have sb := sk_b (tx := tx) (i := 0) (Nat.zero_le _)
  have D0 : DD w hS (m0 hm) (fun _ _ => 0) (fun _ _ => 0) := DD_0 (fun j hj => by rw [a3 w (by omega)]; exact c0_w hw j hj)
  obtain ⟨hc2, hm2, j1, j2, fk, fp, b1, b2, b3, b4, b5, b6⟩ := loopJ hT hw tx.length 0 1000 1000 hS (m0 hm) (sk tx 0) 0 0 (-1) (by omega) (by omega) (by omega) ⟨a2, m0_MR HM, sb.2, Nat.zero_le _, fun _ => sk_sk (Nat.zero_le _), by omega⟩ (fun _ => ⟨sk_sk (Nat.zero_le _), by omega, _, _, D0⟩)
  exact ⟨hS, hc2, hm2, j1, j2, fk, fp, a1, b1, b2, b3, fun k x y => by rw [b4 k x y, a3 k x, c0_o h w k x (by omega)], FmP_t (m0_F hm) b5, b6⟩
/-- what the landed program does with a valley that was read -/
def cE (h6 : aH) : Option (Int32 × aH) := bn (vl (h6 0 9)) (fun v9 => bn (vl (h6 0 10)) (fun v10 => bn (fX6_fillLooks (aU (aU (aU h6 0 11 (h6 1 4)) 0 9 (nI v10)) 0 10 (nI v9)) v10) (fun h12 => bn (vl (h12 0 9)) (fun v13 => bn (fX0_beginAs h12 3 v13) (fun h15 => bn (fX3_forget (aU (aU h15 8 6 0) 13 6 0)) (fun h17 => bn2 (fX7_dropMeasures h17) (fun r20 h19 => bn (vl (h19 0 9)) (fun v21 => some ((aU h19 24 3 0) v21 6, (aU h19 24 3 0))))))))))
theorem cend {hc2 : aH} {fp : Int32} {V' Q' : Vd} (w1 : v = 36 ∧ w = 45 ∨ v = 45 ∧ w = 36) (w4 : wfP V P) (r1 : h 0 9 = nI v ∧ h 0 10 = nI w ∧ h 0 11 = ft) (r5 : CA h 3 P bt sd) (JC : hc2 1 4 = fp) (FC : ∀ k, k ≠ 1 → k < w ∨ w + 8 ≤ k → hc2 k = h k) (D1 : CV hc2 w V') (D2 : CQ hc2 w V' Q') (D5 : wfV V') (D6 : wfQ V' Q') : ∃ hF, cE (aU hc2 1 1 0) = some (nI (V' 0 5), hF) ∧ (hF 0 9 = nI w ∧ hF 0 10 = nI v ∧ hF 0 11 = fp) ∧ hF 1 1 = 0 ∧ CV hF w V' ∧ CL hF w V' ∧ CA hF 3 (PN V' Q') 0 sd ∧ hF 8 6 = 0 ∧ hF 13 6 = 0 ∧ hF 18 6 = 0 ∧ hF 18 5 = h 18 5 ∧ MsC hF (fun _ => 0) ∧ hF 24 3 = 0 ∧ ∀ k, 54 ≤ k → hF k = h k := by
  have hw : 36 ≤ w := by omega
  have hv36 : v = 36 ∨ v = 45 := by omega
  have hw36 : w = 36 ∨ w = 45 := by omega
  have c4 : aU hc2 1 1 0 1 4 = fp := by simp [aU_rd]; exact JC
  have z9 : aU hc2 1 1 0 0 9 = nI v := by rw [aU_ne (by omega), FC 0 (by omega) (by omega)]; exact r1.1
  have z10 : aU hc2 1 1 0 0 10 = nI w := by rw [aU_ne (by omega), FC 0 (by omega) (by omega)]; exact r1.2.1
  unfold cE
  rw [c4, vl_of z9 (by omega), bn_s, vl_of z10 (by omega), bn_s]
  have qA : ∀ k, k ≠ 0 → k ≠ 1 → aU (aU (aU (aU hc2 1 1 0) 0 11 fp) 0 9 (nI w)) 0 10 (nI v) k = hc2 k := fun k x y => by rw [aU_ne x, aU_ne x, aU_ne x, aU_ne y]
  have qA0 : aU (aU (aU (aU hc2 1 1 0) 0 11 fp) 0 9 (nI w)) 0 10 (nI v) 0 9 = nI w ∧ aU (aU (aU (aU hc2 1 1 0) 0 11 fp) 0 9 (nI w)) 0 10 (nI v) 0 10 = nI v ∧ aU (aU (aU (aU hc2 1 1 0) 0 11 fp) 0 9 (nI w)) 0 10 (nI v) 0 11 = fp := ⟨by simp [aU_rd], by simp [aU_rd], by simp [aU_rd]⟩
  have qA1 : aU (aU (aU (aU hc2 1 1 0) 0 11 fp) 0 9 (nI w)) 0 10 (nI v) 1 1 = 0 := by rw [aU_ne (by omega), aU_ne (by omega), aU_ne (by omega)]; simp [aU_rd]
  generalize aU (aU (aU (aU hc2 1 1 0) 0 11 fp) 0 9 (nI w)) 0 10 (nI v) = hA at qA qA0 qA1
  have CA1 : CV hA w V' := CV_c (fun k _ _ => qA k (by omega) (by omega)) D1
  have CQ1 : CQ hA w V' Q' := by unfold CQ at *; rw [qA _ (by omega) (by omega), qA _ (by omega) (by omega), qA _ (by omega) (by omega)]; exact D2
  obtain ⟨h12, a1, a2, a3⟩ := c_fill CA1 D5
  have k12 : ∀ k, k ≠ 0 → k ≠ 1 → k < w ∨ w + 9 ≤ k → h12 k = h k := fun k x y z => by rw [a2 k (by omega), qA k x y, FC k y (by omega)]
  have v12 : vl (h12 0 9) = some w := vl_of (by rw [a2 0 (by omega)]; exact qA0.1) hw36
  obtain ⟨h15, b1, b2, b3, b4⟩ := c_begins (h := h12) (v := w) (P := P) (bt := bt) (sd := sd) (CV_c (fun k _ _ => a2 k (by omega)) CA1) (by unfold CQ at *; rw [a2 _ (by omega), a2 _ (by omega), a2 _ (by omega)]; exact CQ1) D5 D6 hw (fun q => (w4 q).1) (CA_c (fun k _ _ => k12 k (by omega) (by omega) (by omega)) r5)
  obtain ⟨h19, e1, e2, e3⟩ := c_dropM (aU (aU (aU h15 8 6 0) 13 6 0) 18 6 0)
  have k19 : ∀ k, k ≠ 35 → k ≠ 18 → k ≠ 13 → k ≠ 8 → h19 k = h15 k := fun k x y z u => by rw [e2 k x, aU_ne y, aU_ne z, aU_ne u]
  have v19 : vl (h19 0 9) = some w := by rw [k19 0 (by omega) (by omega) (by omega) (by omega), b2 0 (by omega)]; exact v12
  have kF : ∀ k, k ≠ 35 → k ≠ 18 → k ≠ 13 → k ≠ 8 → k ≠ 24 → aU h19 24 3 0 k = h15 k := fun k x y z u t => by rw [aU_ne t, k19 k x y z u]
  have kG : ∀ k, k < 3 ∨ 35 < k → aU h19 24 3 0 k = h12 k := fun k x => by rw [kF k (by omega) (by omega) (by omega) (by omega) (by omega), b2 k (by omega)]
  have kw6 : aU h19 24 3 0 w 6 = nI (V' 0 5) := by rw [kG w (by omega), a2 w (by omega)]; exact CA1.1.2.2.2.2.2.2
  refine ⟨aU h19 24 3 0, ?_, ?_, ?_, ?_, ?_, ?_, ?_, ?_, ?_, ?_, MsC_c (aU_ne (by omega)) e3, by simp [aU_rd], fun k hk => ?_⟩
  · rw [a1, bn_s, v12, bn_s, b1, bn_s]
    unfold fX3_forget
    rw [bn_s, e1, bn2_s, v19, bn_s, kw6]
  · rw [kG 0 (by omega), a2 0 (by omega)]; exact qA0
  · rw [kG 1 (by omega), a2 1 (by omega)]; exact qA1
  · exact CV_c (fun k _ _ => by rw [kG k (by omega), a2 k (by omega)]) CA1
  · exact CL_c (kG _ (by omega)) a3
  · exact CA_c (fun k _ _ => kF k (by omega) (by omega) (by omega) (by omega) (by omega)) b4
  · rw [aU_ne (by omega), e2 8 (by omega), aU_ne (by omega), aU_ne (by omega)]; simp [aU_rd]
  · rw [aU_ne (by omega), e2 13 (by omega), aU_ne (by omega)]; simp [aU_rd]
  · rw [aU_ne (by omega), e2 18 (by omega)]; simp [aU_rd]
  · rw [aU_ne (by omega), e2 18 (by omega)]
    simp only [aU_rd, if_true]
    rw [if_neg (by omega), if_neg (by omega), if_neg (by omega), b2 18 (by omega), k12 18 (by omega) (by omega) (by omega)]
  · rw [kG k (by omega), k12 k (by omega) (by omega) (by omega)]
theorem op_valley (hC : RC h v w tx ft V P bt sd im un ms bk) (hM : RM h tx ft V P bt sd im un ms bk) (hW : WF v w tx V P bt sd im un ms bk) : Ok2 h fX7_valley fX8_valley := by
  have hM0 := hM
  have hW0 := hW
  obtain ⟨w1, w2, w3, w4, w5, w6, w7, w8, w9, w10⟩ := hW
  obtain ⟨r1, r2, r3, r4, r5, r6, r7, r8, r9⟩ := hC
  obtain ⟨m1, m2, m3, m4, m5, m6, m7, m8, m9, m10⟩ := hM
  have hw : 36 ≤ w := by omega
  have vw : vl (h 0 10) = some w := vl_of r1.2.1 (by omega)
  obtain ⟨hS, hc2, -, -, -, -, -, p1, p2, -⟩ := parse w2 hw r2 m2
  -- the class's reading
  have K0 : fX5_readInto (aU (aU (aU (aU (aU (aU (aU h w 0 0) w 1 0) w 2 0) w 3 0) w 4 0) w 5 0) w 6 0) w = some (hc2 1 3, aU hc2 1 1 0) := by
    unfold fX5_readInto
    rw [show fX5_skipBlanks (aU (aU (aU (aU (aU (aU (aU (aU (aU (aU h w 0 0) w 1 0) w 2 0) w 3 0) w 4 0) w 5 0) w 6 0) 1 2 0) 1 3 0) 1 4 (-1)) = some hS from p1, bn_s]
    exact p2 _
  have V7 : fX7_valley h = (if hc2 1 3 = 0 then
      cE (aU hc2 1 1 0)
      else some ((-10) - hc2 1 3, (aU (aU hc2 1 1 0) 0 11 (aU hc2 1 1 0 1 4)))) := by
    unfold fX7_valley fX6_clear
    rw [vw, bn_s, bn_s]
    rw [show aU (aU (aU (aU (aU (aU (aU h w 0 0) w 1 0) w 2 0) w 3 0) w 4 0) w 5 0) w 6 0 0 10 = h 0 10 by rw [aU_ne (by omega), aU_ne (by omega), aU_ne (by omega), aU_ne (by omega), aU_ne (by omega), aU_ne (by omega), aU_ne (by omega)], vw, bn_s, K0, bn2_s]
    rfl
  -- what the reference reads, from any heap that holds the same
  have mod : ∀ h1 : aH, (∀ k, 54 ≤ k → h1 k = h k) → ∃ hm2 j1 j2 fk fp, (∀ K2, fX8_valley_L56 K2 1000 (m0 h1) = K2 hm2) ∧ JJ hc2 hm2 tx j1 j2 fk fp ∧ (∀ k, k ≠ 1 → k < w ∨ w + 8 ≤ k → hc2 k = h k) ∧ FmP h1 hm2 ∧ (fk = 0 → ∃ V Q, DD w hc2 hm2 V Q) := by
    intro h1 q
    obtain ⟨hS', hc', hm2, j1, j2, fk, fp, y1, y2, y3, y4, y5, y6, y7⟩ := parse (hm := h1) w2 hw r2 (TxM_c (by rw [q 54 (by omega)]) (q 65 (by omega)) m2)
    have e1 : hS' = hS := Option.some.inj (y1.symm.trans p1)
    subst e1
    have e2 : hc' = hc2 := by
      have := (y2 (fun h => some (0, h))).symm.trans (p2 (fun h => some (0, h)))
      exact (so2 this).2
    subst e2
    exact ⟨hm2, j1, j2, fk, fp, y3, y4, y5, y6, y7⟩
  have E8 : ∀ h1 hm2 : aH, (∀ K2, fX8_valley_L56 K2 1000 (m0 h1) = K2 hm2) → fX8_valley h1 = if (hm2 54 22) ≤ 0 then bn (fX8_take (aU hm2 54 19 0)) (fun h27 => some (h27 54 16, h27)) else some ((-10) - (hm2 54 22), (aU hm2 54 19 0)) := by
    intro h1 hm2 e
    unfold fX8_valley
    rw [m_L37]
    exact e _
  obtain ⟨hmX, i1, iX, fk, fp, -, ⟨JC, -, -, -, -, f3⟩, FC, -, DG⟩ := mod h (fun _ _ => rfl)
  rw [JC.2.2.1] at V7
  by_cases g : fk = 0
  · subst g
    rw [if_pos (show nI 0 = 0 from rfl)] at V7
    obtain ⟨V', Q', D1, D2, -, -, D5, D6⟩ := DG rfl
    obtain ⟨hF, cF, -, -, -, -, -, -, -, -, -, -, -, qm⟩ := cend (V := V) w1 w4 r1 r5 JC.2.2.2 FC D1 D2 D5 D6
    obtain ⟨hm2, j1, j2, fk2, fp2, y1, ⟨y2, y3, -, -, -, y4⟩, -, y5, y6⟩ := mod hF qm
    have ef : fk2 = 0 := (nI_eq (by omega) (by omega)).mp (y2.2.2.1.symm.trans JC.2.2.1)
    have efp : fp2 = fp := y2.2.2.2.symm.trans JC.2.2.2
    subst efp
    subst ef
    obtain ⟨V2, Q2, T1, T2, T3, T4, T5, T6⟩ := y6 rfl
    obtain ⟨hF2, cF2, u1, u2, u3, u4, u5, u6, u7, u8, u9, u10, u11, -⟩ := cend (V := V) w1 w4 r1 r5 JC.2.2.2 FC T1 T2 T5 T6
    obtain ⟨ev, eF⟩ := so2 (cF2.symm.trans cF)
    subst eF
    obtain ⟨k1, k2, k3, k4, k5, k6, k7, k8, k9, k10⟩ := RM_c hW0 qm hM0
    have q19 : ∀ j, j ≠ 19 → aU hm2 54 19 0 54 j = hm2 54 j := fun j hj => by simp only [aU_rd, if_true, if_neg hj]
    have qo : ∀ k, k ≠ 54 → aU hm2 54 19 0 k = hm2 k := fun k hk => aU_ne hk
    have S1 : SV (aU hm2 54 19 0) V2 := by
      unfold SV at *
      rw [q19 3 (by omega), q19 7 (by omega), q19 12 (by omega), q19 17 (by omega), qo 57 (by omega), qo 58 (by omega), qo 59 (by omega), qo 60 (by omega), qo 61 (by omega)]; exact T3
    have S2 : SQ (aU hm2 54 19 0) V2 Q2 := by
      unfold SQ at *
      rw [qo 62 (by omega), qo 63 (by omega), qo 64 (by omega)]; exact T4
    have e55 : aU hm2 54 19 0 55 = hF2 55 := by rw [qo 55 (by omega), y5.1 55 (by omega) (by omega)]
    obtain ⟨h27, t1, t2, t3, t4, t5, t6, t7, t8, t9, t10, t11⟩ := m_take T5 T6 (wfP_4 w3 w4) S1 S2 (MA_c w4 (fun i _ => by rw [e55]) k4)
    have e8 : fX8_valley hF2 = some (nI (V2 0 5), h27) := by
      rw [E8 hF2 hm2 y1, y3.2.2.1, if_pos (show nI 0 ≤ 0 from Int32.le_refl _), t1, bn_s, t4.1.2.2.2.2.2.2]
    have e7 : fX7_valley h = some (nI (V2 0 5), hF2) := by rw [V7]; exact cF2
    have gF : ∀ k, k < 54 → h27 k = hF2 k := fun k hk => by
      rw [t2 k (by omega) (by omega), qo k (by omega), y5.1 k (by omega) (by omega)]
    refine ⟨_, _, _, e7, e8, w, v, [], fp2, V2, PN V2 Q2, 0, sd, fun _ => none, [], fun _ => 0, [], ?_, ?_, ⟨by omega, ⟨Nat.zero_le _, fun x hx => absurd hx List.not_mem_nil⟩, T5, PN_wf T6, by omega, w6, fun i _ q hq => (by cases hq), wfU_nil, fun _ => by show 0 < 4096; omega, ⟨Nat.zero_le _, fun x hx => absurd hx List.not_mem_nil⟩⟩⟩
    · refine ⟨by rw [gF 0 (by omega)]; exact u1, ⟨by rw [gF 1 (by omega)]; exact u2, fun i x hx => by cases hx⟩, CV_c (fun k _ _ => gF k (by omega)) u3, CL_c (gF _ (by omega)) u4, CA_c (fun k _ _ => gF k (by omega)) u5, fun i hi => ⟨fun _ => ?_, fun q hq => by cases hq⟩, ?_, MsC_c (gF 35 (by omega)) u10, ⟨by rw [gF 24 (by omega)]; exact u11, fun k x hx => by cases hx⟩⟩
      · rcases (by omega : i = 0 ∨ i = 1) with rfl | rfl
        · show h27 8 6 = 0
          rw [gF 8 (by omega)]; exact u6
        · show h27 13 6 = 0
          rw [gF 13 (by omega)]; exact u7
      · exact UnC_nil (h := h) (by rw [gF 18 (by omega)]; exact u9) (by rw [gF 18 (by omega)]; exact u8) r7
    · refine ⟨?_, ⟨?_, fun i x hx => by cases hx⟩, t4, t5, ?_, fun i hi => ⟨fun _ => ?_, fun q hq => by cases hq⟩, UnM_nil t9, t11, ⟨t10, fun k x hx => by cases hx⟩, fun j hj => ?_⟩
      · rw [t3 23 (by omega) (by omega) (by omega) (by omega), q19 23 (by omega)]; exact y3.2.2.2
      · rw [t3 19 (by omega) (by omega) (by omega) (by omega)]; simp [aU_rd]; rfl
      · rw [t6, e55]; exact k5
      · rcases (by omega : i = 0 ∨ i = 1) with rfl | rfl
        · exact t7
        · exact t8
      · rw [t2 68 (by omega) (by omega), qo 68 (by omega), y5.1 68 (by omega) (by omega)]; exact k10 j hj
  · have h0 : 0 < fk := by omega
    have c4 : aU hc2 1 1 0 1 4 = fp := by simp [aU_rd]; exact JC.2.2.2
    rw [if_neg (nI_ne0 h0 (by omega)), c4] at V7
    have qF : ∀ k, k ≠ 0 → k ≠ 1 → k < w ∨ w + 8 ≤ k → aU (aU hc2 1 1 0) 0 11 fp k = h k := fun k x y z => by rw [aU_ne x, aU_ne y, FC k y z]
    have q0 : aU (aU hc2 1 1 0) 0 11 fp 0 9 = nI v ∧ aU (aU hc2 1 1 0) 0 11 fp 0 10 = nI w ∧ aU (aU hc2 1 1 0) 0 11 fp 0 11 = fp := by
      have z := FC 0 (by omega) (by omega)
      refine ⟨?_, ?_, by simp [aU_rd]⟩
      · simp [aU_rd]; rw [z]; exact r1.1
      · simp [aU_rd]; rw [z]; exact r1.2.1
    have q1 : aU (aU hc2 1 1 0) 0 11 fp 1 1 = 0 := by rw [aU_ne (by omega)]; simp [aU_rd]
    generalize aU (aU hc2 1 1 0) 0 11 fp = hF at V7 qF q0 q1
    have qm : ∀ k, 54 ≤ k → hF k = h k := fun k hk => qF k (by omega) (by omega) (by omega)
    obtain ⟨hm2, j1, j2, fk2, fp2, y1, ⟨y2, y3, -, -, -, y4⟩, -, y5, -⟩ := mod hF qm
    have ef : fk2 = fk := (nI_eq (by omega) (by omega)).mp (y2.2.2.1.symm.trans JC.2.2.1)
    have efp : fp2 = fp := y2.2.2.2.symm.trans JC.2.2.2
    subst efp
    subst ef
    obtain ⟨k1, k2, k3, k4, k5, k6, k7, k8, k9, k10⟩ := RM_c hW0 qm hM0
    have q19 : ∀ j, j ≠ 19 → aU hm2 54 19 0 54 j = hm2 54 j := fun j hj => by simp only [aU_rd, if_true, if_neg hj]
    have qo : ∀ k, k ≠ 54 → aU hm2 54 19 0 k = hm2 k := fun k hk => aU_ne hk
    have e8 : fX8_valley hF = some ((-10) - nI fk2, aU hm2 54 19 0) := by
      rw [E8 hF hm2 y1, y3.2.2.1, if_neg (show ¬ nI fk2 ≤ 0 from nI_ge (a := 0) h0 (by omega))]
    have z54 : ∀ j, j < 20 ∨ 23 < j → j ≠ 3 → j ≠ 7 → j ≠ 12 → j ≠ 17 → j ≠ 19 → aU hm2 54 19 0 54 j = hF 54 j := fun j a b c d e f => by rw [q19 j f, y5.2.1 j a b c d e]
    have zo : ∀ k, k ≠ 54 → k < 57 ∨ 64 < k → aU hm2 54 19 0 k = hF k := fun k x y => by rw [qo k x, y5.1 k x y]
    have gF : ∀ k, k ≠ 0 → k ≠ 1 → k < w ∨ w + 8 ≤ k → k < 54 → aU hm2 54 19 0 k = h k := fun k x y z u => by rw [zo k (by omega) (by omega), qF k x y z]
    refine ⟨_, _, _, V7, e8, v, w, [], fp2, V, P, bt, sd, im, un, ms, bk, ?_, ?_, ⟨w1, ⟨Nat.zero_le _, fun x hx => absurd hx List.not_mem_nil⟩, w3, w4, w5, w6, w7, w8, w9, w10⟩⟩
    · exact ⟨by rw [zo 0 (by omega) (by omega)]; exact q0, ⟨by rw [zo 1 (by omega) (by omega)]; exact q1, fun i x hx => by cases hx⟩, CV_c (fun k _ _ => gF k (by omega) (by omega) (by omega) (by omega)) r3, CL_c (gF _ (by omega) (by omega) (by omega) (by omega)) r4, CA_c (fun k _ _ => gF k (by omega) (by omega) (by omega) (by omega)) r5, ImC_c (fun k _ _ => gF k (by omega) (by omega) (by omega) (by omega)) r6, UnC_c (fun k _ _ => gF k (by omega) (by omega) (by omega) (by omega)) r7, MsC_c (gF 35 (by omega) (by omega) (by omega) (by omega)) r8, CB_c (fun k _ _ => gF k (by omega) (by omega) (by omega) (by omega)) r9⟩
    · have v3 := w3.1.2.2.2.1
      have v4 := w3.1.2.2.2.2.1
      have e55 : aU hm2 54 19 0 55 = hF 55 := zo 55 (by omega) (by omega)
      refine ⟨by rw [q19 23 (by omega)]; exact y3.2.2.2, ⟨by simp [aU_rd]; rfl, fun i x hx => by cases hx⟩, ?_, MA_c w4 (fun i _ => by rw [e55]) k4, by rw [e55]; exact k5, ImM_c w7 (zo 56 (by omega) (by omega)) (fun i _ _ => by rw [e55]) k6, UnM_c w8 (z54 25 (by omega) (by omega) (by omega) (by omega) (by omega) (by omega)) (fun i _ _ => by rw [e55]) k7, MsM_c (zo 66 (by omega) (by omega)) k8, MB_c (z54 32 (by omega) (by omega) (by omega) (by omega) (by omega) (by omega)) (fun k _ _ => zo k (by omega) (by omega)) k9, fun j hj => by rw [zo 68 (by omega) (by omega)]; exact k10 j hj⟩
      obtain ⟨⟨n0, n1, n2, n3, n4, n5, n6⟩, nr, nh⟩ := k3
      refine ⟨⟨?_, ?_, ?_, ?_, ?_, ?_, ?_⟩, fun k hk => ?_, fun a ha => ?_⟩
      · rw [z54 2 (by omega) (by omega) (by omega) (by omega) (by omega) (by omega)]; exact n0
      · rw [qo 57 (by omega), y5.2.2.1 0 (by omega)]; exact n1
      · rw [qo 57 (by omega), y5.2.2.1 1 (by omega)]; exact n2
      · rw [qo 57 (by omega), y5.2.2.1 2 (by omega)]; exact n3
      · rw [z54 6 (by omega) (by omega) (by omega) (by omega) (by omega) (by omega)]; exact n4
      · rw [z54 11 (by omega) (by omega) (by omega) (by omega) (by omega) (by omega)]; exact n5
      · rw [z54 16 (by omega) (by omega) (by omega) (by omega) (by omega) (by omega)]; exact n6
      · rw [qo 58 (by omega), y5.2.2.2.1 k (by omega)]; exact nr k hk
      · rw [qo 59 (by omega), qo 60 (by omega), qo 61 (by omega), y5.2.2.2.2 59 (by omega) (by omega) a (by omega), y5.2.2.2.2 60 (by omega) (by omega) a (by omega), y5.2.2.2.2 61 (by omega) (by omega) a (by omega)]; exact nh a ha
end OpValley
