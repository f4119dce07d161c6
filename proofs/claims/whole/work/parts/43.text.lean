/-! rains, the sign behind a clause, the whole text -/
def sC (h : aH) : Option aH := bn2 (fX5_takeIf h 59) (fun r h15 => if bi r = 0 then bn (fX5_fail h15 1 (h15 1 2)) (fun h19 => some h19) else some h15)
def sM (K : aH → Option (Int32 × aH)) (n : Nat) (h10 : aH) : Option (Int32 × aH) := if (h10 54 22) = 0 then bn2 (fX8_here h10) (fun r14 h13 => if r14 = 59 then bn2 (fX8_want h13 1 1 (h13 54 20)) (fun r18 h17 => if bi r18 = 0 then fX8_valley_L56 K n h17 else fX8_valley_L56 K n (aU h17 54 20 ((h17 54 20) + 1))) else bn2 (fX8_want h13 0 1 (h13 54 20)) (fun r22 h21 => if bi r22 = 0 then fX8_valley_L56 K n h21 else fX8_valley_L56 K n (aU h21 54 20 ((h21 54 20) + 1)))) else fX8_valley_L56 K n h10
def RR (w : Nat) (hc hm : aH) (c : Nat) (R : Nat → Nat) : Prop := hm 54 7 = nI c ∧ ∀ k, k < c → hc (w + 1) k = nI (R k) ∧ hm 58 (8 + k) = nI (R k) ∧ R k ≤ 9
section Text
variable {h hc hm : aH} {tx : List Nat} {w i fk : Nat} {fp : Int32} {V Q : Vd}
theorem chr_is {j s : Nat} (hT : wfT tx) (hs : s < 256) (h : chr tx j = nI s) : j < tx.length ∧ tx.getD j 999 = s := by
  unfold chr at h
  have cl := getT_le hT j
  by_cases g : j < tx.length
  · rw [if_pos g] at h
    exact ⟨g, (nI_eq (by omega) (by omega)).mp h⟩
  · rw [if_neg g] at h
    exact absurd h.symm (nI_ne_m1 (by omega))
theorem chr_lt {j : Nat} (hj : j < tx.length) : chr tx j = nI (tx.getD j 999) := by unfold chr; rw [if_pos hj]
theorem c_takeIf (hT : wfT tx) (H : CR h tx i 0 fp) (hi : i ≤ tx.length) : ∃ h2, CR h2 tx (sk tx i) 0 fp ∧ Fc1 h h2 ∧ ∀ s, fX5_takeIf h s = if chr tx (sk tx i) = s then some (true, aU h2 1 2 (nI (sk tx i + 1))) else some (false, h2) := by
  obtain ⟨h2, a1, a2, a3⟩ := c_skip hT H hi
  have b := sk_b hi
  refine ⟨h2, a2, a3, fun s => ?_⟩
  unfold fX5_takeIf
  rw [H.2.2.1, if_pos (show nI 0 = 0 from rfl), a1, bn_s, c_cur hT a2 b.2, bn_s, a2.2.1, nI_1]
theorem c_takeIf_f (H : CR h tx i fk fp) (h0 : 0 < fk) (h3 : fk ≤ 3) (s : Int32) : fX5_takeIf h s = some (false, h) := by
  unfold fX5_takeIf
  rw [H.2.2.1, if_neg (nI_ne0 h0 (by omega))]
theorem L4_0 (n : Nat) (hn : 0 < n) (K : aH → Int32 → Option aH) (h : aH) (x : Int32) : fX5_readRains_L4 K w n h x 0 = K h x := by
  cases n with
  | zero => omega
  | succ n => rw [fX5_readRains_L4, if_pos rfl]
theorem L19_0 (n : Nat) (hn : 0 < n) (K : aH → Option aH) (h : aH) : fX8_takeRains_L19 K n h 0 = K h := by
  cases n with
  | zero => omega
  | succ n => rw [fX8_takeRains_L19, if_pos rfl]
theorem rainsL (hT : wfT tx) (hw : 36 ≤ w) : ∀ d c n m (hc hm : aH) (R : Nat → Nat) i1 i2 fp, c + d = 8 → 0 < d → d < n → d < m → JJ hc hm tx i1 i2 0 fp → RR w hc hm c R → ∃ hc2 hm2 x2, fX5_readRains_L4 (fun h13 z12 => some (aU h13 w 4 z12)) w n hc (nI c) 1 = some (aU hc2 w 4 x2) ∧ fX8_takeRains_L19 (fun h28 => some h28) m hm 1 = some hm2 ∧ (∀ k, k ≠ 1 → k ≠ w + 1 → hc2 k = hc k) ∧ (∀ k, k ≠ 54 → k ≠ 58 → hm2 k = hm k) ∧ (∀ j, j < 20 ∨ 23 < j → j ≠ 7 → hm2 54 j = hm 54 j) ∧ (∀ j, j < 8 → hm2 58 j = hm 58 j) ∧
    ((∃ j1 j2 fk fp', JJ hc2 hm2 tx j1 j2 fk fp' ∧ (fk = 0 → i1 ≤ j1 ∧ ∃ c' R', 0 < c' ∧ c' ≤ 8 ∧ x2 = nI c' ∧ RR w hc2 hm2 c' R')) ∨ (∃ e j2 fp', e ≤ tx.length ∧ j2 ≤ tx.length ∧ CR hc2 tx e 0 fp' ∧ MR hm2 tx j2 1 (nI (sk tx e)) ∧ tx.getD (sk tx e) 999 = 44))
  | 0, c, n, m, hc, hm, R, i1, i2, fp, _, h0, _, _, _, _ => absurd h0 (by omega)
  | d + 1, c, 0, m, hc, hm, R, i1, i2, fp, _, _, hn, _, _, _ => absurd hn (by omega)
  | d + 1, c, n, 0, hc, hm, R, i1, i2, fp, _, _, _, hm', _, _ => absurd hm' (by omega)
  | d + 1, c, n + 1, m + 1, hc, hm, R, i1, i2, fp, hc8, _, hn, hm', J, rr => by
    have t := hT.1
    obtain ⟨c1, m1, rc, rm, j1, k1, f1, p1, a1, b1, J1, C1, M1, G1⟩ := numJ hT 0 9 J
    have t7 : m1 54 7 = nI c := by rw [M1.2 7 (by omega), rr.1]
    have JA : JJ (aU c1 (w + 1) c rc) (aU (aU m1 58 (8 + c) rm) 54 7 (nI (c + 1))) tx j1 k1 f1 p1 := JJ_c (aU_ne (by omega)) (aU_ne (by omega)) (fun j hj => by simp only [aU_rd, if_true]; rw [if_neg (by omega), if_neg (by omega)]) (by rw [aU_ne (by omega), aU_ne (by omega)]) J1
    have EC : fX5_readRains_L4 (fun h13 z12 => some (aU h13 w 4 z12)) w (n + 1) hc (nI c) 1 = if 8 ≤ nI (c + 1) then some (aU (aU c1 (w + 1) c rc) w 4 (nI (c + 1))) else bn2 (fX5_takeIf (aU c1 (w + 1) c rc) 44) (fun r10 h9 => if bi r10 = 0 then some (aU h9 w 4 (nI (c + 1))) else fX5_readRains_L4 (fun h13 z12 => some (aU h13 w 4 z12)) w n h9 (nI (c + 1)) 1) := by
      rw [fX5_readRains_L4, if_neg (by decide), if_neg (show ¬ 8 ≤ nI c from nI_ge (b := 8) (by omega) (by omega)), a1, bn2_s, if_pos (ck_t (by omega) (by omega)), tn_nI (by omega), nI_1, L4_0 n (by omega)]
      simp only [L4_0 n (show 0 < n by omega)]
    have EM : fX8_takeRains_L19 (fun h28 => some h28) (m + 1) hm 1 = if (m1 54 22) = 0 then bn2 (fX8_here (aU (aU m1 58 (8 + c) rm) 54 7 (nI (c + 1)))) (fun r13 h12 => if r13 = 44 then (if 8 ≤ (h12 54 7) then bn2 (fX8_want h12 0 1 (h12 54 20)) (fun r18 h17 => if bi r18 = 0 then (if (h17 54 22) = 0 then fX8_takeRains_L19 (fun h28 => some h28) m h17 1 else some h17) else (if (h17 54 22) = 0 then fX8_takeRains_L19 (fun h28 => some h28) m (aU h17 54 20 ((h17 54 20) + 1)) 1 else some (aU h17 54 20 ((h17 54 20) + 1)))) else bn2 (fX8_want h12 1 1 (h12 54 20)) (fun r24 h23 => if bi r24 = 0 then (if (h23 54 22) = 0 then fX8_takeRains_L19 (fun h28 => some h28) m h23 1 else some h23) else (if (h23 54 22) = 0 then fX8_takeRains_L19 (fun h28 => some h28) m (aU h23 54 20 ((h23 54 20) + 1)) 1 else some (aU h23 54 20 ((h23 54 20) + 1))))) else some h12) else some (aU (aU m1 58 (8 + c) rm) 54 7 (nI (c + 1))) := by
      rw [fX8_takeRains_L19, if_neg (by decide), b1, bn2_s, rr.1, show 8 + nI c = nI (8 + c) from nI_add 8 c, if_pos (ck_t (by omega) (by omega)), tn_nI (by omega), t7, nI_1]
      simp only [L19_0 m (show 0 < m by omega)]
    have QC : ∀ k, k ≠ 1 → k ≠ w + 1 → aU c1 (w + 1) c rc k = hc k := fun k x y => by rw [aU_ne y, C1 k x]
    have QM : ∀ k, k ≠ 54 → k ≠ 58 → aU (aU m1 58 (8 + c) rm) 54 7 (nI (c + 1)) k = hm k := fun k x y => by rw [aU_ne x, aU_ne y, M1.1 k x]
    have Q54 : ∀ j, j < 20 ∨ 23 < j → j ≠ 7 → aU (aU m1 58 (8 + c) rm) 54 7 (nI (c + 1)) 54 j = hm 54 j := fun j x y => by
      simp only [aU_rd, if_true]
      rw [if_neg y, if_neg (by omega), M1.2 j x]
    have Q58 : ∀ j, j < 8 → aU (aU m1 58 (8 + c) rm) 54 7 (nI (c + 1)) 58 j = hm 58 j := fun j x => by
      rw [aU_ne (by omega)]
      simp only [aU_rd, if_true]
      rw [if_neg (by omega), M1.1 58 (by omega)]
    have RA : f1 = 0 → ∃ R', RR w (aU c1 (w + 1) c rc) (aU (aU m1 58 (8 + c) rm) 54 7 (nI (c + 1))) (c + 1) R' := by
      intro z
      obtain ⟨_, _, v, e1, g1, _, u1, t1⟩ := G1 z
      have u1 := le_lit (n := 9) t1 (by omega) u1
      refine ⟨fun k => if k = c then v else R k, by simp only [aU_rd, if_true], fun k hk => ?_⟩
      by_cases y : k = c
      · subst y
        refine ⟨?_, ?_, ?_⟩
        · simp only [aU_rd, if_true]; exact e1
        · rw [aU_ne (by omega)]; simp only [aU_rd, if_true]; exact g1
        · show (if k = k then v else R k) ≤ 9
          rw [if_pos rfl]; exact u1
      · have := rr.2 k (by omega)
        refine ⟨?_, ?_, ?_⟩
        · simp only [aU_rd, if_true, if_neg y]; rw [C1 _ (by omega)]; exact this.1
        · rw [aU_ne (by omega)]; simp only [aU_rd, if_true]; rw [if_neg (by omega), M1.1 _ (by omega), if_neg y]; exact this.2.1
        · show (if k = c then v else R k) ≤ 9
          rw [if_neg y]; exact this.2.2
    have HM1 : m1 54 22 = nI f1 := J1.2.1.2.2.1
    generalize aU c1 (w + 1) c rc = hcA at JA EC QC RA
    generalize aU (aU m1 58 (8 + c) rm) 54 7 (nI (c + 1)) = hmA at JA EM QM Q54 Q58 RA
    obtain ⟨JA1, JA2, l1, l2, sq, f3⟩ := JA
    rw [EC, EM]
    by_cases g : f1 = 0
    · subst g
      have sq := sq rfl
      obtain ⟨_, lt1, _⟩ := G1 rfl
      obtain ⟨R', rA⟩ := RA rfl
      obtain ⟨h12, y1, y2, y3⟩ := m_here hT JA2 l2
      have sb := sk_b l1
      rw [← sq] at y1 y2
      rw [HM1, if_pos (show nI 0 = 0 from rfl), y1, bn2_s]
      have h127 : h12 54 7 = nI (c + 1) := by rw [y3.2 7 (by omega), rA.1]
      have QM2 : ∀ k, k ≠ 54 → k ≠ 58 → h12 k = hm k := fun k x y => by rw [y3.1 k x, QM k x y]
      have Q542 : ∀ j, j < 20 ∨ 23 < j → j ≠ 7 → h12 54 j = hm 54 j := fun j x y => by rw [y3.2 j x, Q54 j x y]
      have Q582 : ∀ j, j < 8 → h12 58 j = hm 58 j := fun j x => by rw [y3.1 58 (by omega), Q58 j x]
      have rr2 : ∀ hcB hmB : aH, Fc1 hcA hcB → Fm1 hmA hmB → RR w hcB hmB (c + 1) R' := fun hcB hmB x y => ⟨by rw [y.2 7 (by omega)]; exact rA.1, fun k hk => by rw [x _ (by omega), y.1 58 (by omega)]; exact rA.2 k hk⟩
      by_cases g44 : chr tx (sk tx j1) = 44
      · obtain ⟨jl, jc⟩ := chr_is (s := 44) hT (by omega) g44
        rw [if_pos g44, h127]
        by_cases g8 : 8 ≤ c + 1
        · have g8' : 8 ≤ nI (c + 1) := nI_le (a := 8) g8 (by omega)
          rw [if_pos g8', if_pos g8', y2.2.1, show fX8_want h12 0 1 (nI (sk tx j1)) = _ from want_0 (k := 1) y2 (by omega) (by omega), bn2_s, bi_if]
          have MF := MR_f y2 1 (nI (sk tx j1))
          rw [MF.2.2.1, if_neg (show ¬ nI 1 = 0 by decide)]
          refine ⟨hcA, _, _, rfl, rfl, QC, ?_, ?_, ?_, Or.inr ⟨j1, sk tx j1, p1, l1, by omega, JA1, MF, jc⟩⟩
          · intro k x y
            rw [aU_ne x, aU_ne x, QM2 k x y]
          · intro j x y
            rw [(Fm1_f h12 _ _).2 j x, Q542 j x y]
          · intro j x
            rw [aU_ne (by omega), aU_ne (by omega), Q582 j x]
        · have g8' : ¬ 8 ≤ nI (c + 1) := nI_ge (b := 8) (by omega) (by omega)
          obtain ⟨h3, z1, z2, z3⟩ := c_takeIf hT JA1 l1
          rw [if_neg g8', if_neg g8', want_1 y2, bn2_s, bi_it, y2.2.2.1, if_pos (show nI 0 = 0 from rfl), y2.2.1, nI_1, z3 44, if_pos g44, bn2_s, bi_it]
          obtain ⟨hc2, hm2, x2, e1, e2, e3, e4, e5, e6, e7⟩ := rainsL hT hw d (c + 1) n m (aU h3 1 2 (nI (sk tx j1 + 1))) (aU h12 54 20 (nI (sk tx j1 + 1))) R' (sk tx j1 + 1) (sk tx j1 + 1) p1 (by omega) (by omega) (by omega) (by omega) ⟨CR_at z1 _, MR_at y2 _, by omega, by omega, fun _ => rfl, by omega⟩ (rr2 _ _ (Fc1_t z2 (Fc1_at h3 _)) (Fm1_t y3 (Fm1_at h12 _)))
          refine ⟨hc2, hm2, x2, e1, e2, fun k x y => by rw [e3 k x y, aU_ne x, z2 k x, QC k x y], fun k x y => by rw [e4 k x y, aU_ne x, QM2 k x y], fun j x y => by rw [e5 j x y, (Fm1_at h12 _).2 j x, Q542 j x y], fun j x => by rw [e6 j x, aU_ne (by omega), Q582 j x], ?_⟩
          rcases e7 with ⟨u1, u2, u3, u4, u5, u6⟩ | u
          · left
            refine ⟨u1, u2, u3, u4, u5, fun z => ?_⟩
            obtain ⟨o1, o2⟩ := u6 z
            exact ⟨by omega, o2⟩
          · exact Or.inr u
      · rw [if_neg g44]
        by_cases g8 : 8 ≤ c + 1
        · rw [if_pos (show 8 ≤ nI (c + 1) from nI_le (a := 8) g8 (by omega))]
          exact ⟨hcA, h12, _, rfl, rfl, QC, QM2, Q542, Q582, Or.inl ⟨j1, sk tx j1, 0, p1, ⟨JA1, y2, l1, sb.2, fun _ => (sk_sk l1).symm, by omega⟩, fun _ => ⟨by omega, c + 1, R', by omega, by omega, rfl, rr2 _ _ (Fc1_r _) y3⟩⟩⟩
        · obtain ⟨h3, z1, z2, z3⟩ := c_takeIf hT JA1 l1
          rw [if_neg (show ¬ 8 ≤ nI (c + 1) from nI_ge (b := 8) (by omega) (by omega)), z3 44, if_neg g44, bn2_s, bi_if]
          exact ⟨h3, h12, _, rfl, rfl, fun k x y => by rw [z2 k x, QC k x y], QM2, Q542, Q582, Or.inl ⟨sk tx j1, sk tx j1, 0, p1, ⟨z1, y2, sb.2, sb.2, fun _ => rfl, by omega⟩, fun _ => ⟨by omega, c + 1, R', by omega, by omega, rfl, rr2 _ _ z2 y3⟩⟩⟩
    · have h0 : 0 < f1 := by omega
      rw [HM1, if_neg (nI_ne0 h0 (by omega))]
      refine ⟨hcA, hmA, nI (c + 1), ?_, rfl, QC, QM, Q54, Q58, Or.inl ⟨j1, k1, f1, p1, ⟨JA1, JA2, l1, l2, sq, f3⟩, fun z => absurd z g⟩⟩
      by_cases g8 : 8 ≤ nI (c + 1)
      · rw [if_pos g8]
      · rw [if_neg g8, c_takeIf_f JA1 h0 f3, bn2_s, bi_if]
theorem semiJ (hT : wfT tx) {i1 i2 : Nat} (J : JJ hc hm tx i1 i2 fk fp) : ∃ hc2 hm2, sC hc = some hc2 ∧ (∀ K n, sM K n hm = fX8_valley_L56 K n hm2) ∧ Fc1 hc hc2 ∧ Fm1 hm hm2 ∧ ∃ j1 j2 fk' fp', JJ hc2 hm2 tx j1 j2 fk' fp' ∧ (fk' = 0 → fk = 0 ∧ i1 ≤ j1) := by
  obtain ⟨HC, HM, l1, l2, eq, f3⟩ := J
  have t := hT.1
  by_cases g : fk = 0
  · subst g
    have eq := eq rfl
    have sb := sk_b l1
    obtain ⟨h3, z1, z2, z3⟩ := c_takeIf hT HC l1
    obtain ⟨h4, y1, y2, y3⟩ := m_here hT HM l2
    rw [← eq] at y1 y2
    unfold sC sM
    rw [z3 59]
    simp only [y1, bn2_s, HM.2.2.1, show nI 0 = 0 from rfl, if_true]
    by_cases g9 : chr tx (sk tx i1) = 59
    · obtain ⟨jl, _⟩ := chr_is (s := 59) hT (by omega) g9
      simp only [if_pos g9]
      rw [bn2_s, bi_it]
      refine ⟨_, aU h4 54 20 (nI (sk tx i1 + 1)), rfl, fun K n => ?_, Fc1_t z2 (Fc1_at h3 _), Fm1_t y3 (Fm1_at h4 _), sk tx i1 + 1, sk tx i1 + 1, 0, fp, ⟨CR_at z1 _, MR_at y2 _, by omega, by omega, fun _ => rfl, by omega⟩, fun _ => ⟨trivial, by omega⟩⟩
      rw [want_1 y2, bn2_s, bi_it, y2.2.1, nI_1]
    · simp only [if_neg g9]
      rw [bn2_s, bi_if, z1.2.1, fail_0 z1, bn_s]
      refine ⟨_, aU (aU h4 54 22 (nI 1)) 54 23 (nI (sk tx i1)), rfl, fun K n => ?_, Fc1_t z2 (Fc1_f h3 _ _), Fm1_t y3 (Fm1_f h4 _ _), sk tx i1, sk tx i1, 1, nI (sk tx i1), ⟨CR_f z1 1 _, MR_f y2 1 _, by omega, by omega, fun z => absurd z (by omega), by omega⟩, fun z => absurd z (by omega)⟩
      rw [y2.2.1, show fX8_want h4 0 1 (nI (sk tx i1)) = _ from want_0 (k := 1) y2 (by omega) (by omega), bn2_s, bi_if]
  · have h0 : 0 < fk := by omega
    refine ⟨hc, hm, ?_, fun K n => ?_, Fc1_r hc, Fm1_r hm, i1, i2, fk, fp, ⟨HC, HM, l1, l2, eq, f3⟩, fun z => absurd z g⟩
    · unfold sC
      rw [c_takeIf_f HC h0 f3, bn2_s, bi_if, fail_f HC h0 f3, bn_s]
    · unfold sM
      rw [HM.2.2.1, if_neg (nI_ne0 h0 (by omega))]
theorem semiX (hT : wfT tx) {e j2 : Nat} (HC : CR hc tx e 0 fp) (HM : MR hm tx j2 1 (nI (sk tx e))) (l1 : e ≤ tx.length) (l2 : j2 ≤ tx.length) (h44 : tx.getD (sk tx e) 999 = 44) : ∃ hc2, sC hc = some hc2 ∧ (∀ K n, sM K n hm = fX8_valley_L56 K n hm) ∧ Fc1 hc hc2 ∧ JJ hc2 hm tx (sk tx e) j2 1 (nI (sk tx e)) := by
  have t := hT.1
  have sb := sk_b l1
  obtain ⟨h3, z1, z2, z3⟩ := c_takeIf hT HC l1
  have ne : ¬ chr tx (sk tx e) = 59 := fun z => by
    have := (chr_is (s := 59) hT (by omega) z).2
    omega
  refine ⟨aU (aU h3 1 3 1) 1 4 (nI (sk tx e)), ?_, fun K n => ?_, Fc1_t z2 (Fc1_f h3 _ _), ⟨CR_f z1 1 _, HM, sb.2, l2, fun z => absurd z (by omega), by omega⟩⟩
  · unfold sC
    rw [z3 59, if_neg ne, bn2_s, bi_if, z1.2.1, fail_0 z1, bn_s]
  · unfold sM
    rw [HM.2.2.1, if_neg (show ¬ nI 1 = 0 by decide)]
/-- a clause and the sign behind it -/
theorem CO_semi {i : Nat} {hcA hmA : aH} (hT : wfT tx) (hw : 36 ≤ w) (H : CO w tx i hc hm hcA hmA) : ∃ hc2 hm2, sC hcA = some hc2 ∧ (∀ K n, sM K n hmA = fX8_valley_L56 K n hm2) ∧ CO w tx i hc hm hc2 hm2 := by
  obtain ⟨j1, j2, fk, fp, J, FC, FM, G⟩ := H
  obtain ⟨hc2, hm2, a1, a2, a3, a4, k1, k2, fk', fp', a5, a6⟩ := semiJ hT J
  refine ⟨hc2, hm2, a1, a2, k1, k2, fk', fp', a5, FcW_t FC (FcW_1 a3), FmP_t FM (FmP_1 a4), fun z => ?_⟩
  obtain ⟨z1, z2⟩ := a6 z
  obtain ⟨z3, V, Q, z4⟩ := G z1
  exact ⟨by omega, V, Q, DD_c hw a3 a4 z4⟩
theorem rainsJ (hT : wfT tx) (hw : 36 ≤ w) (q : Int32) (J : JJ hc hm tx i i 0 fp) (D : DD w hc hm V Q) (h3 : V 0 3 = 0) : ∃ hc2 hm2 hmA, bn (fX5_readRains hc w) sC = some hc2 ∧ fX8_takeRains hm q = some hmA ∧ (∀ K n, sM K n hmA = fX8_valley_L56 K n hm2) ∧ CO w tx i hc hm hc2 hm2 := by
  obtain ⟨d1, d2, d3, d4, d5, d6⟩ := D
  have t7 : hm 54 7 = nI 0 := by rw [d3.1.2.2.2.2.1, h3]
  obtain ⟨hcA, hmA, x2, e1, e2, e3, e4, e5, e6, e7⟩ := rainsL hT hw 8 0 1000 1000 hc hm (fun _ => 0) i i fp (by omega) (by omega) (by omega) (by omega) J ⟨t7, fun k hk => absurd hk (by omega)⟩
  have EC : fX5_readRains hc w = some (aU hcA w 4 x2) := e1
  have EM : fX8_takeRains hm q = some hmA := by
    unfold fX8_takeRains
    rw [t7, if_pos (show nI 0 = 0 from rfl), want_1 J.2.1, bn2_s]
    exact e2
  have FC : FcW w hc (aU hcA w 4 x2) := fun k x y => by rw [aU_ne (by omega), e3 k x (by omega)]
  have FM : FmP hm hmA := ⟨fun k x y => e4 k x (by omega), fun j x _ y _ _ => e5 j x y, fun j _ => by rw [e4 57 (by omega) (by omega)], e6, fun k x y j _ => by rw [e4 k (by omega) (by omega)]⟩
  rcases e7 with ⟨j1, j2, fk, fp', J2, G⟩ | ⟨e, j2, fp', l1, l2, HC, HM, h44⟩
  · have co : CO w tx i hc hm (aU hcA w 4 x2) hmA := by
      refine ⟨j1, j2, fk, fp', JJ_c (aU_ne (by omega)) (aU_ne (by omega)) (fun _ _ => rfl) rfl J2, FC, FM, fun z => ?_⟩
      obtain ⟨z1, c, R, c0, c8, ex, r7, rr⟩ := G z
      have cw : ∀ j, j ≠ 4 → aU hcA w 4 x2 w j = hc w j := fun j hj => by
        simp only [aU_rd, if_true, if_neg hj]
        rw [e3 w (by omega) (by omega)]
      refine ⟨z1, fun a b => if a = 0 then (if b = 3 then c else V 0 b) else if a = 1 then R b else V a b, Q, ⟨⟨?_, ?_, ?_, ?_, ?_, ?_, ?_⟩, ?_, ?_⟩, ?_, ⟨⟨?_, ?_, ?_, ?_, ?_, ?_, ?_⟩, ?_, ?_⟩, ?_, ⟨⟨d5.1.1, d5.1.2.1, d5.1.2.2.1, c8, d5.1.2.2.2.2.1, d5.1.2.2.2.2.2.1, d5.1.2.2.2.2.2.2⟩, fun k hk => (rr k hk).2.2, d5.2.2⟩, d6⟩
      · rw [cw 0 (by omega)]; exact d1.1.1
      · rw [cw 1 (by omega)]; exact d1.1.2.1
      · rw [cw 2 (by omega)]; exact d1.1.2.2.1
      · rw [cw 3 (by omega)]; exact d1.1.2.2.2.1
      · simp only [aU_rd, if_true]; exact ex
      · rw [cw 5 (by omega)]; exact d1.1.2.2.2.2.2.1
      · rw [cw 6 (by omega)]; exact d1.1.2.2.2.2.2.2
      · intro k hk
        rw [aU_ne (by omega)]; exact (rr k hk).1
      · intro a ha
        rw [aU_ne (by omega), aU_ne (by omega), aU_ne (by omega), e3 _ (by omega) (by omega), e3 _ (by omega) (by omega), e3 _ (by omega) (by omega)]; exact d1.2.2 a ha
      · intro p hp
        rw [aU_ne (by omega), aU_ne (by omega), aU_ne (by omega), e3 _ (by omega) (by omega), e3 _ (by omega) (by omega), e3 _ (by omega) (by omega)]; exact d2 p hp
      · rw [e5 3 (by omega) (by omega)]; exact d3.1.1
      · rw [e4 57 (by omega) (by omega)]; exact d3.1.2.1
      · rw [e4 57 (by omega) (by omega)]; exact d3.1.2.2.1
      · rw [e4 57 (by omega) (by omega)]; exact d3.1.2.2.2.1
      · exact r7
      · rw [e5 12 (by omega) (by omega)]; exact d3.1.2.2.2.2.2.1
      · rw [e5 17 (by omega) (by omega)]; exact d3.1.2.2.2.2.2.2
      · intro k hk
        exact (rr k hk).2.1
      · intro a ha
        rw [e4 59 (by omega) (by omega), e4 60 (by omega) (by omega), e4 61 (by omega) (by omega)]; exact d3.2.2 a ha
      · intro p hp
        rw [e4 62 (by omega) (by omega), e4 63 (by omega) (by omega), e4 64 (by omega) (by omega)]; exact d4 p hp
    obtain ⟨hc2, hm2, s1, s2, s3⟩ := CO_semi hT hw co
    exact ⟨hc2, hm2, hmA, by rw [EC, bn_s]; exact s1, EM, s2, s3⟩
  · obtain ⟨hc2, s1, s2, s3, s4⟩ := semiX hT (CR_c (h2 := aU hcA w 4 x2) (aU_ne (by omega)) (aU_ne (by omega)) HC) HM l1 l2 h44
    exact ⟨hc2, hmA, hmA, by rw [EC, bn_s]; exact s1, EM, s2, sk tx e, j2, 1, _, s4, FcW_t FC (FcW_1 s3), FM, fun z => absurd z (by omega)⟩
theorem clauseJ (hT : wfT tx) (hw : 36 ≤ w) (HC : CR hc tx i 0 fp) (HM : MR hm tx i 0 fp) (hi : i < tx.length) (h32 : ¬ tx.getD i 999 = 32) (D : DD w hc hm V Q) : ∃ hc2 hm2, fX5_readClause hc w = some hc2 ∧ (∀ K n, bn (fX8_takeClause hm) (sM K n) = fX8_valley_L56 K n hm2) ∧ CO w tx (i + 1) hc hm hc2 hm2 := by
  have t := hT.1
  have cl := getT_le hT i
  have ce := chr_lt (tx := tx) hi
  obtain ⟨h2, y1, y2, y3⟩ := m_here hT HM (by omega)
  rw [sk_id h32, ce] at y1
  rw [sk_id h32] at y2
  have C1 := CR_at HC (i + 1)
  have M1 := MR_at y2 (i + 1)
  have FC1 : Fc1 hc (aU hc 1 2 (nI (i + 1))) := Fc1_at hc _
  have FM1 : Fm1 hm (aU h2 54 20 (nI (i + 1))) := Fm1_t y3 (Fm1_at h2 _)
  have D1 := DD_c hw FC1 FM1 D
  have J1 : JJ (aU hc 1 2 (nI (i + 1))) (aU h2 54 20 (nI (i + 1))) tx (i + 1) (i + 1) 0 fp := ⟨C1, M1, hi, hi, fun _ => rfl, by omega⟩
  have cur := c_cur hT HC (by omega)
  rw [ce] at cur
  -- a fault told at the word
  have flt : ∀ k, 0 < k → k ≤ 3 → fX5_readClause hc w = some (aU (aU hc 1 3 (nI k)) 1 4 (nI i)) → fX8_takeClause hm = some (aU (aU (aU h2 54 20 (nI (i + 1))) 54 22 (nI k)) 54 23 (nI i)) → ∃ hc2 hm2, fX5_readClause hc w = some hc2 ∧ (∀ K n, bn (fX8_takeClause hm) (sM K n) = fX8_valley_L56 K n hm2) ∧ CO w tx (i + 1) hc hm hc2 hm2 := by
    intro k k0 k3 e1 e2
    have MF := MR_f M1 k (nI i)
    refine ⟨_, _, e1, fun K n => ?_, i, i + 1, k, nI i, ⟨CR_f HC k (nI i), MF, by omega, hi, fun z => absurd z (by omega), k3⟩, FcW_1 (Fc1_f hc _ _), FmP_1 (Fm1_t FM1 (Fm1_f _ _ _)), fun z => absurd z (by omega)⟩
    rw [e2, bn_s]
    unfold sM
    rw [MF.2.2.1, if_neg (nI_ne0 k0 (by omega))]
  -- a clause read
  have red : ∀ hcA hmA, CO w tx (i + 1) (aU hc 1 2 (nI (i + 1))) (aU h2 54 20 (nI (i + 1))) hcA hmA → fX5_readClause hc w = sC hcA → fX8_takeClause hm = some hmA → ∃ hc2 hm2, fX5_readClause hc w = some hc2 ∧ (∀ K n, bn (fX8_takeClause hm) (sM K n) = fX8_valley_L56 K n hm2) ∧ CO w tx (i + 1) hc hm hc2 hm2 := by
    intro hcA hmA co e1 e2
    obtain ⟨hc2, hm2, s1, s2, j1, j2, fk, fp', s3, s4, s5, s6⟩ := CO_semi hT hw co
    exact ⟨hc2, hm2, by rw [e1]; exact s1, fun K n => by rw [e2, bn_s]; exact s2 K n, j1, j2, fk, fp', s3, FcW_t (FcW_1 FC1) s4, FmP_t (FmP_1 FM1) s5, s6⟩
  have a0 : hc w 0 = nI (V 0 6) := D.1.1.1
  have a4 : hc w 4 = nI (V 0 3) := D.1.1.2.2.2.2.1
  have a5 : hc w 5 = nI (V 0 4) := D.1.1.2.2.2.2.2.1
  have a6 : hc w 6 = nI (V 0 5) := D.1.1.2.2.2.2.2.2
  have D1' := D1
  obtain ⟨-, -, D1s, -, hV, -⟩ := D1'
  have b3 : aU h2 54 20 (nI (i + 1)) 54 3 = nI (V 0 6) := D1s.1.1
  have b3' : h2 54 3 = nI (V 0 6) := by rw [← b3]; simp [aU_rd]
  have b7 : aU h2 54 20 (nI (i + 1)) 54 7 = nI (V 0 3) := D1s.1.2.2.2.2.1
  have b12 : aU h2 54 20 (nI (i + 1)) 54 12 = nI (V 0 4) := D1s.1.2.2.2.2.2.1
  have b17 : aU h2 54 20 (nI (i + 1)) 54 17 = nI (V 0 5) := D1s.1.2.2.2.2.2.2
  have v3 := hV.1.2.2.2.1
  have v4 := hV.1.2.2.2.2.1
  have v5 := hV.1.2.2.2.2.2.1
  have v6 := hV.1.2.2.2.2.2.2
  have w3 : ∀ q, fX8_want (aU h2 54 20 (nI (i + 1))) 0 3 q = some (false, aU (aU (aU h2 54 20 (nI (i + 1))) 54 22 (nI 3)) 54 23 q) := fun q => want_0 (k := 3) M1 (by omega) (by omega)
  have w1 : ∀ q, fX8_want (aU h2 54 20 (nI (i + 1))) 0 1 q = some (false, aU (aU (aU h2 54 20 (nI (i + 1))) 54 22 (nI 1)) 54 23 q) := fun q => want_0 (k := 1) M1 (by omega) (by omega)
  generalize tx.getD i 999 = c at cl ce y1 cur
  by_cases g118 : c = 118
  · subst g118
    by_cases gt : V 0 6 = 0
    · obtain ⟨hcA, hmA, e1, e2, e3⟩ := weatherJ hT hw (nI i) J1 D1 gt
      refine red hcA hmA e3 ?_ ?_
      · unfold fX5_readClause fX5_mayStand fX5_isTooMany
        rw [cur, bn_s, if_pos (show nI 118 = 118 from rfl), bn_s, bi_it, if_neg (show ¬ nI 118 = 100 by decide), if_neg (show ¬ nI 118 = 104 by decide), if_pos (show nI 118 = 118 from rfl), a0, gt, show ib (nI 0) = some false from rfl, bn_s, bi_if, if_neg (show ¬ nI 118 = 100 by decide), if_neg (show ¬ nI 118 = 104 by decide), if_pos (show nI 118 = 118 from rfl), HC.2.1, nI_1, e1, bn_s]
        rfl
      · unfold fX8_takeClause
        rw [y1, bn2_s, if_pos (show nI 118 = 118 from rfl), y2.2.1, nI_1, want_1 M1, bn2_s, bi_it, e2, bn_s]
    · have g1 : V 0 6 = 1 := by omega
      refine flt 3 (by omega) (by omega) ?_ ?_
      · unfold fX5_readClause fX5_mayStand fX5_isTooMany
        rw [cur, bn_s, if_pos (show nI 118 = 118 from rfl), bn_s, bi_it, if_neg (show ¬ nI 118 = 100 by decide), if_neg (show ¬ nI 118 = 104 by decide), if_pos (show nI 118 = 118 from rfl), a0, g1, show ib (nI 1) = some true from rfl, bn_s, bi_it, HC.2.1, fail_0 HC, bn_s]
        rfl
      · unfold fX8_takeClause fX8_takeValley
        rw [y1, bn2_s, if_pos (show nI 118 = 118 from rfl), y2.2.1, nI_1, want_1 M1, bn2_s, bi_it, b3, g1, if_neg (show ¬ nI 1 = 0 by decide), w3, bn2_s, bi_if, bn_s]
  · have n118 : ¬ nI c = 118 := fun z => g118 ((nI_eq (b := 118) (by omega) (by omega)).mp z)
    by_cases gt : V 0 6 = 0
    · refine flt 1 (by omega) (by omega) ?_ ?_
      · unfold fX5_readClause fX5_mayStand
        rw [cur, bn_s, if_neg n118, a0, gt, if_pos (show nI 0 = 0 from rfl), bn_s, bi_if, HC.2.1, fail_0 HC, bn_s]
        rfl
      · unfold fX8_takeClause
        rw [y1, bn2_s, if_neg n118, b3', gt, if_pos (show nI 0 = 0 from rfl), y2.2.1, nI_1, w1, bn2_s, bi_if]
    · have g1 : V 0 6 = 1 := by omega
      have z6 : ¬ nI (V 0 6) = 0 := by rw [g1]; decide
      by_cases g100 : c = 100
      · subst g100
        by_cases g3 : V 0 3 = 0
        · obtain ⟨hc2, hm2, hmA, e1, e2, e3, j1, j2, fk, fp', s3, s4, s5, s6⟩ := rainsJ hT hw (nI i) J1 D1 g3
          refine ⟨hc2, hm2, ?_, fun K n => ?_, j1, j2, fk, fp', s3, FcW_t (FcW_1 FC1) s4, FmP_t (FmP_1 FM1) s5, s6⟩
          · unfold fX5_readClause fX5_mayStand fX5_isTooMany
            rw [cur, bn_s, if_neg n118, a0, if_neg z6, if_pos (show nI 100 = 100 from rfl), bn_s, bi_it, if_pos (show nI 100 = 100 from rfl), a4, g3, if_pos (show nI 0 ≤ 0 from Int32.le_refl _), bn_s, bi_if, if_pos (show nI 100 = 100 from rfl), HC.2.1, nI_1]
            exact e1
          · unfold fX8_takeClause
            rw [y1, bn2_s, if_neg n118, b3', if_neg z6, y2.2.1, nI_1, want_1 M1, bn2_s, bi_it, if_pos (show nI 100 = 100 from rfl), e2, bn_s, bn_s]
            exact e3 K n
        · refine flt 3 (by omega) (by omega) ?_ ?_
          · unfold fX5_readClause fX5_mayStand fX5_isTooMany
            rw [cur, bn_s, if_neg n118, a0, if_neg z6, if_pos (show nI 100 = 100 from rfl), bn_s, bi_it, if_pos (show nI 100 = 100 from rfl), a4, if_neg (show ¬ nI _ ≤ 0 from nI_ge (a := 0) (by omega) (by omega)), bn_s, bi_it, HC.2.1, fail_0 HC, bn_s]
            rfl
          · unfold fX8_takeClause fX8_takeRains
            rw [y1, bn2_s, if_neg n118, b3', if_neg z6, y2.2.1, nI_1, want_1 M1, bn2_s, bi_it, if_pos (show nI 100 = 100 from rfl), b7, if_neg (nI_ne0 (by omega) (by omega)), w3, bn2_s, show bi false = 0 from rfl, L19_0 1000 (by omega), bn_s]
      · have n100 : ¬ nI c = 100 := fun z => g100 ((nI_eq (b := 100) (by omega) (by omega)).mp z)
        by_cases g104 : c = 104
        · subst g104
          by_cases g4 : V 0 4 < 4
          · obtain ⟨hcA, hmA, e1, e2, e3⟩ := handJ hT hw (nI i) J1 D1 g4
            refine red hcA hmA e3 ?_ ?_
            · unfold fX5_readClause fX5_mayStand fX5_isTooMany
              rw [cur, bn_s, if_neg n118, a0, if_neg z6, if_neg n100, if_pos (show nI 104 = 104 from rfl), bn_s, bi_it, if_neg n100, if_pos (show nI 104 = 104 from rfl), a5, if_pos (show nI _ < 4 from nI_lt (b := 4) g4 (by omega)), bn_s, bi_if, if_neg n100, if_pos (show nI 104 = 104 from rfl), HC.2.1, nI_1, e1, bn_s]
              rfl
            · unfold fX8_takeClause
              rw [y1, bn2_s, if_neg n118, b3', if_neg z6, y2.2.1, nI_1, want_1 M1, bn2_s, bi_it, if_neg n100, if_pos (show nI 104 = 104 from rfl), e2, bn_s]
          · refine flt 3 (by omega) (by omega) ?_ ?_
            · unfold fX5_readClause fX5_mayStand fX5_isTooMany
              rw [cur, bn_s, if_neg n118, a0, if_neg z6, if_neg n100, if_pos (show nI 104 = 104 from rfl), bn_s, bi_it, if_neg n100, if_pos (show nI 104 = 104 from rfl), a5, if_neg (show ¬ nI _ < 4 from nI_nlt (b := 4) (by omega) (by omega)), bn_s, bi_it, HC.2.1, fail_0 HC, bn_s]
              rfl
            · unfold fX8_takeClause fX8_takeHand
              rw [y1, bn2_s, if_neg n118, b3', if_neg z6, y2.2.1, nI_1, want_1 M1, bn2_s, bi_it, if_neg n100, if_pos (show nI 104 = 104 from rfl), b12, if_pos (show 4 ≤ nI _ from nI_le (a := 4) (by omega) (by omega)), w3, bn2_s, bi_if, bn_s]
        · have n104 : ¬ nI c = 104 := fun z => g104 ((nI_eq (b := 104) (by omega) (by omega)).mp z)
          by_cases g112 : c = 112
          · subst g112
            by_cases g5 : V 0 5 < 4
            · obtain ⟨hcA, hmA, e1, e2, e3⟩ := paperJ hT hw (nI i) J1 D1 g5
              refine red hcA hmA e3 ?_ ?_
              · unfold fX5_readClause fX5_mayStand fX5_isTooMany
                rw [cur, bn_s, if_neg n118, a0, if_neg z6, if_neg n100, if_neg n104, if_pos (show nI 112 = 112 from rfl), bn_s, bi_it, if_neg n100, if_neg n104, if_neg n118, a6, if_pos (show nI _ < 4 from nI_lt (b := 4) g5 (by omega)), bn_s, bi_if, if_neg n100, if_neg n104, if_neg n118, HC.2.1, nI_1, e1, bn_s]
                rfl
              · unfold fX8_takeClause
                rw [y1, bn2_s, if_neg n118, b3', if_neg z6, y2.2.1, nI_1, want_1 M1, bn2_s, bi_it, if_neg n100, if_neg n104, if_pos (show nI 112 = 112 from rfl), want_1 M1, bn2_s, bi_it, e2, bn_s]
            · refine flt 3 (by omega) (by omega) ?_ ?_
              · unfold fX5_readClause fX5_mayStand fX5_isTooMany
                rw [cur, bn_s, if_neg n118, a0, if_neg z6, if_neg n100, if_neg n104, if_pos (show nI 112 = 112 from rfl), bn_s, bi_it, if_neg n100, if_neg n104, if_neg n118, a6, if_neg (show ¬ nI _ < 4 from nI_nlt (b := 4) (by omega) (by omega)), bn_s, bi_it, HC.2.1, fail_0 HC, bn_s]
                rfl
              · unfold fX8_takeClause fX8_takePaper
                rw [y1, bn2_s, if_neg n118, b3', if_neg z6, y2.2.1, nI_1, want_1 M1, bn2_s, bi_it, if_neg n100, if_neg n104, if_pos (show nI 112 = 112 from rfl), want_1 M1, bn2_s, bi_it, b17, if_pos (show 4 ≤ nI _ from nI_le (a := 4) (by omega) (by omega)), w3, bn2_s, bi_if, bn_s]
          · have n112 : ¬ nI c = 112 := fun z => g112 ((nI_eq (b := 112) (by omega) (by omega)).mp z)
            refine flt 1 (by omega) (by omega) ?_ ?_
            · unfold fX5_readClause fX5_mayStand
              rw [cur, bn_s, if_neg n118, a0, if_neg z6, if_neg n100, if_neg n104, if_neg n112, bn_s, bi_if, HC.2.1, fail_0 HC, bn_s]
              rfl
            · unfold fX8_takeClause
              rw [y1, bn2_s, if_neg n118, b3', if_neg z6, y2.2.1, nI_1, want_1 M1, bn2_s, bi_it, if_neg n100, if_neg n104, if_neg n112, w1, bn2_s, bi_if]
theorem loopJ (hT : wfT tx) (hw : 36 ≤ w) : ∀ d x n m (hc hm : aH) i1 i2 fk fp, tx.length ≤ i1 + d → d < n → d < m → JJ hc hm tx i1 i2 fk fp → (fk = 0 → sk tx i1 = i1 ∧ x ≤ i1 ∧ ∃ V Q, DD w hc hm V Q) → ∃ hc2 hm2 j1 j2 fk2 fp2, (∀ K, fX5_readInto_L21 K w n hc (nI x) = K hc2) ∧ (∀ K2, fX8_valley_L56 K2 m hm = K2 hm2) ∧ JJ hc2 hm2 tx j1 j2 fk2 fp2 ∧ FcW w hc hc2 ∧ FmP hm hm2 ∧ (fk2 = 0 → ∃ V Q, DD w hc2 hm2 V Q)
  | d, x, 0, m, _, _, _, _, _, _, _, hn, _, _, _ => absurd hn (by omega)
  | d, x, n, 0, _, _, _, _, _, _, _, _, hn, _, _ => absurd hn (by omega)
  | d, x, n + 1, m + 1, hc, hm, i1, i2, fk, fp, hd, hn, hm', J, G => by
    have t := hT.1
    have J0 := J
    obtain ⟨HC, HM, l1, l2, eq, f3⟩ := J
    by_cases g : fk = 0
    · subst g
      obtain ⟨s1, hx, V, Q, D⟩ := G rfl
      have eq := eq rfl
      rw [s1] at eq
      obtain ⟨h6, y1, y2, y3⟩ := m_here hT HM l2
      rw [← eq] at y1 y2
      by_cases ge : i1 < tx.length
      · have h32 : ¬ tx.getD i1 999 = 32 := by
          have := sk_n l1 (by rw [s1]; exact ge)
          rw [s1] at this; exact this
        have cl := getT_le hT i1
        obtain ⟨hcB, hmB, e1, e2, j1, j2, fk', fp', e3, e4, e5, e6⟩ := clauseJ hT hw HC y2 ge h32 (DD_c hw (Fc1_r hc) y3 D)
        obtain ⟨e31, e32, e33, e34, e35, e36⟩ := e3
        obtain ⟨hcC, q1, q2, q3⟩ := c_skip hT e31 e33
        have sb := sk_b e33
        cases d with
        | zero => omega
        | succ d =>
          have dd : fk' = 0 → i1 + 1 ≤ j1 := fun z => (e6 z).1
          by_cases gf : fk' = 0
          · have i11 := dd gf
            obtain ⟨hc2, hm2, k1, k2, fk2, fp2, r1, r2, r3, r4, r5, r6⟩ := loopJ hT hw d (x + 1) n m hcC hmB (sk tx j1) j2 fk' fp' (by omega) (by omega) (by omega) ⟨q2, e32, sb.2, e34, fun z => by rw [sk_sk e33]; exact e35 z, e36⟩ (fun z => by
              obtain ⟨o1, V', Q', o2⟩ := e6 z
              exact ⟨sk_sk e33, by omega, V', Q', DD_c hw q3 (Fm1_r hmB) o2⟩)
            refine ⟨hc2, hm2, k1, k2, fk2, fp2, fun K => ?_, fun K2 => ?_, r3, FcW_t e4 (FcW_t (FcW_1 q3) r4), FmP_t (FmP_1 y3) (FmP_t e5 r5), r6⟩
            · rw [fX5_readInto_L21, if_neg (show ¬ 230 ≤ nI x from nI_ge (b := 230) (by omega) (by omega)), HC.1.1, HC.2.1, if_neg (nI_ge ge (by omega)), HC.2.2.1, if_pos (show nI 0 = 0 from rfl), e1, bn_s, q1, bn_s, nI_1]
              exact r1 K
            · rw [fX8_valley_L56, HM.2.2.1, if_pos (show nI 0 = 0 from rfl), y1, bn2_s, chr_lt ge, if_neg (nI_pos (by omega))]
              exact (e2 K2 m).trans (r2 K2)
          · have f0 : 0 < fk' := by omega
            refine ⟨hcC, hmB, sk tx j1, j2, fk', fp', fun K => ?_, fun K2 => ?_, ⟨q2, e32, sb.2, e34, fun z => absurd z gf, e36⟩, FcW_t e4 (FcW_1 q3), FmP_t (FmP_1 y3) e5, fun z => absurd z gf⟩
            · rw [fX5_readInto_L21, if_neg (show ¬ 230 ≤ nI x from nI_ge (b := 230) (by omega) (by omega)), HC.1.1, HC.2.1, if_neg (nI_ge ge (by omega)), HC.2.2.1, if_pos (show nI 0 = 0 from rfl), e1, bn_s, q1, bn_s]
              obtain ⟨n, rfl⟩ : ∃ n', n = n' + 1 := ⟨n - 1, by omega⟩
              rw [fX5_readInto_L21, q2.2.2.1, if_neg (nI_ne0 f0 (by omega)), ite_self, ite_self]
            · rw [fX8_valley_L56, HM.2.2.1, if_pos (show nI 0 = 0 from rfl), y1, bn2_s, chr_lt ge, if_neg (nI_pos (by omega))]
              refine (e2 K2 m).trans ?_
              obtain ⟨m, rfl⟩ : ∃ m', m = m' + 1 := ⟨m - 1, by omega⟩
              rw [fX8_valley_L56, e32.2.2.1, if_neg (nI_ne0 f0 (by omega))]
      · have ee : i1 = tx.length := by omega
        refine ⟨hc, h6, i1, i1, 0, fp, fun K => ?_, fun K2 => ?_, ⟨HC, y2, l1, l1, fun _ => rfl, by omega⟩, fun _ _ _ => rfl, FmP_1 y3, fun _ => ⟨V, Q, DD_c hw (Fc1_r hc) y3 D⟩⟩
        · rw [fX5_readInto_L21, HC.1.1, HC.2.1, if_pos (nI_le (a := tx.length) (by omega) (by omega)), ite_self]
        · rw [fX8_valley_L56, HM.2.2.1, if_pos (show nI 0 = 0 from rfl), y1, bn2_s]
          unfold chr
          rw [if_neg ge, if_pos (by decide)]
    · have f0 : 0 < fk := by omega
      refine ⟨hc, hm, i1, i2, fk, fp, fun K => ?_, fun K2 => ?_, J0, fun _ _ _ => rfl, FmP_1 (Fm1_r hm), fun z => absurd z g⟩
      · rw [fX5_readInto_L21, HC.2.2.1, if_neg (nI_ne0 f0 (by omega)), ite_self, ite_self]
      · rw [fX8_valley_L56, HM.2.2.1, if_neg (nI_ne0 f0 (by omega))]
end Text
