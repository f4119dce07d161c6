/-! letter; feed, seed, write, measure, tear -/
theorem aU_rd (h : aH) (k j : Nat) (x : Int32) (k2 j2 : Nat) : aU h k j x k2 j2 = if k2 = k then (if j2 = j then x else h k2 j2) else h k2 j2 := by
  unfold aU
  by_cases e : k2 = k
  · subst e; rw [if_pos rfl, if_pos rfl]; rfl
  · rw [if_neg e, if_neg e]
/-- what a call must give: both sides answer alike, and the state is held again -/
def Ok2 (h : aH) (f : aH → Option (Int32 × aH)) (g : aH → Option (Int32 × aH)) : Prop := ∃ r h1 h2, f h = some (r, h1) ∧ g h1 = some (r, h2) ∧ Inv h2
def Ok1 (h : aH) (f : aH → Option Int32) (g : aH → Option Int32) : Prop := ∃ r, f h = some r ∧ g h = some r
theorem Ok2_same {h : aH} {f g : aH → Option (Int32 × aH)} {r : Int32} (hI : Inv h) (h1 : f h = some (r, h)) (h2 : g h = some (r, h)) : Ok2 h f g := ⟨r, h, h, h1, h2, hI⟩
section Ops4
variable {h : aH} {v w : Nat} {tx : List Nat} {ft : Int32} {V : Vd} {P : Ps} {bt sd : Nat} {im : Im} {un : Un} {ms : Nat → Nat} {bk : Bk}
theorem cm_cntF (hA : CA h 3 P bt sd) (hM : MA h 0 P bt) (hw : wfV V) (hP : wfP V P) {p : Nat} (hp : p < 4) : ∀ d l n m acc, l + d = (P p).length → d < n → d < m → ∃ r, fX0_countForged_L11 (fun z => some z) h 3 (nI p) (nI (P p).length) n acc (nI l) = some r ∧ fX8_forgedIn_L4 (fun z => some z) h (nI p) m acc (nI l) = some r
  | d, l, 0, m, acc, _, hn, _ => absurd hn (by omega)
  | d, l, n, 0, acc, _, _, hm => absurd hm (by omega)
  | 0, l, n + 1, m + 1, acc, hl, hn, hm => by
    have h12 := (hP p).1
    rw [fX0_countForged_L11, fX8_forgedIn_L4, if_pos (nI_le (by omega) (by omega)), if_pos (ck48 hp), m_count hM hp, if_pos (nI_le (by omega) (by omega))]
    exact ⟨_, rfl, rfl⟩
  | d + 1, l, n + 1, m + 1, acc, hl, hn, hm => by
    have h12 := (hP p).1
    have hx := getD_at (L := P p) (show l < (P p).length by omega)
    generalize (P p).getD l (0, 0, 0) = x at hx
    have b := wfP_at hP hx
    rw [fX0_countForged_L11, fX8_forgedIn_L4, if_neg (nI_ge (by omega) (by omega)), if_pos (ck48 hp), m_count hM hp, if_neg (nI_ge (by omega) (by omega)), c_forged hA hp h12 hx b.1.2.2, bn_s, m_air hM hw hP hx, bn_s, one_t, one_f, bn_s, bn_s, nI_1]
    by_cases g : x.2.2 = 0
    · rw [decide_eq_false (by simpa using g), bi_if, if_pos ((mI_neg (by omega)).mpr g), show acc + 0 = acc from Int32.add_zero _]
      exact cm_cntF hA hM hw hP hp d (l + 1) n m acc (by omega) (by omega) (by omega)
    · rw [decide_eq_true g, bi_it, if_neg (fun z => g ((mI_neg (by omega)).mp z))]
      exact cm_cntF hA hM hw hP hp d (l + 1) n m (acc + 1) (by omega) (by omega) (by omega)
theorem op_letter (R : RD h v V P bt sd) (hmc : MsC h ms) (hmm : MsM h ms) (hwm : wfM ms) (x y z : Int32) : ∃ r, fX7_letter h x y z = some r ∧ fX8_letter h x y z = some r := by
  obtain ⟨hv, hC, hL, hA, hV, hM, hw, hP⟩ := R
  have w5 := hw.1.2.2.2.2.2.1
  unfold fX7_letter fX8_letter
  rw [hv, bn_s, c_hasPaper hC hw, bn_s, m_isPaper hV hw, bn_s, m_isLetter hV hM hw hP, bn_s]
  cases hx : ck x (V 0 5) with
  | false => exact ⟨_, rfl, rfl⟩
  | true =>
    obtain ⟨p, hp, rfl⟩ := ck_of (by omega) hx
    have h12 := (hP p).1
    have hm := hwm p
    rw [bi_it, bi_it, c_hasLetter hA (by omega) h12, bn_s, tn_nI (by omega), Bool.true_and]
    by_cases gy : y = -1
    · rw [if_pos gy, if_pos gy]
      unfold fX7_ofAllLetters
      obtain ⟨rf, f1, f2⟩ := cm_cntF hA hM hw hP (p := p) (by omega) (P p).length 0 1000 1000 0 (by omega) (by omega) (by omega)
      have e1 : fX0_countForged h 3 (nI p) = some rf := by
        unfold fX0_countForged
        rw [c_count hA (by omega), bn_s]
        exact f1
      have e2 : fX8_forgedIn h (nI p) = some rf := f2
      rw [c_count hA (by omega), e1, e2, if_pos (ck48 (by omega)), m_count hM (by omega)]
      simp only [bn_s]
      by_cases g0 : z = 0
      · simp only [if_pos g0, bn_s]; exact ⟨_, rfl, rfl⟩
      · simp only [if_neg g0]
        by_cases g1 : z = 1
        · simp only [if_pos g1, bn_s]; exact ⟨_, rfl, rfl⟩
        · simp only [if_neg g1, bn_s]; exact ⟨_, rfl, rfl⟩
    · rw [if_neg gy, if_neg gy]
      cases hy : ck y (P p).length with
      | false => exact ⟨_, rfl, rfl⟩
      | true =>
        obtain ⟨l, hl2, rfl⟩ := ck_of (by omega) hy
        have hxl := List.getElem?_eq_getElem hl2
        have b := wfP_at hP hxl
        have c4 : ck (nI p) 4 = true := ck_t (by omega) (by omega)
        unfold fX7_isMeasured
        rw [bi_it, bi_it, c_lookOf hC hL hw hP hA hxl, m_lookOf hV hM hw hP hxl, c_hour hA (by omega) h12 hxl, m_hour hM hw hP hxl, c_writer hA (by omega) h12 hxl, m_hand hM hw hP hxl, c_forged hA (by omega) h12 hxl b.1.2.2, m_air hM hw hP hxl, c4, if_pos rfl, if_pos rfl, tn_nI (by omega), hmc p (by omega), hmm p (by omega), bitS (by omega) (by omega), one_t, one_f]
        simp only [bn_s]
        by_cases g0 : z = 0
        · simp only [if_pos g0]; exact ⟨_, rfl, rfl⟩
        · simp only [if_neg g0]
          by_cases g1 : z = 1
          · simp only [if_pos g1]; exact ⟨_, rfl, rfl⟩
          · simp only [if_neg g1]
            by_cases g2 : z = 2
            · simp only [if_pos g2]; exact ⟨_, rfl, rfl⟩
            · simp only [if_neg g2]
              by_cases g3 : z = 3
              · simp only [if_pos g3]
                have hb : ms p / 2 ^ l % 2 = 0 ∨ ms p / 2 ^ l % 2 = 1 := by omega
                rcases hb with q | q
                · rw [q]; exact ⟨_, rfl, rfl⟩
                · rw [q]; exact ⟨_, rfl, rfl⟩
              · simp only [if_neg g3]
                by_cases g4 : z = 4
                · simp only [if_pos g4]
                  by_cases g : ((P p)[l]).2.2 = 0
                  · rw [decide_eq_false (by simpa using g), if_pos ((mI_neg (by omega)).mpr g)]; exact ⟨_, rfl, rfl⟩
                  · rw [decide_eq_true g, if_neg (fun z => g ((mI_neg (by omega)).mp z))]; exact ⟨_, rfl, rfl⟩
                · simp only [if_neg g4]; exact ⟨_, rfl, rfl⟩
theorem op_feed (hC : RC h v w tx ft V P bt sd im un ms bk) (hM : RM h tx ft V P bt sd im un ms bk) (hW : WF v w tx V P bt sd im un ms bk) (x : Int32) : Ok2 h (fun h => fX7_feed h x) (fun h => fX8_feed h x) := by
  have hI : Inv h := ⟨v, w, tx, ft, V, P, bt, sd, im, un, ms, bk, hC, hM, hW⟩
  have hW0 := hW
  obtain ⟨w1, w2, w3, w4, w5, w6, w7, w8, w9, w10⟩ := hW
  have hT := hC.2.1
  have hTM := hM.2.1
  have e7 : fX7_feed h x = if ck x 256 = true then (if tx.length < 230 then some (nI (tx.length + 1), aU (aU h 2 tx.length x) 1 1 (nI (tx.length + 1))) else some (-1000000004, h)) else some (-1000000002, h) := by
    unfold fX7_feed fX5_take
    rw [ck_le 255 255 (by omega) rfl, hT.1, if_neg (nI_pos (by have := w2.1; omega)), nI_1]
    cases hx : ck x (255 + 1) with
    | false => rfl
    | true =>
      rw [if_pos rfl, if_pos rfl]
      by_cases g : tx.length < 230
      · rw [if_pos (show nI _ < 230 from nI_lt (b := 230) g (by omega)), if_pos (ck_t g (by omega)), if_pos g, bn2_s, tn_nI (by omega)]
      · rw [if_neg (show ¬ nI _ < 230 from nI_nlt (b := 230) (by omega) (by have := w2.1; omega)), if_neg g, bn2_s]
  have e8 : ∀ h1 : aH, TxM h1 tx → fX8_feed h1 x = if ck x 256 = true then (if tx.length < 230 then some (nI (tx.length + 1), aU (aU h1 65 tx.length x) 54 19 (nI (tx.length + 1))) else some (-1000000004, h1)) else some (-1000000002, h1) := by
    intro h1 hT1
    unfold fX8_feed
    rw [in_0 255 255 (by omega) rfl, bn_s, hT1.1, nI_1]
    cases hx : ck x (255 + 1) with
    | false => rfl
    | true =>
      rw [if_pos rfl, bi_it]
      by_cases g : tx.length < 230
      · rw [if_neg (show ¬ nI _ = 230 from fun z => by have := (nI_eq (b := 230) (by omega) (by omega)).mp z; omega), if_pos (ck_t g (by omega)), if_pos g, tn_nI (by omega)]
      · have : tx.length = 230 := by have := w2.1; omega
        rw [if_pos (by rw [this]; rfl), if_neg g]
  cases hx : ck x 256 with
  | false =>
    rw [hx] at e7
    have := e8 h hTM
    rw [hx] at this
    exact Ok2_same hI e7 this
  | true =>
    by_cases g : tx.length < 230
    · obtain ⟨c, hc, rfl⟩ := ck_of (by omega) hx
      rw [hx, if_pos rfl, if_pos g] at e7
      have e78 := e8 (aU (aU h 2 tx.length (nI c)) 1 1 (nI (tx.length + 1))) (TxM_c (by simp [aU_rd]) (by rw [aU_ne (by omega), aU_ne (by omega)]) hTM)
      rw [hx, if_pos rfl, if_pos g] at e78
      refine ⟨_, _, _, e7, e78, v, w, tx ++ [c], ft, V, P, bt, sd, im, un, ms, bk, ?_, ?_, ⟨w1, ⟨by rw [List.length_append]; show tx.length + 1 ≤ 230; omega, fun y hy => ?_⟩, w3, w4, w5, w6, w7, w8, w9, w10⟩⟩
      · obtain ⟨r1, r2, r3, r4, r5, r6, r7, r8, r9⟩ := hC
        have eq : ∀ k, k < 54 → k ≠ 1 → k ≠ 2 → aU (aU (aU (aU h 2 tx.length (nI c)) 1 1 (nI (tx.length + 1))) 65 tx.length (nI c)) 54 19 (nI (tx.length + 1)) k = h k := fun k h1 h2 h3 => by rw [aU_ne (by omega), aU_ne (by omega), aU_ne h2, aU_ne h3]
        refine ⟨by rw [eq 0 (by omega) (by omega) (by omega)]; exact r1, ⟨?_, fun i y hy => ?_⟩, CV_c (fun k _ _ => eq k (by omega) (by omega) (by omega)) r3, CL_c (eq _ (by omega) (by omega) (by omega)) r4, CA_c (fun k _ _ => eq k (by omega) (by omega) (by omega)) r5, ImC_c (fun k _ _ => eq k (by omega) (by omega) (by omega)) r6, UnC_c (fun k _ _ => eq k (by omega) (by omega) (by omega)) r7, MsC_c (eq 35 (by omega) (by omega) (by omega)) r8, CB_c (fun k _ _ => eq k (by omega) (by omega) (by omega)) r9⟩
        · simp [aU_rd]
        · simp only [aU_rd]
          rcases Nat.lt_or_ge i tx.length with q | q
          · rw [List.getElem?_append_left q] at hy
            simp only [show ¬ (2 = 54) by omega, show ¬ (2 = 65) by omega, show ¬ (2 = 1) by omega, if_false, if_true, show ¬ i = tx.length by omega]
            exact r2.2 i y hy
          · rw [List.getElem?_append_right q] at hy
            have : i - tx.length = 0 := by
              have := (List.getElem?_eq_some_iff.mp hy).1
              simp at this; omega
            rw [this] at hy
            cases hy
            have hi : i = tx.length := by omega
            simp [hi]
      · obtain ⟨r1, r2, r3, r4, r5, r6, r7, r8, r9, r10⟩ := hM
        have eq : ∀ k, 54 < k → k ≠ 65 → aU (aU (aU (aU h 2 tx.length (nI c)) 1 1 (nI (tx.length + 1))) 65 tx.length (nI c)) 54 19 (nI (tx.length + 1)) k = h k := fun k h1 h2 => by rw [aU_ne (by omega), aU_ne h2, aU_ne (by omega), aU_ne (by omega)]
        have eq54 : ∀ j, j ≠ 19 → aU (aU (aU (aU h 2 tx.length (nI c)) 1 1 (nI (tx.length + 1))) 65 tx.length (nI c)) 54 19 (nI (tx.length + 1)) 54 j = h 54 j := fun j hj => by simp [aU_rd, hj]
        refine ⟨by rw [eq54 23 (by omega)]; exact r1, ⟨?_, fun i y hy => ?_⟩, MV_c (eq54 2 (by omega)) (eq54 6 (by omega)) (eq54 11 (by omega)) (eq54 16 (by omega)) (fun k _ _ => eq k (by omega) (by omega)) r3, MA_c w4 (fun i _ => by rw [eq 55 (by omega) (by omega)]) r4, by rw [eq 55 (by omega) (by omega)]; exact r5, ImM_c w7 (eq 56 (by omega) (by omega)) (fun i _ _ => by rw [eq 55 (by omega) (by omega)]) r6, UnM_c w8 (eq54 25 (by omega)) (fun i _ _ => by rw [eq 55 (by omega) (by omega)]) r7, MsM_c (eq 66 (by omega) (by omega)) r8, MB_c (eq54 32 (by omega)) (fun k _ _ => eq k (by omega) (by omega)) r9, fun j hj => by rw [eq 68 (by omega) (by omega)]; exact r10 j hj⟩
        · simp [aU_rd]
        · simp only [aU_rd]
          rcases Nat.lt_or_ge i tx.length with q | q
          · rw [List.getElem?_append_left q] at hy
            simp only [show ¬ (65 = 54) by omega, show ¬ (65 = 2) by omega, show ¬ (65 = 1) by omega, if_false, if_true, show ¬ i = tx.length by omega]
            exact r2.2 i y hy
          · rw [List.getElem?_append_right q] at hy
            have : i - tx.length = 0 := by
              have := (List.getElem?_eq_some_iff.mp hy).1
              simp at this; omega
            rw [this] at hy
            cases hy
            have hi : i = tx.length := by omega
            simp [hi]
      · rcases List.mem_append.mp hy with q | q
        · exact w2.2 y q
        · have := List.mem_singleton.mp q
          omega
    · rw [hx, if_pos rfl, if_neg g] at e7
      have := e8 h hTM
      rw [hx, if_pos rfl, if_neg g] at this
      exact Ok2_same hI e7 this
end Ops4
