/-! the law's loop over the printed functions -/
theorem stp2 {h : aH} {f g : aH → Option (Int32 × aH)} (H : Ok2 h f g) (F : aH → Option (Bool × aH)) : ∃ h2, Inv h2 ∧ bn2 (f h) (fun r h6 => bn2 (g h6) (fun r2 h9 => if r = r2 then F h9 else some (false, h9))) = F h2 := by
  obtain ⟨r, h1, h2, e1, e2, e3⟩ := H
  exact ⟨h2, e3, by rw [e1, bn2_s, e2, bn2_s, if_pos rfl]⟩
theorem stp1 {a b : Option Int32} (H : ∃ r, a = some r ∧ b = some r) (X Y : Option (Bool × aH)) : bn a (fun r => bn b (fun r2 => if r = r2 then X else Y)) = X := by
  obtain ⟨r, e1, e2⟩ := H
  rw [e1, bn_s, e2, bn_s, if_pos rfl]
theorem lawL {sp : Nat × (Nat → Int32)} (hsp : sp.1 ≤ 320) (K : aH → Option (Bool × aH)) : ∀ n i (h : aH), i ≤ sp.1 → sp.1 + 5 ≤ i + 5 * n → Inv h → ∃ h2, fL_law_L18 sp K n h (nI i) = K h2
  | 0, i, h, h1, h2, _ => absurd h2 (by omega)
  | n + 1, i, h, h1, h2, hI => by
    have et : (nI sp.1 - 5).toInt = (sp.1 : Int) - 5 := pk_sub_toInt (b := 5) (by omega) (by omega)
    by_cases gl : sp.1 < i + 5
    · refine ⟨h, ?_⟩
      rw [fL_law_L18, if_pos (by rw [fa_lt, et, nI_toInt (by omega)]; omega)]
    · have ih : ∀ hh, Inv hh → ∃ h2, fL_law_L18 sp K n hh (nI i + 5) = K h2 := fun hh iv => by
        rw [show nI i + 5 = nI (i + 5) from nI_add i 5]
        exact lawL hsp K n (i + 5) hh (by omega) (by omega) iv
      have c0 : ck (nI i) sp.1 = true := ck_t (by omega) (by omega)
      have c1 : ck (nI i + 1) sp.1 = true := by rw [show nI i + 1 = nI (i + 1) from nI_add i 1]; exact ck_t (by omega) (by omega)
      have c2 : ck (nI i + 2) sp.1 = true := by rw [show nI i + 2 = nI (i + 2) from nI_add i 2]; exact ck_t (by omega) (by omega)
      have c3 : ck (nI i + 3) sp.1 = true := by rw [show nI i + 3 = nI (i + 3) from nI_add i 3]; exact ck_t (by omega) (by omega)
      have c4 : ck (nI i + 4) sp.1 = true := by rw [show nI i + 4 = nI (i + 4) from nI_add i 4]; exact ck_t (by omega) (by omega)
      rw [fL_law_L18, if_neg (by rw [fa_lt, et, nI_toInt (by omega)]; omega), if_pos c0]
      generalize sp.2 (tn (nI i)) &&& 31 = c
      have hI0 := hI
      obtain ⟨v, w, tx, ft, V, P, bt, sd, im, un, ms, bk, hC, hM, hW⟩ := hI
      have R := RD_of hC hM hW
      by_cases g0 : c = 0
      · rw [if_pos g0, if_pos c1]
        obtain ⟨hh, iv, e⟩ := stp2 (op_feed hC hM hW _) (fun h9 => fL_law_L18 sp K n h9 (nI i + 5))
        obtain ⟨h2, e2⟩ := ih hh iv
        exact ⟨h2, Eq.trans e e2⟩
      rw [if_neg g0]
      by_cases g1 : c = 1
      · rw [if_pos g1]
        obtain ⟨hh, iv, e⟩ := stp2 (op_valley hC hM hW) (fun h9 => fL_law_L18 sp K n h9 (nI i + 5))
        obtain ⟨h2, e2⟩ := ih hh iv
        exact ⟨h2, Eq.trans e e2⟩
      rw [if_neg g1]
      by_cases g2 : c = 2
      · rw [if_pos g2]
        obtain ⟨h2, e2⟩ := ih h hI0
        exact ⟨h2, Eq.trans (stp1 (⟨ft, congrArg some hC.1.2.2, congrArg some hM.1⟩) _ _) e2⟩
      rw [if_neg g2]
      by_cases g3 : c = 3
      · rw [if_pos g3, if_pos c1]
        obtain ⟨h2, e2⟩ := ih h hI0
        exact ⟨h2, Eq.trans (stp1 (op_told R hC.2.2.2.2.2.2.2.2 hM.2.2.2.2.2.2.2.2.1 (hC.2.1.1.trans hM.2.1.1.symm) (by obtain ⟨_, _, _, z, _⟩ := hC.2.2.2.2.2.2.1; exact z.trans hM.2.2.2.2.2.2.1.1.symm) _) _ _) e2⟩
      rw [if_neg g3]
      by_cases g4 : c = 4
      · rw [if_pos g4, if_pos c1, if_pos c2]
        obtain ⟨h2, e2⟩ := ih h hI0
        exact ⟨h2, Eq.trans (stp1 (op_weather R _ _) _ _) e2⟩
      rw [if_neg g4]
      by_cases g5 : c = 5
      · rw [if_pos g5, if_pos c1, if_pos c2]
        obtain ⟨h2, e2⟩ := ih h hI0
        exact ⟨h2, Eq.trans (stp1 (op_hand R _ _) _ _) e2⟩
      rw [if_neg g5]
      by_cases g6 : c = 6
      · rw [if_pos g6, if_pos c1, if_pos c2, if_pos c3]
        obtain ⟨h2, e2⟩ := ih h hI0
        exact ⟨h2, Eq.trans (stp1 (op_letter R hC.2.2.2.2.2.2.2.1 hM.2.2.2.2.2.2.2.1 hW.2.2.2.2.2.2.2.2.1 _ _ _) _ _) e2⟩
      rw [if_neg g6]
      by_cases g7 : c = 7
      · rw [if_pos g7, if_pos c1, if_pos c2, if_pos c3, if_pos c4]
        by_cases gz : sp.2 (tn (nI i + 4)) = 0
        · rw [if_pos gz]
          obtain ⟨hh, iv, e⟩ := stp2 (op_add hC hM hW _ _ _ 0) (fun h9 => fL_law_L18 sp K n h9 (nI i + 5))
          obtain ⟨h2, e2⟩ := ih hh iv
          exact ⟨h2, Eq.trans e e2⟩
        · rw [if_neg gz]
          obtain ⟨hh, iv, e⟩ := stp2 (op_add hC hM hW _ _ _ 1) (fun h9 => fL_law_L18 sp K n h9 (nI i + 5))
          obtain ⟨h2, e2⟩ := ih hh iv
          exact ⟨h2, Eq.trans e e2⟩
      rw [if_neg g7]
      by_cases g8 : c = 8
      · rw [if_pos g8, if_pos c1]
        obtain ⟨hh, iv, e⟩ := stp2 (op_blot hC hM hW _) (fun h9 => fL_law_L18 sp K n h9 (nI i + 5))
        obtain ⟨h2, e2⟩ := ih hh iv
        exact ⟨h2, Eq.trans e e2⟩
      rw [if_neg g8]
      by_cases g9 : c = 9
      · rw [if_pos g9, if_pos c1]
        obtain ⟨hh, iv, e⟩ := stp2 (op_bottle hC hM hW _) (fun h9 => fL_law_L18 sp K n h9 (nI i + 5))
        obtain ⟨h2, e2⟩ := ih hh iv
        exact ⟨h2, Eq.trans e e2⟩
      rw [if_neg g9]
      by_cases g10 : c = 10
      · rw [if_pos g10, if_pos c1]
        obtain ⟨hh, iv, e⟩ := stp2 (op_drift hC hM hW _) (fun h9 => fL_law_L18 sp K n h9 (nI i + 5))
        obtain ⟨h2, e2⟩ := ih hh iv
        exact ⟨h2, Eq.trans e e2⟩
      rw [if_neg g10]
      by_cases g11 : c = 11
      · rw [if_pos g11, if_pos c1]
        obtain ⟨hh, iv, e⟩ := stp2 (op_undo hC hM hW _) (fun h9 => fL_law_L18 sp K n h9 (nI i + 5))
        obtain ⟨h2, e2⟩ := ih hh iv
        exact ⟨h2, Eq.trans e e2⟩
      rw [if_neg g11]
      by_cases g12 : c = 12
      · rw [if_pos g12, if_pos c1, if_pos c2]
        obtain ⟨h2, e2⟩ := ih h hI0
        exact ⟨h2, Eq.trans (stp1 (op_look R _ _) _ _) e2⟩
      rw [if_neg g12]
      by_cases g13 : c = 13
      · rw [if_pos g13, if_pos c1, if_pos c2, if_pos c3, if_pos c4]
        obtain ⟨h2, e2⟩ := ih h hI0
        exact ⟨h2, Eq.trans (stp1 (op_written R _ _ _ _) _ _) e2⟩
      rw [if_neg g13]
      by_cases g14 : c = 14
      · rw [if_pos g14, if_pos c1, if_pos c2]
        obtain ⟨h2, e2⟩ := ih h hI0
        exact ⟨h2, Eq.trans (stp1 (op_who R _ _) _ _) e2⟩
      rw [if_neg g14]
      by_cases g15 : c = 15
      · rw [if_pos g15, if_pos c1, if_pos c2, if_pos c3]
        obtain ⟨h2, e2⟩ := ih h hI0
        exact ⟨h2, Eq.trans (stp1 (op_dated R _ _ _) _ _) e2⟩
      rw [if_neg g15]
      by_cases g16 : c = 16
      · rw [if_pos g16, if_pos c1, if_pos c2, if_pos c3]
        obtain ⟨h2, e2⟩ := ih h hI0
        exact ⟨h2, Eq.trans (stp1 (op_addedAt R _ _ _) _ _) e2⟩
      rw [if_neg g16]
      by_cases g17 : c = 17
      · rw [if_pos g17, if_pos c1, if_pos c2]
        obtain ⟨hh, iv, e⟩ := stp2 (op_next hC hM hW _ _) (fun h9 => fL_law_L18 sp K n h9 (nI i + 5))
        obtain ⟨h2, e2⟩ := ih hh iv
        exact ⟨h2, Eq.trans e e2⟩
      rw [if_neg g17]
      by_cases g18 : c = 18
      · rw [if_pos g18, if_pos c1, if_pos c2, if_pos c3]
        obtain ⟨h2, e2⟩ := ih h hI0
        exact ⟨h2, Eq.trans (stp1 (op_soonest R _ _ _) _ _) e2⟩
      rw [if_neg g18]
      by_cases g19 : c = 19
      · rw [if_pos g19, if_pos c1, if_pos c2]
        obtain ⟨h2, e2⟩ := ih h hI0
        exact ⟨h2, Eq.trans (stp1 (op_likely R _ _) _ _) e2⟩
      rw [if_neg g19]
      by_cases g20 : c = 20
      · rw [if_pos g20, if_pos c1]
        obtain ⟨hh, iv, e⟩ := stp2 (op_hands hC hM hW _) (fun h9 => fL_law_L18 sp K n h9 (nI i + 5))
        obtain ⟨h2, e2⟩ := ih hh iv
        exact ⟨h2, Eq.trans e e2⟩
      rw [if_neg g20]
      by_cases g21 : c = 21
      · rw [if_pos g21, if_pos c1, if_pos c2]
        obtain ⟨h2, e2⟩ := ih h hI0
        exact ⟨h2, Eq.trans (stp1 (op_forged R _ _) _ _) e2⟩
      rw [if_neg g21]
      by_cases g22 : c = 22
      · rw [if_pos g22, if_pos c1, if_pos c2, if_pos c3]
        obtain ⟨h2, e2⟩ := ih h hI0
        exact ⟨h2, Eq.trans (stp1 (op_air R _ _ _) _ _) e2⟩
      rw [if_neg g22]
      by_cases g23 : c = 23
      · rw [if_pos g23, if_pos c1]
        obtain ⟨h2, e2⟩ := ih h hI0
        exact ⟨h2, Eq.trans (stp1 (op_rain R _) _ _) e2⟩
      rw [if_neg g23]
      by_cases g24 : c = 24
      · rw [if_pos g24, if_pos c1, if_pos c2]
        obtain ⟨hh, iv, e⟩ := stp2 (op_measure hC hM hW _ _) (fun h9 => fL_law_L18 sp K n h9 (nI i + 5))
        obtain ⟨h2, e2⟩ := ih hh iv
        exact ⟨h2, Eq.trans e e2⟩
      rw [if_neg g24]
      by_cases g25 : c = 25
      · rw [if_pos g25, if_pos c1, if_pos c2, if_pos c3]
        obtain ⟨hh, iv, e⟩ := stp2 (op_write hC hM hW _ _ _) (fun h9 => fL_law_L18 sp K n h9 (nI i + 5))
        obtain ⟨h2, e2⟩ := ih hh iv
        exact ⟨h2, Eq.trans e e2⟩
      rw [if_neg g25]
      by_cases g26 : c = 26
      · rw [if_pos g26]
        obtain ⟨h2, e2⟩ := ih h hI0
        exact ⟨h2, Eq.trans (stp1 (op_judge R hW.2.2.2.2.2.2.2.2.2 hC.2.2.2.2.2.2.2.2 hM.2.2.2.2.2.2.2.2.1) _ _) e2⟩
      rw [if_neg g26]
      by_cases g27 : c = 27
      · rw [if_pos g27]
        obtain ⟨hh, iv, e⟩ := stp2 (op_tear hC hM hW) (fun h9 => fL_law_L18 sp K n h9 (nI i + 5))
        obtain ⟨h2, e2⟩ := ih hh iv
        exact ⟨h2, Eq.trans e e2⟩
      rw [if_neg g27]
      by_cases g28 : c = 28
      · rw [if_pos g28, if_pos c1]
        obtain ⟨hh, iv, e⟩ := stp2 (op_seed hC hM hW _) (fun h9 => fL_law_L18 sp K n h9 (nI i + 5))
        obtain ⟨h2, e2⟩ := ih hh iv
        exact ⟨h2, Eq.trans e e2⟩
      rw [if_neg g28]
      by_cases g29 : c = 29
      · rw [if_pos g29, if_pos c1]
        obtain ⟨hh, iv, e⟩ := stp2 (op_keep hC hM hW _) (fun h9 => fL_law_L18 sp K n h9 (nI i + 5))
        obtain ⟨h2, e2⟩ := ih hh iv
        exact ⟨h2, Eq.trans e e2⟩
      rw [if_neg g29]
      by_cases g30 : c = 30
      · rw [if_pos g30, if_pos c1]
        obtain ⟨hh, iv, e⟩ := stp2 (op_goBack hC hM hW _) (fun h9 => fL_law_L18 sp K n h9 (nI i + 5))
        obtain ⟨h2, e2⟩ := ih hh iv
        exact ⟨h2, Eq.trans e e2⟩
      rw [if_neg g30]
      exact ih h hI0
theorem hI_55 {i : Nat} (h : i ≠ 52) : hI 55 i = 0 := by
  show upd (fun _ => 0) 52 (-1) i = 0
  unfold upd
  rw [if_neg h]
theorem Inv_hI : Inv hI := by
  refine ⟨36, 45, [], -1, fun _ _ => 0, fun _ => [], 0, 0, fun _ => none, [], fun _ => 0, [], ?_, ?_, ?_⟩
  · refine ⟨⟨rfl, rfl, rfl⟩, ⟨rfl, fun i x hx => by cases hx⟩, ⟨⟨rfl, rfl, rfl, rfl, rfl, rfl, rfl⟩, fun k hk => absurd hk (Nat.not_lt_zero k), fun k hk => absurd hk (Nat.not_lt_zero k)⟩, fun k hk => absurd hk (Nat.not_lt_zero k), ⟨fun p _ => rfl, fun p _ l x hx => (by cases hx), rfl, rfl⟩, fun i hi => ⟨fun _ => ?_, fun q hq => by cases hq⟩, ⟨29, by omega, rfl, rfl, fun j S S2 _ h2 => by cases h2⟩, fun p _ => rfl, ⟨rfl, fun k x hx => by cases hx⟩⟩
    rcases (by omega : i = 0 ∨ i = 1) with rfl | rfl
    · rfl
    · rfl
  · exact ⟨rfl, ⟨rfl, fun i x hx => by cases hx⟩, ⟨⟨rfl, rfl, rfl, rfl, rfl, rfl, rfl⟩, fun k hk => absurd hk (Nat.not_lt_zero k), fun k hk => absurd hk (Nat.not_lt_zero k)⟩, ⟨fun p hp => hI_55 (by omega), fun p _ l x hx => (by cases hx), rfl⟩, hI_55 (by omega), fun i hi => ⟨fun _ => rfl, fun q hq => by cases hq⟩, UnM_nil rfl, fun p _ => rfl, ⟨rfl, fun k x hx => by cases hx⟩, fun j _ => rfl⟩
  · exact ⟨by omega, ⟨Nat.zero_le _, fun x hx => absurd hx List.not_mem_nil⟩, ⟨⟨by decide, by decide, by decide, by decide, by decide, by decide, by decide⟩, fun k hk => absurd hk (Nat.not_lt_zero k), fun k hk => absurd hk (Nat.not_lt_zero k)⟩, fun p => ⟨Nat.zero_le _, fun _ => rfl, fun x hx => absurd hx List.not_mem_nil⟩, by omega, by omega, fun i _ q hq => (by cases hq), wfU_nil, fun _ => by show 0 < 4096; omega, ⟨Nat.zero_le _, fun x hx => absurd hx List.not_mem_nil⟩⟩
/-- the law's printed function, from the start's heap on, for every script of at most 320 ints -/
theorem law_pure : ∀ sp : Nat × (Nat → Int32), sp.1 ≤ 320 → ∃ h2, fL_law sp hI = some (true, h2) := by
  intro sp hsp
  obtain ⟨h2, e⟩ := lawL hsp (fun h280 => some (true, h280)) 1000 0 hI (by omega) (by omega) Inv_hI
  exact ⟨h2, e⟩
