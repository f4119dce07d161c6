set_option maxRecDepth 100000 in
set_option maxHeartbeats 4000000 in
theorem tX8_in {h : aH} {x0 : Int64} {x2 : Int64} {x4 : Int64} {r : Bool} (H : fX8_in x0 x2 x4 = some r) : Ev mX8_in [.long x0, .long x2, .long x4] h (some (.int (bi r))) h := by
  unfold fX8_in at H
  refine Ev_of (sp := (0, fun _ => 0)) oX8_in nlX8 (Nat.le_of_ble_eq_true rfl) (ls0 := [.long x0, .null, .long x2, .null, .long x4, .null]) rfl ?_
  refine R_lload_n dX8_in_0 rfl rfl ?_
  refine R_lload_n dX8_in_1 rfl rfl ?_
  refine R_lcmp dX8_in_2 ?_
  rcases it_split H with ⟨c1, H⟩ | ⟨c1, H⟩
  · refine R_if_lt_t dX8_in_3 (tgt := 17) (by decide) c1 ?_
    refine R_iconst dX8_in_17 (v := 0) (by decide) ?_
    obtain rfl := Option.some.inj H
    exact R_retI dX8_in_18 rfl (Or.inr ⟨rfl, bi_01 _⟩)
  · refine R_if_lt_f dX8_in_3 (tgt := 17) (by decide) c1 ?_
    refine R_lload_n dX8_in_6 rfl rfl ?_
    refine R_lload dX8_in_7 rfl ?_
    refine R_lcmp dX8_in_9 ?_
    rcases it_split H with ⟨c2, H⟩ | ⟨c2, H⟩
    · refine R_if_gt_t dX8_in_10 (tgt := 17) (by decide) c2 ?_
      refine R_iconst dX8_in_17 (v := 0) (by decide) ?_
      obtain rfl := Option.some.inj H
      exact R_retI dX8_in_18 rfl (Or.inr ⟨rfl, bi_01 _⟩)
    · refine R_if_gt_f dX8_in_10 (tgt := 17) (by decide) c2 ?_
      refine R_iconst dX8_in_13 (v := 1) (by decide) ?_
      refine R_goto dX8_in_14 (tgt := 18) (by decide) ?_
      obtain rfl := Option.some.inj H
      exact R_retI dX8_in_18 rfl (Or.inr ⟨rfl, bi_01 _⟩)

set_option maxRecDepth 100000 in
set_option maxHeartbeats 4000000 in
theorem tX8_one {h : aH} {x0 : Int32} {r : Int32} (H : fX8_one x0 = some r) : Ev mX8_one [.int x0] h (some (.int r)) h := by
  unfold fX8_one at H
  refine Ev_of (sp := (0, fun _ => 0)) oX8_one nlX8 (Nat.le_of_ble_eq_true rfl) (ls0 := [.int x0]) rfl ?_
  refine R_iload_n dX8_one_0 rfl rfl ?_
  rcases it_split H with ⟨c1, H⟩ | ⟨c1, H⟩
  · refine R_if_eq_t dX8_one_1 (tgt := 8) (by decide) c1 ?_
    refine R_iconst dX8_one_8 (v := 0) (by decide) ?_
    obtain rfl := Option.some.inj H
    exact R_retI dX8_one_9 rfl (Or.inl rfl)
  · refine R_if_eq_f dX8_one_1 (tgt := 8) (by decide) c1 ?_
    refine R_iconst dX8_one_4 (v := 1) (by decide) ?_
    refine R_goto dX8_one_5 (tgt := 9) (by decide) ?_
    obtain rfl := Option.some.inj H
    exact R_retI dX8_one_9 rfl (Or.inl rfl)

set_option maxRecDepth 100000 in
set_option maxHeartbeats 4000000 in
theorem tX8_has {h : aH} {x0 : Int32} {x1 : Int32} {r : Bool} (H : fX8_has x0 x1 = some r) : Ev mX8_has [.int x0, .int x1] h (some (.int (bi r))) h := by
  unfold fX8_has at H
  refine Ev_of (sp := (0, fun _ => 0)) oX8_has nlX8 (Nat.le_of_ble_eq_true rfl) (ls0 := [.int x0, .int x1]) rfl ?_
  refine R_iload_n dX8_has_0 rfl rfl ?_
  refine R_iload_n dX8_has_1 rfl rfl ?_
  refine R_ishr dX8_has_2 ?_
  refine R_iconst dX8_has_3 (v := 1) (by decide) ?_
  refine R_iand dX8_has_4 ?_
  refine R_iconst dX8_has_5 (v := 1) (by decide) ?_
  rcases it_split H with ⟨c1, H⟩ | ⟨c1, H⟩
  · refine R_icmp_ne_f dX8_has_6 (tgt := 13) (by decide) c1 ?_
    refine R_iconst dX8_has_9 (v := 1) (by decide) ?_
    refine R_goto dX8_has_10 (tgt := 14) (by decide) ?_
    obtain rfl := Option.some.inj H
    exact R_retI dX8_has_14 rfl (Or.inr ⟨rfl, bi_01 _⟩)
  · refine R_icmp_ne_t dX8_has_6 (tgt := 13) (by decide) c1 ?_
    refine R_iconst dX8_has_13 (v := 0) (by decide) ?_
    obtain rfl := Option.some.inj H
    exact R_retI dX8_has_14 rfl (Or.inr ⟨rfl, bi_01 _⟩)

set_option maxRecDepth 100000 in
set_option maxHeartbeats 4000000 in
theorem tX8_ones_L4 {sp : Nat × (Nat → Int32)} {K : Int32 → Option Int32} {h : aH} {x0 : Int32} (hK : ∀ (y1 : Int32) (r : Int32), K y1 = some r → Rn sp mX8_ones 24 [.null, .int y1, .null] [] h (some (.int r)) h) : ∀ (n : Nat) (x1 x2 : Int32) (r : Int32), fX8_ones_L4 K x0 n x1 x2 = some r → Rn sp mX8_ones 4 [.int x0, .int x1, .int x2] [] h (some (.int r)) h := by
  intro n
  induction n with
  | zero =>
    intro x1 x2 r H
    rw [fX8_ones_L4] at H
    cases H
  | succ n ih =>
    intro x1 x2 r H
    rw [fX8_ones_L4] at H
    refine R_iload_n dX8_ones_4 rfl rfl ?_
    refine R_bipush dX8_ones_5 (v := 12) (by decide) ?_
    rcases it_split H with ⟨c1, H⟩ | ⟨c1, H⟩
    · refine R_icmp_ge_t dX8_ones_7 (tgt := 24) (by decide) c1 ?_
      refine R_null (i := 0) (ls2 := [.null, .int x1, .int x2]) rfl ?_
      refine R_null (i := 2) (ls2 := [.null, .int x1, .null]) rfl ?_
      exact hK _ _ H
    · refine R_icmp_ge_f dX8_ones_7 (tgt := 24) (by decide) c1 ?_
      refine R_iload_n dX8_ones_10 rfl rfl ?_
      refine R_iload_n dX8_ones_11 rfl rfl ?_
      refine R_iload_n dX8_ones_12 rfl rfl ?_
      refine R_ishr dX8_ones_13 ?_
      refine R_iconst dX8_ones_14 (v := 1) (by decide) ?_
      refine R_iand dX8_ones_15 ?_
      refine R_iadd dX8_ones_16 ?_
      refine R_istoreN dX8_ones_17 rfl (by decide) rfl (ls2 := [.int x0, .int (x1 + ((x0 >>> (x2 &&& 31)) &&& 1)), .int x2]) rfl ?_
      refine R_iincW dX8_ones_18 rfl (v := x2 + 1) rfl (by decide) rfl (ls2 := [.int x0, .int (x1 + ((x0 >>> (x2 &&& 31)) &&& 1)), .int (x2 + 1)]) rfl ?_
      refine R_goto dX8_ones_21 (tgt := 4) (by decide) ?_
      exact ih _ _ _ H

set_option maxRecDepth 100000 in
set_option maxHeartbeats 4000000 in
theorem tX8_ones {h : aH} {x0 : Int32} {r : Int32} (H : fX8_ones x0 = some r) : Ev mX8_ones [.int x0] h (some (.int r)) h := by
  unfold fX8_ones at H
  refine Ev_of (sp := (0, fun _ => 0)) oX8_ones nlX8 (Nat.le_of_ble_eq_true rfl) (ls0 := [.int x0, .null, .null]) rfl ?_
  refine R_iconst dX8_ones_0 (v := 0) (by decide) ?_
  refine R_istoreN dX8_ones_1 rfl (by decide) rfl (ls2 := [.int x0, .int 0, .null]) rfl ?_
  refine R_iconst dX8_ones_2 (v := 0) (by decide) ?_
  refine R_istoreN dX8_ones_3 rfl (by decide) rfl (ls2 := [.int x0, .int 0, .int 0]) rfl ?_
  refine tX8_ones_L4 (fun z2 r H => ?_) _ _ _ _ H
  refine R_iload_n dX8_ones_24 rfl rfl ?_
  obtain rfl := Option.some.inj H
  exact R_retI dX8_ones_25 rfl (Or.inl rfl)

set_option maxRecDepth 100000 in
set_option maxHeartbeats 4000000 in
theorem tX8_feed {h : aH} {x1 : Int32} {r : Int32} {h2 : aH} (H : fX8_feed h x1 = some (r, h2)) : Ev mX8_feed [.ref 54, .int x1] h (some (.int r)) h2 := by
  unfold fX8_feed at H
  refine Ev_of (sp := (0, fun _ => 0)) oX8_feed nlX8 (Nat.le_of_ble_eq_true rfl) (ls0 := [.ref 54, .int x1]) rfl ?_
  refine R_iload_n dX8_feed_0 rfl rfl ?_
  refine R_i2l dX8_feed_1 ?_
  refine R_lconst dX8_feed_2 (v := 0) rfl ?_
  refine R_ldc2 dX8_feed_3 llX8_69 ?_
  obtain ⟨r2, e1, H⟩ := bn_some H
  refine R_cS dX8_feed_6 lvX8_71 ⟨Nat.le_of_ble_eq_true rfl, Nat.le_of_ble_eq_true rfl⟩ (av := [.long (Int32.toInt64 x1), .long 0, .long 255]) (st := []) rfl rfl (Nat.le_of_ble_eq_true rfl) (tX8_in e1) ?_
  rcases it_split H with ⟨c3, H⟩ | ⟨c3, H⟩
  · refine R_if_ne_f dX8_feed_9 (tgt := 15) (by decide) c3 ?_
    refine R_ldc dX8_feed_12 lcX8_75 ?_
    obtain ⟨rfl, rfl⟩ := so2 H
    exact R_retI dX8_feed_14 rfl (Or.inl rfl)
  · refine R_if_ne_t dX8_feed_9 (tgt := 15) (by decide) c3 ?_
    refine R_aload_n dX8_feed_15 rfl rfl ?_
    refine R_getX dX8_feed_16 lfX8_76 rfl rfl (x := h 54 19) rfl ?_
    refine R_sipush dX8_feed_19 (v := 230) (by decide) ?_
    rcases it_split H with ⟨c4, H⟩ | ⟨c4, H⟩
    · refine R_icmp_ne_f dX8_feed_22 (tgt := 28) (by decide) c4 ?_
      refine R_ldc dX8_feed_25 lcX8_79 ?_
      obtain ⟨rfl, rfl⟩ := so2 H
      exact R_retI dX8_feed_27 rfl (Or.inl rfl)
    · refine R_icmp_ne_t dX8_feed_22 (tgt := 28) (by decide) c4 ?_
      refine R_aload_n dX8_feed_28 rfl rfl ?_
      refine R_getF dX8_feed_29 lfX8_41 rfl rfl (q := 65) rfl ?_
      refine R_aload_n dX8_feed_32 rfl rfl ?_
      refine R_getX dX8_feed_33 lfX8_76 rfl rfl (x := h 54 19) rfl ?_
      refine R_iload_n dX8_feed_36 rfl rfl ?_
      obtain ⟨c5, H⟩ := it_some H
      refine R_iastX dX8_feed_37 rfl rfl (ck_in c5) (j := tn (h 54 19)) rfl ?_
      refine R_aload_n dX8_feed_38 rfl rfl ?_
      refine R_dup dX8_feed_39 rfl ?_
      refine R_getX dX8_feed_40 lfX8_76 rfl rfl (x := h 54 19) rfl ?_
      refine R_iconst dX8_feed_43 (v := 1) (by decide) ?_
      refine R_iadd dX8_feed_44 ?_
      refine R_putI dX8_feed_45 lfX8_76 rfl rfl ?_
      refine R_aload_n dX8_feed_48 rfl rfl ?_
      refine R_getX dX8_feed_49 lfX8_76 rfl rfl (x := (h 54 19) + 1) rfl ?_
      obtain ⟨rfl, rfl⟩ := so2 H
      exact R_retI dX8_feed_52 rfl (Or.inl rfl)

set_option maxRecDepth 100000 in
set_option maxHeartbeats 4000000 in
theorem tX8_here_L0 {sp : Nat × (Nat → Int32)} {K : aH → Option (Int32 × aH)} (hK : ∀ (hk : aH) (r : Int32) (h2 : aH), K hk = some (r, h2) → Rn sp mX8_here 38 [.ref 54] [] hk (some (.int r)) h2) : ∀ (n : Nat) (h : aH) (r : Int32) (h2 : aH), fX8_here_L0 K n h = some (r, h2) → Rn sp mX8_here 0 [.ref 54] [] h (some (.int r)) h2 := by
  intro n
  induction n with
  | zero =>
    intro h r h2 H
    rw [fX8_here_L0] at H
    cases H
  | succ n ih =>
    intro h r h2 H
    rw [fX8_here_L0] at H
    refine R_aload_n dX8_here_0 rfl rfl ?_
    refine R_getX dX8_here_1 lfX8_80 rfl rfl (x := h 54 20) rfl ?_
    refine R_aload_n dX8_here_4 rfl rfl ?_
    refine R_getX dX8_here_5 lfX8_76 rfl rfl (x := h 54 19) rfl ?_
    rcases it_split H with ⟨c1, H⟩ | ⟨c1, H⟩
    · refine R_icmp_ge_t dX8_here_8 (tgt := 38) (by decide) c1 ?_
      exact hK _ _ _ H
    · refine R_icmp_ge_f dX8_here_8 (tgt := 38) (by decide) c1 ?_
      refine R_aload_n dX8_here_11 rfl rfl ?_
      refine R_getF dX8_here_12 lfX8_41 rfl rfl (q := 65) rfl ?_
      refine R_aload_n dX8_here_15 rfl rfl ?_
      refine R_getX dX8_here_16 lfX8_80 rfl rfl (x := h 54 20) rfl ?_
      obtain ⟨c2, H⟩ := it_some H
      refine R_ildY dX8_here_19 rfl rfl (ck_in c2) (j := tn (h 54 20)) rfl (x := h 65 (tn (h 54 20))) rfl ?_
      refine R_bipush dX8_here_20 (v := 32) (by decide) ?_
      rcases it_split H with ⟨c3, H⟩ | ⟨c3, H⟩
      · refine R_icmp_ne_f dX8_here_22 (tgt := 38) (by decide) c3 ?_
        refine R_aload_n dX8_here_25 rfl rfl ?_
        refine R_dup dX8_here_26 rfl ?_
        refine R_getX dX8_here_27 lfX8_80 rfl rfl (x := h 54 20) rfl ?_
        refine R_iconst dX8_here_30 (v := 1) (by decide) ?_
        refine R_iadd dX8_here_31 ?_
        refine R_putI dX8_here_32 lfX8_80 rfl rfl ?_
        refine R_goto dX8_here_35 (tgt := 0) (by decide) ?_
        exact ih _ _ _ H
      · refine R_icmp_ne_t dX8_here_22 (tgt := 38) (by decide) c3 ?_
        exact hK _ _ _ H

set_option maxRecDepth 100000 in
set_option maxHeartbeats 4000000 in
theorem tX8_here {h : aH} {r : Int32} {h2 : aH} (H : fX8_here h = some (r, h2)) : Ev mX8_here [.ref 54] h (some (.int r)) h2 := by
  unfold fX8_here at H
  refine Ev_of (sp := (0, fun _ => 0)) oX8_here nlX8 (Nat.le_of_ble_eq_true rfl) (ls0 := [.ref 54]) rfl ?_
  refine tX8_here_L0 (fun h4 r h2 H => ?_) _ _ _ _ H
  refine R_aload_n dX8_here_38 rfl rfl ?_
  refine R_getX dX8_here_39 lfX8_80 rfl rfl (x := h4 54 20) rfl ?_
  refine R_aload_n dX8_here_42 rfl rfl ?_
  refine R_getX dX8_here_43 lfX8_76 rfl rfl (x := h4 54 19) rfl ?_
  rcases it_split H with ⟨c5, H⟩ | ⟨c5, H⟩
  · refine R_icmp_ge_t dX8_here_46 (tgt := 61) (by decide) c5 ?_
    refine R_iconst dX8_here_61 (v := (-1)) (by decide) ?_
    obtain ⟨rfl, rfl⟩ := so2 H
    exact R_retI dX8_here_62 rfl (Or.inl rfl)
  · refine R_icmp_ge_f dX8_here_46 (tgt := 61) (by decide) c5 ?_
    refine R_aload_n dX8_here_49 rfl rfl ?_
    refine R_getF dX8_here_50 lfX8_41 rfl rfl (q := 65) rfl ?_
    refine R_aload_n dX8_here_53 rfl rfl ?_
    refine R_getX dX8_here_54 lfX8_80 rfl rfl (x := h4 54 20) rfl ?_
    obtain ⟨c6, H⟩ := it_some H
    refine R_ildY dX8_here_57 rfl rfl (ck_in c6) (j := tn (h4 54 20)) rfl (x := h4 65 (tn (h4 54 20))) rfl ?_
    refine R_goto dX8_here_58 (tgt := 62) (by decide) ?_
    obtain ⟨rfl, rfl⟩ := so2 H
    exact R_retI dX8_here_62 rfl (Or.inl rfl)

set_option maxRecDepth 100000 in
set_option maxHeartbeats 4000000 in
theorem tX8_want {h : aH} {x1 : Int32} {x2 : Int32} {x3 : Int32} {r : Bool} {h2 : aH} (H : fX8_want h x1 x2 x3 = some (r, h2)) : Ev mX8_want [.ref 54, .int x1, .int x2, .int x3] h (some (.int (bi r))) h2 := by
  unfold fX8_want at H
  refine Ev_of (sp := (0, fun _ => 0)) oX8_want nlX8 (Nat.le_of_ble_eq_true rfl) (ls0 := [.ref 54, .int x1, .int x2, .int x3]) rfl ?_
  refine R_iload_n dX8_want_0 rfl rfl ?_
  rcases it_split H with ⟨c1, H⟩ | ⟨c1, H⟩
  · refine R_if_ne_f dX8_want_1 (tgt := 21) (by decide) c1 ?_
    refine R_aload_n dX8_want_4 rfl rfl ?_
    refine R_getX dX8_want_5 lfX8_83 rfl rfl (x := h 54 22) rfl ?_
    rcases it_split H with ⟨c2, H⟩ | ⟨c2, H⟩
    · refine R_if_ne_f dX8_want_8 (tgt := 21) (by decide) c2 ?_
      refine R_aload_n dX8_want_11 rfl rfl ?_
      refine R_iload_n dX8_want_12 rfl rfl ?_
      refine R_putI dX8_want_13 lfX8_83 rfl rfl ?_
      refine R_aload_n dX8_want_16 rfl rfl ?_
      refine R_iload_n dX8_want_17 rfl rfl ?_
      refine R_putI dX8_want_18 lfX8_44 rfl rfl ?_
      refine R_aload_n dX8_want_21 rfl rfl ?_
      refine R_getX dX8_want_22 lfX8_83 rfl rfl (x := x2) rfl ?_
      rcases it_split H with ⟨c3, H⟩ | ⟨c3, H⟩
      · refine R_if_ne_f dX8_want_25 (tgt := 32) (by decide) c3 ?_
        refine R_iconst dX8_want_28 (v := 1) (by decide) ?_
        refine R_goto dX8_want_29 (tgt := 33) (by decide) ?_
        obtain ⟨rfl, rfl⟩ := so2 H
        exact R_retI dX8_want_33 rfl (Or.inr ⟨rfl, bi_01 _⟩)
      · refine R_if_ne_t dX8_want_25 (tgt := 32) (by decide) c3 ?_
        refine R_iconst dX8_want_32 (v := 0) (by decide) ?_
        obtain ⟨rfl, rfl⟩ := so2 H
        exact R_retI dX8_want_33 rfl (Or.inr ⟨rfl, bi_01 _⟩)
    · refine R_if_ne_t dX8_want_8 (tgt := 21) (by decide) c2 ?_
      refine R_aload_n dX8_want_21 rfl rfl ?_
      refine R_getX dX8_want_22 lfX8_83 rfl rfl (x := h 54 22) rfl ?_
      refine R_if_ne_t dX8_want_25 (tgt := 32) (by decide) c2 ?_
      refine R_iconst dX8_want_32 (v := 0) (by decide) ?_
      obtain ⟨rfl, rfl⟩ := so2 H
      exact R_retI dX8_want_33 rfl (Or.inr ⟨rfl, bi_01 _⟩)
  · refine R_if_ne_t dX8_want_1 (tgt := 21) (by decide) c1 ?_
    refine R_aload_n dX8_want_21 rfl rfl ?_
    refine R_getX dX8_want_22 lfX8_83 rfl rfl (x := h 54 22) rfl ?_
    rcases it_split H with ⟨c4, H⟩ | ⟨c4, H⟩
    · refine R_if_ne_f dX8_want_25 (tgt := 32) (by decide) c4 ?_
      refine R_iconst dX8_want_28 (v := 1) (by decide) ?_
      refine R_goto dX8_want_29 (tgt := 33) (by decide) ?_
      obtain ⟨rfl, rfl⟩ := so2 H
      exact R_retI dX8_want_33 rfl (Or.inr ⟨rfl, bi_01 _⟩)
    · refine R_if_ne_t dX8_want_25 (tgt := 32) (by decide) c4 ?_
      refine R_iconst dX8_want_32 (v := 0) (by decide) ?_
      obtain ⟨rfl, rfl⟩ := so2 H
      exact R_retI dX8_want_33 rfl (Or.inr ⟨rfl, bi_01 _⟩)

set_option maxRecDepth 100000 in
set_option maxHeartbeats 4000000 in
theorem tX8_takeNumber_L49 {sp : Nat × (Nat → Int32)} {K : aH → Int32 → Option (Int32 × aH)} (hK : ∀ (hk : aH) (y2 : Int32) (r : Int32) (h2 : aH), K hk y2 = some (r, h2) → Rn sp mX8_takeNumber 123 [.ref 54, .null, .int y2, .null] [] hk (some (.int r)) h2) : ∀ (n : Nat) (h : aH) (x2 : Int32) (r : Int32) (h2 : aH), fX8_takeNumber_L49 K n h x2 = some (r, h2) → Rn sp mX8_takeNumber 49 [.ref 54, .null, .int x2, .null] [] h (some (.int r)) h2 := by
  intro n
  induction n with
  | zero =>
    intro h x2 r h2 H
    rw [fX8_takeNumber_L49] at H
    cases H
  | succ n ih =>
    intro h x2 r h2 H
    rw [fX8_takeNumber_L49] at H
    refine R_aload_n dX8_takeNumber_49 rfl rfl ?_
    refine R_getX dX8_takeNumber_50 lfX8_80 rfl rfl (x := h 54 20) rfl ?_
    refine R_aload_n dX8_takeNumber_53 rfl rfl ?_
    refine R_getX dX8_takeNumber_54 lfX8_76 rfl rfl (x := h 54 19) rfl ?_
    rcases it_split H with ⟨c11, H⟩ | ⟨c11, H⟩
    · refine R_icmp_ge_t dX8_takeNumber_57 (tgt := 123) (by decide) c11 ?_
      exact hK _ _ _ _ H
    · refine R_icmp_ge_f dX8_takeNumber_57 (tgt := 123) (by decide) c11 ?_
      refine R_aload_n dX8_takeNumber_60 rfl rfl ?_
      refine R_getF dX8_takeNumber_61 lfX8_41 rfl rfl (q := 65) rfl ?_
      refine R_aload_n dX8_takeNumber_64 rfl rfl ?_
      refine R_getX dX8_takeNumber_65 lfX8_80 rfl rfl (x := h 54 20) rfl ?_
      obtain ⟨c12, H⟩ := it_some H
      refine R_ildY dX8_takeNumber_68 rfl rfl (ck_in c12) (j := tn (h 54 20)) rfl (x := h 65 (tn (h 54 20))) rfl ?_
      refine R_i2l dX8_takeNumber_69 ?_
      refine R_ldc2 dX8_takeNumber_70 llX8_93 ?_
      refine R_ldc2 dX8_takeNumber_73 llX8_95 ?_
      obtain ⟨r14, e13, H⟩ := bn_some H
      refine R_cS dX8_takeNumber_76 lvX8_71 ⟨Nat.le_of_ble_eq_true rfl, Nat.le_of_ble_eq_true rfl⟩ (av := [.long (Int32.toInt64 (h 65 (tn (h 54 20)))), .long 48, .long 57]) (st := []) rfl rfl (Nat.le_of_ble_eq_true rfl) (tX8_in e13) ?_
      rcases it_split H with ⟨c15, H⟩ | ⟨c15, H⟩
      · refine R_if_eq_t dX8_takeNumber_79 (tgt := 123) (by decide) c15 ?_
        exact hK _ _ _ _ H
      · refine R_if_eq_f dX8_takeNumber_79 (tgt := 123) (by decide) c15 ?_
        refine R_iload_n dX8_takeNumber_82 rfl rfl ?_
        refine R_ldc dX8_takeNumber_83 lcX8_101 ?_
        rcases it_split H with ⟨c16, H⟩ | ⟨c16, H⟩
        · refine R_icmp_le_t dX8_takeNumber_85 (tgt := 92) (by decide) c16 ?_
          refine R_bipush dX8_takeNumber_92 (v := 10) (by decide) ?_
          refine R_iload_n dX8_takeNumber_94 rfl rfl ?_
          refine R_imul dX8_takeNumber_95 ?_
          refine R_aload_n dX8_takeNumber_96 rfl rfl ?_
          refine R_getF dX8_takeNumber_97 lfX8_41 rfl rfl (q := 65) rfl ?_
          refine R_aload_n dX8_takeNumber_100 rfl rfl ?_
          refine R_getX dX8_takeNumber_101 lfX8_80 rfl rfl (x := h 54 20) rfl ?_
          refine R_ildY dX8_takeNumber_104 rfl rfl (ck_in c12) (j := tn (h 54 20)) rfl (x := h 65 (tn (h 54 20))) rfl ?_
          refine R_iadd dX8_takeNumber_105 ?_
          refine R_bipush dX8_takeNumber_106 (v := 48) (by decide) ?_
          refine R_isub dX8_takeNumber_108 ?_
          refine R_istoreN dX8_takeNumber_109 rfl (by decide) rfl (ls2 := [.ref 54, .null, .int (((10 * x2) + (h 65 (tn (h 54 20)))) - 48), .null]) rfl ?_
          refine R_aload_n dX8_takeNumber_110 rfl rfl ?_
          refine R_dup dX8_takeNumber_111 rfl ?_
          refine R_getX dX8_takeNumber_112 lfX8_80 rfl rfl (x := h 54 20) rfl ?_
          refine R_iconst dX8_takeNumber_115 (v := 1) (by decide) ?_
          refine R_iadd dX8_takeNumber_116 ?_
          refine R_putI dX8_takeNumber_117 lfX8_80 rfl rfl ?_
          refine R_goto dX8_takeNumber_120 (tgt := 49) (by decide) ?_
          exact ih _ _ _ _ H
        · refine R_icmp_le_f dX8_takeNumber_85 (tgt := 92) (by decide) c16 ?_
          refine R_iload_n dX8_takeNumber_88 rfl rfl ?_
          refine R_goto dX8_takeNumber_89 (tgt := 109) (by decide) ?_
          refine R_istoreN dX8_takeNumber_109 rfl (by decide) rfl (ls2 := [.ref 54, .null, .int x2, .null]) rfl ?_
          refine R_aload_n dX8_takeNumber_110 rfl rfl ?_
          refine R_dup dX8_takeNumber_111 rfl ?_
          refine R_getX dX8_takeNumber_112 lfX8_80 rfl rfl (x := h 54 20) rfl ?_
          refine R_iconst dX8_takeNumber_115 (v := 1) (by decide) ?_
          refine R_iadd dX8_takeNumber_116 ?_
          refine R_putI dX8_takeNumber_117 lfX8_80 rfl rfl ?_
          refine R_goto dX8_takeNumber_120 (tgt := 49) (by decide) ?_
          exact ih _ _ _ _ H

set_option maxRecDepth 100000 in
set_option maxHeartbeats 4000000 in
theorem tX8_takeNumber {h : aH} {r : Int32} {h2 : aH} (H : fX8_takeNumber h = some (r, h2)) : Ev mX8_takeNumber [.ref 54] h (some (.int r)) h2 := by
  unfold fX8_takeNumber at H
  refine Ev_of (sp := (0, fun _ => 0)) oX8_takeNumber nlX8 (Nat.le_of_ble_eq_true rfl) (ls0 := [.ref 54, .null, .null, .null]) rfl ?_
  refine R_aload_n dX8_takeNumber_0 rfl rfl ?_
  refine R_getX dX8_takeNumber_1 lfX8_83 rfl rfl (x := h 54 22) rfl ?_
  rcases it_split H with ⟨c1, H⟩ | ⟨c1, H⟩
  · refine R_if_le_t dX8_takeNumber_4 (tgt := 9) (by decide) c1 ?_
    refine R_aload_n dX8_takeNumber_9 rfl rfl ?_
    obtain ⟨r4, h3, e2, H⟩ := bn2_some H
    refine R_cV dX8_takeNumber_10 lvX8_86 ⟨Nat.le_of_ble_eq_true rfl, Nat.le_of_ble_eq_true rfl⟩ (r := 54) rfl (av := []) (st := []) rfl rfl (Nat.le_of_ble_eq_true rfl) (tX8_here e2) ?_
    refine R_istoreN dX8_takeNumber_13 rfl (by decide) rfl (ls2 := [.ref 54, .int r4, .null, .null]) rfl ?_
    refine R_aload_n dX8_takeNumber_14 rfl rfl ?_
    refine R_aload_n dX8_takeNumber_15 rfl rfl ?_
    refine R_getX dX8_takeNumber_16 lfX8_80 rfl rfl (x := h3 54 20) rfl ?_
    refine R_putI dX8_takeNumber_19 lfX8_90 rfl rfl ?_
    refine R_aload_n dX8_takeNumber_22 rfl rfl ?_
    refine R_iload_n dX8_takeNumber_23 rfl rfl ?_
    refine R_i2l dX8_takeNumber_24 ?_
    refine R_ldc2 dX8_takeNumber_25 llX8_93 ?_
    refine R_ldc2 dX8_takeNumber_28 llX8_95 ?_
    obtain ⟨r6, e5, H⟩ := bn_some H
    refine R_cS dX8_takeNumber_31 lvX8_71 ⟨Nat.le_of_ble_eq_true rfl, Nat.le_of_ble_eq_true rfl⟩ (av := [.long (Int32.toInt64 r4), .long 48, .long 57]) (st := [.ref 54]) rfl rfl (Nat.le_of_ble_eq_true rfl) (tX8_in e5) ?_
    refine R_iconst dX8_takeNumber_34 (v := 1) (by decide) ?_
    refine R_aload_n dX8_takeNumber_35 rfl rfl ?_
    refine R_getX dX8_takeNumber_36 lfX8_80 rfl rfl (x := h3 54 20) rfl ?_
    obtain ⟨r9, h8, e7, H⟩ := bn2_some H
    refine R_cV dX8_takeNumber_39 lvX8_97 ⟨Nat.le_of_ble_eq_true rfl, Nat.le_of_ble_eq_true rfl⟩ (r := 54) rfl (av := [.int (bi r6), .int 1, .int (h3 54 20)]) (st := []) rfl rfl (Nat.le_of_ble_eq_true rfl) (tX8_want e7) ?_
    rcases it_split H with ⟨c10, H⟩ | ⟨c10, H⟩
    · refine R_if_ne_f dX8_takeNumber_42 (tgt := 47) (by decide) c10 ?_
      refine R_iconst dX8_takeNumber_45 (v := 0) (by decide) ?_
      obtain ⟨rfl, rfl⟩ := so2 H
      exact R_retI dX8_takeNumber_46 rfl (Or.inl rfl)
    · refine R_if_ne_t dX8_takeNumber_42 (tgt := 47) (by decide) c10 ?_
      refine R_iconst dX8_takeNumber_47 (v := 0) (by decide) ?_
      refine R_istoreN dX8_takeNumber_48 rfl (by decide) rfl (ls2 := [.ref 54, .int r4, .int 0, .null]) rfl ?_
      refine R_null (i := 1) (ls2 := [.ref 54, .null, .int 0, .null]) rfl ?_
      refine tX8_takeNumber_L49 (fun h18 z17 r h2 H => ?_) _ _ _ _ _ H
      refine R_aload_n dX8_takeNumber_123 rfl rfl ?_
      refine R_aload_n dX8_takeNumber_124 rfl rfl ?_
      refine R_getX dX8_takeNumber_125 lfX8_80 rfl rfl (x := h18 54 20) rfl ?_
      refine R_aload_n dX8_takeNumber_128 rfl rfl ?_
      refine R_getX dX8_takeNumber_129 lfX8_90 rfl rfl (x := h18 54 21) rfl ?_
      refine R_isub dX8_takeNumber_132 ?_
      refine R_iconst dX8_takeNumber_133 (v := 4) (by decide) ?_
      rcases it_split H with ⟨c19, H⟩ | ⟨c19, H⟩
      · refine R_icmp_ge_t dX8_takeNumber_134 (tgt := 141) (by decide) c19 ?_
        refine R_iconst dX8_takeNumber_141 (v := 0) (by decide) ?_
        refine R_iconst dX8_takeNumber_142 (v := 2) (by decide) ?_
        refine R_aload_n dX8_takeNumber_143 rfl rfl ?_
        refine R_getX dX8_takeNumber_144 lfX8_90 rfl rfl (x := h18 54 21) rfl ?_
        obtain ⟨r22, h21, e20, H⟩ := bn2_some H
        refine R_cV dX8_takeNumber_147 lvX8_97 ⟨Nat.le_of_ble_eq_true rfl, Nat.le_of_ble_eq_true rfl⟩ (r := 54) rfl (av := [.int 0, .int 2, .int (h18 54 21)]) (st := []) rfl rfl (Nat.le_of_ble_eq_true rfl) (tX8_want e20) ?_
        refine R_istoreN dX8_takeNumber_150 rfl (by decide) rfl (ls2 := [.ref 54, .null, .int z17, .int (bi r22)]) rfl ?_
        refine R_iload_n dX8_takeNumber_151 rfl rfl ?_
        obtain ⟨rfl, rfl⟩ := so2 H
        exact R_retI dX8_takeNumber_152 rfl (Or.inl rfl)
      · refine R_icmp_ge_f dX8_takeNumber_134 (tgt := 141) (by decide) c19 ?_
        refine R_iconst dX8_takeNumber_137 (v := 1) (by decide) ?_
        refine R_goto dX8_takeNumber_138 (tgt := 142) (by decide) ?_
        refine R_iconst dX8_takeNumber_142 (v := 2) (by decide) ?_
        refine R_aload_n dX8_takeNumber_143 rfl rfl ?_
        refine R_getX dX8_takeNumber_144 lfX8_90 rfl rfl (x := h18 54 21) rfl ?_
        obtain ⟨r25, h24, e23, H⟩ := bn2_some H
        refine R_cV dX8_takeNumber_147 lvX8_97 ⟨Nat.le_of_ble_eq_true rfl, Nat.le_of_ble_eq_true rfl⟩ (r := 54) rfl (av := [.int 1, .int 2, .int (h18 54 21)]) (st := []) rfl rfl (Nat.le_of_ble_eq_true rfl) (tX8_want e23) ?_
        refine R_istoreN dX8_takeNumber_150 rfl (by decide) rfl (ls2 := [.ref 54, .null, .int z17, .int (bi r25)]) rfl ?_
        refine R_iload_n dX8_takeNumber_151 rfl rfl ?_
        obtain ⟨rfl, rfl⟩ := so2 H
        exact R_retI dX8_takeNumber_152 rfl (Or.inl rfl)
  · refine R_if_le_f dX8_takeNumber_4 (tgt := 9) (by decide) c1 ?_
    refine R_iconst dX8_takeNumber_7 (v := 0) (by decide) ?_
    obtain ⟨rfl, rfl⟩ := so2 H
    exact R_retI dX8_takeNumber_8 rfl (Or.inl rfl)

set_option maxRecDepth 100000 in
set_option maxHeartbeats 4000000 in
theorem tX8_takeIn {h : aH} {x1 : Int32} {x2 : Int32} {r : Int32} {h2 : aH} (H : fX8_takeIn h x1 x2 = some (r, h2)) : Ev mX8_takeIn [.ref 54, .int x1, .int x2] h (some (.int r)) h2 := by
  unfold fX8_takeIn at H
  refine Ev_of (sp := (0, fun _ => 0)) oX8_takeIn nlX8 (Nat.le_of_ble_eq_true rfl) (ls0 := [.ref 54, .int x1, .int x2, .null, .null]) rfl ?_
  refine R_aload_n dX8_takeIn_0 rfl rfl ?_
  obtain ⟨r3, h2, e1, H⟩ := bn2_some H
  refine R_cV dX8_takeIn_1 lvX8_102 ⟨Nat.le_of_ble_eq_true rfl, Nat.le_of_ble_eq_true rfl⟩ (r := 54) rfl (av := []) (st := []) rfl rfl (Nat.le_of_ble_eq_true rfl) (tX8_takeNumber e1) ?_
  refine R_istoreN dX8_takeIn_4 rfl (by decide) rfl (ls2 := [.ref 54, .int x1, .int x2, .int r3, .null]) rfl ?_
  refine R_aload_n dX8_takeIn_5 rfl rfl ?_
  refine R_aload_n dX8_takeIn_6 rfl rfl ?_
  refine R_getX dX8_takeIn_7 lfX8_83 rfl rfl (x := h2 54 22) rfl ?_
  rcases it_split H with ⟨c4, H⟩ | ⟨c4, H⟩
  · refine R_if_gt_t dX8_takeIn_10 (tgt := 25) (by decide) c4 ?_
    refine R_iconst dX8_takeIn_25 (v := 1) (by decide) ?_
    refine R_goto dX8_takeIn_26 (tgt := 30) (by decide) ?_
    refine R_iconst dX8_takeIn_30 (v := 2) (by decide) ?_
    refine R_aload_n dX8_takeIn_31 rfl rfl ?_
    refine R_getX dX8_takeIn_32 lfX8_90 rfl rfl (x := h2 54 21) rfl ?_
    obtain ⟨r7, h6, e5, H⟩ := bn2_some H
    refine R_cV dX8_takeIn_35 lvX8_97 ⟨Nat.le_of_ble_eq_true rfl, Nat.le_of_ble_eq_true rfl⟩ (r := 54) rfl (av := [.int 1, .int 2, .int (h2 54 21)]) (st := []) rfl rfl (Nat.le_of_ble_eq_true rfl) (tX8_want e5) ?_
    refine R_istoreW dX8_takeIn_38 (by decide) rfl (ls2 := [.ref 54, .int x1, .int x2, .int r3, .int (bi r7)]) rfl ?_
    refine R_iload_n dX8_takeIn_40 rfl rfl ?_
    obtain ⟨rfl, rfl⟩ := so2 H
    exact R_retI dX8_takeIn_41 rfl (Or.inl rfl)
  · refine R_if_gt_f dX8_takeIn_10 (tgt := 25) (by decide) c4 ?_
    refine R_iload_n dX8_takeIn_13 rfl rfl ?_
    refine R_i2l dX8_takeIn_14 ?_
    refine R_iload_n dX8_takeIn_15 rfl rfl ?_
    refine R_i2l dX8_takeIn_16 ?_
    refine R_iload_n dX8_takeIn_17 rfl rfl ?_
    refine R_i2l dX8_takeIn_18 ?_
    obtain ⟨r9, e8, H⟩ := bn_some H
    refine R_cS dX8_takeIn_19 lvX8_71 ⟨Nat.le_of_ble_eq_true rfl, Nat.le_of_ble_eq_true rfl⟩ (av := [.long (Int32.toInt64 r3), .long (Int32.toInt64 x1), .long (Int32.toInt64 x2)]) (st := [.ref 54]) rfl rfl (Nat.le_of_ble_eq_true rfl) (tX8_in e8) ?_
    rcases it_split H with ⟨c10, H⟩ | ⟨c10, H⟩
    · refine R_if_eq_t dX8_takeIn_22 (tgt := 29) (by decide) c10 ?_
      refine R_iconst dX8_takeIn_29 (v := 0) (by decide) ?_
      refine R_iconst dX8_takeIn_30 (v := 2) (by decide) ?_
      refine R_aload_n dX8_takeIn_31 rfl rfl ?_
      refine R_getX dX8_takeIn_32 lfX8_90 rfl rfl (x := h2 54 21) rfl ?_
      obtain ⟨r13, h12, e11, H⟩ := bn2_some H
      refine R_cV dX8_takeIn_35 lvX8_97 ⟨Nat.le_of_ble_eq_true rfl, Nat.le_of_ble_eq_true rfl⟩ (r := 54) rfl (av := [.int 0, .int 2, .int (h2 54 21)]) (st := []) rfl rfl (Nat.le_of_ble_eq_true rfl) (tX8_want e11) ?_
      refine R_istoreW dX8_takeIn_38 (by decide) rfl (ls2 := [.ref 54, .int x1, .int x2, .int r3, .int (bi r13)]) rfl ?_
      refine R_iload_n dX8_takeIn_40 rfl rfl ?_
      obtain ⟨rfl, rfl⟩ := so2 H
      exact R_retI dX8_takeIn_41 rfl (Or.inl rfl)
    · refine R_if_eq_f dX8_takeIn_22 (tgt := 29) (by decide) c10 ?_
      refine R_iconst dX8_takeIn_25 (v := 1) (by decide) ?_
      refine R_goto dX8_takeIn_26 (tgt := 30) (by decide) ?_
      refine R_iconst dX8_takeIn_30 (v := 2) (by decide) ?_
      refine R_aload_n dX8_takeIn_31 rfl rfl ?_
      refine R_getX dX8_takeIn_32 lfX8_90 rfl rfl (x := h2 54 21) rfl ?_
      obtain ⟨r16, h15, e14, H⟩ := bn2_some H
      refine R_cV dX8_takeIn_35 lvX8_97 ⟨Nat.le_of_ble_eq_true rfl, Nat.le_of_ble_eq_true rfl⟩ (r := 54) rfl (av := [.int 1, .int 2, .int (h2 54 21)]) (st := []) rfl rfl (Nat.le_of_ble_eq_true rfl) (tX8_want e14) ?_
      refine R_istoreW dX8_takeIn_38 (by decide) rfl (ls2 := [.ref 54, .int x1, .int x2, .int r3, .int (bi r16)]) rfl ?_
      refine R_iload_n dX8_takeIn_40 rfl rfl ?_
      obtain ⟨rfl, rfl⟩ := so2 H
      exact R_retI dX8_takeIn_41 rfl (Or.inl rfl)

set_option maxRecDepth 100000 in
set_option maxHeartbeats 4000000 in
theorem tX8_takeValley {h : aH} {x1 : Int32} {h2 : aH} (H : fX8_takeValley h x1 = some h2) : Ev mX8_takeValley [.ref 54, .int x1] h none h2 := by
  unfold fX8_takeValley at H
  refine Ev_of (sp := (0, fun _ => 0)) oX8_takeValley nlX8 (Nat.le_of_ble_eq_true rfl) (ls0 := [.ref 54, .int x1]) rfl ?_
  refine R_aload_n dX8_takeValley_0 rfl rfl ?_
  refine R_aload_n dX8_takeValley_1 rfl rfl ?_
  refine R_getX dX8_takeValley_2 lfX8_105 rfl rfl (x := h 54 3) rfl ?_
  rcases it_split H with ⟨c1, H⟩ | ⟨c1, H⟩
  · refine R_if_ne_f dX8_takeValley_5 (tgt := 12) (by decide) c1 ?_
    refine R_iconst dX8_takeValley_8 (v := 1) (by decide) ?_
    refine R_goto dX8_takeValley_9 (tgt := 13) (by decide) ?_
    refine R_iconst dX8_takeValley_13 (v := 3) (by decide) ?_
    refine R_iload_n dX8_takeValley_14 rfl rfl ?_
    obtain ⟨r4, h3, e2, H⟩ := bn2_some H
    refine R_cV dX8_takeValley_15 lvX8_97 ⟨Nat.le_of_ble_eq_true rfl, Nat.le_of_ble_eq_true rfl⟩ (r := 54) rfl (av := [.int 1, .int 3, .int x1]) (st := []) rfl rfl (Nat.le_of_ble_eq_true rfl) (tX8_want e2) ?_
    rcases it_split H with ⟨c5, H⟩ | ⟨c5, H⟩
    · refine R_if_eq_t dX8_takeValley_18 (tgt := 65) (by decide) c5 ?_
      obtain rfl := Option.some.inj H
      exact R_ret (o := none) dX8_takeValley_65 rfl
    · refine R_if_eq_f dX8_takeValley_18 (tgt := 65) (by decide) c5 ?_
      refine R_aload_n dX8_takeValley_21 rfl rfl ?_
      refine R_getF dX8_takeValley_22 lfX8_17 rfl rfl (q := 57) rfl ?_
      refine R_iconst dX8_takeValley_25 (v := 3) (by decide) ?_
      refine R_aload_n dX8_takeValley_26 rfl rfl ?_
      refine R_iconst dX8_takeValley_27 (v := 0) (by decide) ?_
      refine R_bipush dX8_takeValley_28 (v := 7) (by decide) ?_
      obtain ⟨r8, h7, e6, H⟩ := bn2_some H
      refine R_cV dX8_takeValley_30 lvX8_109 ⟨Nat.le_of_ble_eq_true rfl, Nat.le_of_ble_eq_true rfl⟩ (r := 54) rfl (av := [.int 0, .int 7]) (st := [.int 3, .ref 57]) rfl rfl (Nat.le_of_ble_eq_true rfl) (tX8_takeIn e6) ?_
      refine R_iastX dX8_takeValley_33 rfl rfl (ck_in (by decide)) (j := 3) (by decide) ?_
      refine R_aload_n dX8_takeValley_34 rfl rfl ?_
      refine R_getF dX8_takeValley_35 lfX8_17 rfl rfl (q := 57) rfl ?_
      refine R_iconst dX8_takeValley_38 (v := 4) (by decide) ?_
      refine R_aload_n dX8_takeValley_39 rfl rfl ?_
      refine R_iconst dX8_takeValley_40 (v := 0) (by decide) ?_
      refine R_bipush dX8_takeValley_41 (v := 9) (by decide) ?_
      obtain ⟨r11, h10, e9, H⟩ := bn2_some H
      refine R_cV dX8_takeValley_43 lvX8_109 ⟨Nat.le_of_ble_eq_true rfl, Nat.le_of_ble_eq_true rfl⟩ (r := 54) rfl (av := [.int 0, .int 9]) (st := [.int 4, .ref 57]) rfl rfl (Nat.le_of_ble_eq_true rfl) (tX8_takeIn e9) ?_
      refine R_iastX dX8_takeValley_46 rfl rfl (ck_in (by decide)) (j := 4) (by decide) ?_
      refine R_aload_n dX8_takeValley_47 rfl rfl ?_
      refine R_getF dX8_takeValley_48 lfX8_17 rfl rfl (q := 57) rfl ?_
      refine R_iconst dX8_takeValley_51 (v := 5) (by decide) ?_
      refine R_aload_n dX8_takeValley_52 rfl rfl ?_
      refine R_iconst dX8_takeValley_53 (v := 0) (by decide) ?_
      refine R_bipush dX8_takeValley_54 (v := 12) (by decide) ?_
      obtain ⟨r14, h13, e12, H⟩ := bn2_some H
      refine R_cV dX8_takeValley_56 lvX8_109 ⟨Nat.le_of_ble_eq_true rfl, Nat.le_of_ble_eq_true rfl⟩ (r := 54) rfl (av := [.int 0, .int 12]) (st := [.int 5, .ref 57]) rfl rfl (Nat.le_of_ble_eq_true rfl) (tX8_takeIn e12) ?_
      refine R_iastX dX8_takeValley_59 rfl rfl (ck_in (by decide)) (j := 5) (by decide) ?_
      refine R_aload_n dX8_takeValley_60 rfl rfl ?_
      refine R_iconst dX8_takeValley_61 (v := 1) (by decide) ?_
      refine R_putZ dX8_takeValley_62 lfX8_105 rfl rfl (by decide) ?_
      obtain rfl := Option.some.inj H
      exact R_ret (o := none) dX8_takeValley_65 rfl
  · refine R_if_ne_t dX8_takeValley_5 (tgt := 12) (by decide) c1 ?_
    refine R_iconst dX8_takeValley_12 (v := 0) (by decide) ?_
    refine R_iconst dX8_takeValley_13 (v := 3) (by decide) ?_
    refine R_iload_n dX8_takeValley_14 rfl rfl ?_
    obtain ⟨r17, h16, e15, H⟩ := bn2_some H
    refine R_cV dX8_takeValley_15 lvX8_97 ⟨Nat.le_of_ble_eq_true rfl, Nat.le_of_ble_eq_true rfl⟩ (r := 54) rfl (av := [.int 0, .int 3, .int x1]) (st := []) rfl rfl (Nat.le_of_ble_eq_true rfl) (tX8_want e15) ?_
    rcases it_split H with ⟨c18, H⟩ | ⟨c18, H⟩
    · refine R_if_eq_t dX8_takeValley_18 (tgt := 65) (by decide) c18 ?_
      obtain rfl := Option.some.inj H
      exact R_ret (o := none) dX8_takeValley_65 rfl
    · refine R_if_eq_f dX8_takeValley_18 (tgt := 65) (by decide) c18 ?_
      refine R_aload_n dX8_takeValley_21 rfl rfl ?_
      refine R_getF dX8_takeValley_22 lfX8_17 rfl rfl (q := 57) rfl ?_
      refine R_iconst dX8_takeValley_25 (v := 3) (by decide) ?_
      refine R_aload_n dX8_takeValley_26 rfl rfl ?_
      refine R_iconst dX8_takeValley_27 (v := 0) (by decide) ?_
      refine R_bipush dX8_takeValley_28 (v := 7) (by decide) ?_
      obtain ⟨r21, h20, e19, H⟩ := bn2_some H
      refine R_cV dX8_takeValley_30 lvX8_109 ⟨Nat.le_of_ble_eq_true rfl, Nat.le_of_ble_eq_true rfl⟩ (r := 54) rfl (av := [.int 0, .int 7]) (st := [.int 3, .ref 57]) rfl rfl (Nat.le_of_ble_eq_true rfl) (tX8_takeIn e19) ?_
      refine R_iastX dX8_takeValley_33 rfl rfl (ck_in (by decide)) (j := 3) (by decide) ?_
      refine R_aload_n dX8_takeValley_34 rfl rfl ?_
      refine R_getF dX8_takeValley_35 lfX8_17 rfl rfl (q := 57) rfl ?_
      refine R_iconst dX8_takeValley_38 (v := 4) (by decide) ?_
      refine R_aload_n dX8_takeValley_39 rfl rfl ?_
      refine R_iconst dX8_takeValley_40 (v := 0) (by decide) ?_
      refine R_bipush dX8_takeValley_41 (v := 9) (by decide) ?_
      obtain ⟨r24, h23, e22, H⟩ := bn2_some H
      refine R_cV dX8_takeValley_43 lvX8_109 ⟨Nat.le_of_ble_eq_true rfl, Nat.le_of_ble_eq_true rfl⟩ (r := 54) rfl (av := [.int 0, .int 9]) (st := [.int 4, .ref 57]) rfl rfl (Nat.le_of_ble_eq_true rfl) (tX8_takeIn e22) ?_
      refine R_iastX dX8_takeValley_46 rfl rfl (ck_in (by decide)) (j := 4) (by decide) ?_
      refine R_aload_n dX8_takeValley_47 rfl rfl ?_
      refine R_getF dX8_takeValley_48 lfX8_17 rfl rfl (q := 57) rfl ?_
      refine R_iconst dX8_takeValley_51 (v := 5) (by decide) ?_
      refine R_aload_n dX8_takeValley_52 rfl rfl ?_
      refine R_iconst dX8_takeValley_53 (v := 0) (by decide) ?_
      refine R_bipush dX8_takeValley_54 (v := 12) (by decide) ?_
      obtain ⟨r27, h26, e25, H⟩ := bn2_some H
      refine R_cV dX8_takeValley_56 lvX8_109 ⟨Nat.le_of_ble_eq_true rfl, Nat.le_of_ble_eq_true rfl⟩ (r := 54) rfl (av := [.int 0, .int 12]) (st := [.int 5, .ref 57]) rfl rfl (Nat.le_of_ble_eq_true rfl) (tX8_takeIn e25) ?_
      refine R_iastX dX8_takeValley_59 rfl rfl (ck_in (by decide)) (j := 5) (by decide) ?_
      refine R_aload_n dX8_takeValley_60 rfl rfl ?_
      refine R_iconst dX8_takeValley_61 (v := 1) (by decide) ?_
      refine R_putZ dX8_takeValley_62 lfX8_105 rfl rfl (by decide) ?_
      obtain rfl := Option.some.inj H
      exact R_ret (o := none) dX8_takeValley_65 rfl

set_option maxRecDepth 100000 in
set_option maxHeartbeats 4000000 in
theorem tX8_takeRains_L19 {sp : Nat × (Nat → Int32)} {K : aH → Option aH} (hK : ∀ (hk : aH) (h2 : aH), K hk = some h2 → Rn sp mX8_takeRains 134 [.null, .null, .null] [] hk none h2) : ∀ (n : Nat) (h : aH) (x2 : Int32) (h2 : aH), fX8_takeRains_L19 K n h x2 = some h2 → Rn sp mX8_takeRains 19 [.ref 54, .null, .int x2] [] h none h2 := by
  intro n
  induction n with
  | zero =>
    intro h x2 h2 H
    rw [fX8_takeRains_L19] at H
    cases H
  | succ n ih =>
    intro h x2 h2 H
    rw [fX8_takeRains_L19] at H
    refine R_iload_n dX8_takeRains_19 rfl rfl ?_
    rcases it_split H with ⟨c5, H⟩ | ⟨c5, H⟩
    · refine R_if_eq_t dX8_takeRains_20 (tgt := 134) (by decide) c5 ?_
      refine R_null (i := 0) (ls2 := [.null, .null, .int x2]) rfl ?_
      refine R_null (i := 2) (ls2 := [.null, .null, .null]) rfl ?_
      exact hK _ _ H
    · refine R_if_eq_f dX8_takeRains_20 (tgt := 134) (by decide) c5 ?_
      refine R_aload_n dX8_takeRains_23 rfl rfl ?_
      refine R_getF dX8_takeRains_24 lfX8_20 rfl rfl (q := 58) rfl ?_
      refine R_bipush dX8_takeRains_27 (v := 8) (by decide) ?_
      refine R_aload_n dX8_takeRains_29 rfl rfl ?_
      refine R_getX dX8_takeRains_30 lfX8_113 rfl rfl (x := h 54 7) rfl ?_
      refine R_iadd dX8_takeRains_33 ?_
      refine R_aload_n dX8_takeRains_34 rfl rfl ?_
      refine R_iconst dX8_takeRains_35 (v := 0) (by decide) ?_
      refine R_bipush dX8_takeRains_36 (v := 9) (by decide) ?_
      obtain ⟨r8, h7, e6, H⟩ := bn2_some H
      refine R_cV dX8_takeRains_38 lvX8_109 ⟨Nat.le_of_ble_eq_true rfl, Nat.le_of_ble_eq_true rfl⟩ (r := 54) rfl (av := [.int 0, .int 9]) (st := [.int (8 + (h 54 7)), .ref 58]) rfl rfl (Nat.le_of_ble_eq_true rfl) (tX8_takeIn e6) ?_
      obtain ⟨c9, H⟩ := it_some H
      refine R_iastX dX8_takeRains_41 rfl rfl (ck_in c9) (j := tn (8 + (h 54 7))) rfl ?_
      refine R_aload_n dX8_takeRains_42 rfl rfl ?_
      refine R_dup dX8_takeRains_43 rfl ?_
      refine R_getX dX8_takeRains_44 lfX8_113 rfl rfl (x := h7 54 7) rfl ?_
      refine R_iconst dX8_takeRains_47 (v := 1) (by decide) ?_
      refine R_iadd dX8_takeRains_48 ?_
      refine R_putI dX8_takeRains_49 lfX8_113 rfl rfl ?_
      refine R_aload_n dX8_takeRains_52 rfl rfl ?_
      refine R_getX dX8_takeRains_53 lfX8_83 rfl rfl (x := h7 54 22) rfl ?_
      rcases it_split H with ⟨c10, H⟩ | ⟨c10, H⟩
      · refine R_if_ne_f dX8_takeRains_56 (tgt := 72) (by decide) c10 ?_
        refine R_aload_n dX8_takeRains_59 rfl rfl ?_
        obtain ⟨r13, h12, e11, H⟩ := bn2_some H
        refine R_cV dX8_takeRains_60 lvX8_86 ⟨Nat.le_of_ble_eq_true rfl, Nat.le_of_ble_eq_true rfl⟩ (r := 54) rfl (av := []) (st := []) rfl rfl (Nat.le_of_ble_eq_true rfl) (tX8_here e11) ?_
        refine R_bipush dX8_takeRains_63 (v := 44) (by decide) ?_
        rcases it_split H with ⟨c14, H⟩ | ⟨c14, H⟩
        · refine R_icmp_ne_f dX8_takeRains_65 (tgt := 72) (by decide) c14 ?_
          refine R_iconst dX8_takeRains_68 (v := 1) (by decide) ?_
          refine R_goto dX8_takeRains_69 (tgt := 73) (by decide) ?_
          refine R_istoreN dX8_takeRains_73 rfl (by decide) rfl (ls2 := [.ref 54, .null, .int 1]) rfl ?_
          refine R_iload_n dX8_takeRains_74 rfl rfl ?_
          refine R_if_eq_f dX8_takeRains_75 (tgt := 114) (by decide) (by decide) ?_
          refine R_aload_n dX8_takeRains_78 rfl rfl ?_
          refine R_aload_n dX8_takeRains_79 rfl rfl ?_
          refine R_getX dX8_takeRains_80 lfX8_113 rfl rfl (x := h12 54 7) rfl ?_
          refine R_bipush dX8_takeRains_83 (v := 8) (by decide) ?_
          rcases it_split H with ⟨c15, H⟩ | ⟨c15, H⟩
          · refine R_icmp_ge_t dX8_takeRains_85 (tgt := 92) (by decide) c15 ?_
            refine R_iconst dX8_takeRains_92 (v := 0) (by decide) ?_
            refine R_iconst dX8_takeRains_93 (v := 1) (by decide) ?_
            refine R_aload_n dX8_takeRains_94 rfl rfl ?_
            refine R_getX dX8_takeRains_95 lfX8_80 rfl rfl (x := h12 54 20) rfl ?_
            obtain ⟨r18, h17, e16, H⟩ := bn2_some H
            refine R_cV dX8_takeRains_98 lvX8_97 ⟨Nat.le_of_ble_eq_true rfl, Nat.le_of_ble_eq_true rfl⟩ (r := 54) rfl (av := [.int 0, .int 1, .int (h12 54 20)]) (st := []) rfl rfl (Nat.le_of_ble_eq_true rfl) (tX8_want e16) ?_
            rcases it_split H with ⟨c19, H⟩ | ⟨c19, H⟩
            · refine R_if_eq_t dX8_takeRains_101 (tgt := 114) (by decide) c19 ?_
              refine R_iload_n dX8_takeRains_114 rfl rfl ?_
              refine R_if_eq_f dX8_takeRains_115 (tgt := 129) (by decide) (by decide) ?_
              refine R_aload_n dX8_takeRains_118 rfl rfl ?_
              refine R_getX dX8_takeRains_119 lfX8_83 rfl rfl (x := h17 54 22) rfl ?_
              rcases it_split H with ⟨c20, H⟩ | ⟨c20, H⟩
              · refine R_if_ne_f dX8_takeRains_122 (tgt := 129) (by decide) c20 ?_
                refine R_iconst dX8_takeRains_125 (v := 1) (by decide) ?_
                refine R_goto dX8_takeRains_126 (tgt := 130) (by decide) ?_
                refine R_istoreN dX8_takeRains_130 rfl (by decide) rfl (ls2 := [.ref 54, .null, .int 1]) rfl ?_
                refine R_goto dX8_takeRains_131 (tgt := 19) (by decide) ?_
                exact ih _ _ _ H
              · refine R_if_ne_t dX8_takeRains_122 (tgt := 129) (by decide) c20 ?_
                refine R_iconst dX8_takeRains_129 (v := 0) (by decide) ?_
                refine R_istoreN dX8_takeRains_130 rfl (by decide) rfl (ls2 := [.ref 54, .null, .int 0]) rfl ?_
                refine R_goto dX8_takeRains_131 (tgt := 19) (by decide) ?_
                exact ih _ _ _ H
            · refine R_if_eq_f dX8_takeRains_101 (tgt := 114) (by decide) c19 ?_
              refine R_aload_n dX8_takeRains_104 rfl rfl ?_
              refine R_dup dX8_takeRains_105 rfl ?_
              refine R_getX dX8_takeRains_106 lfX8_80 rfl rfl (x := h17 54 20) rfl ?_
              refine R_iconst dX8_takeRains_109 (v := 1) (by decide) ?_
              refine R_iadd dX8_takeRains_110 ?_
              refine R_putI dX8_takeRains_111 lfX8_80 rfl rfl ?_
              refine R_iload_n dX8_takeRains_114 rfl rfl ?_
              refine R_if_eq_f dX8_takeRains_115 (tgt := 129) (by decide) (by decide) ?_
              refine R_aload_n dX8_takeRains_118 rfl rfl ?_
              refine R_getX dX8_takeRains_119 lfX8_83 rfl rfl (x := h17 54 22) rfl ?_
              rcases it_split H with ⟨c21, H⟩ | ⟨c21, H⟩
              · refine R_if_ne_f dX8_takeRains_122 (tgt := 129) (by decide) c21 ?_
                refine R_iconst dX8_takeRains_125 (v := 1) (by decide) ?_
                refine R_goto dX8_takeRains_126 (tgt := 130) (by decide) ?_
                refine R_istoreN dX8_takeRains_130 rfl (by decide) rfl (ls2 := [.ref 54, .null, .int 1]) rfl ?_
                refine R_goto dX8_takeRains_131 (tgt := 19) (by decide) ?_
                exact ih _ _ _ H
              · refine R_if_ne_t dX8_takeRains_122 (tgt := 129) (by decide) c21 ?_
                refine R_iconst dX8_takeRains_129 (v := 0) (by decide) ?_
                refine R_istoreN dX8_takeRains_130 rfl (by decide) rfl (ls2 := [.ref 54, .null, .int 0]) rfl ?_
                refine R_goto dX8_takeRains_131 (tgt := 19) (by decide) ?_
                exact ih _ _ _ H
          · refine R_icmp_ge_f dX8_takeRains_85 (tgt := 92) (by decide) c15 ?_
            refine R_iconst dX8_takeRains_88 (v := 1) (by decide) ?_
            refine R_goto dX8_takeRains_89 (tgt := 93) (by decide) ?_
            refine R_iconst dX8_takeRains_93 (v := 1) (by decide) ?_
            refine R_aload_n dX8_takeRains_94 rfl rfl ?_
            refine R_getX dX8_takeRains_95 lfX8_80 rfl rfl (x := h12 54 20) rfl ?_
            obtain ⟨r24, h23, e22, H⟩ := bn2_some H
            refine R_cV dX8_takeRains_98 lvX8_97 ⟨Nat.le_of_ble_eq_true rfl, Nat.le_of_ble_eq_true rfl⟩ (r := 54) rfl (av := [.int 1, .int 1, .int (h12 54 20)]) (st := []) rfl rfl (Nat.le_of_ble_eq_true rfl) (tX8_want e22) ?_
            rcases it_split H with ⟨c25, H⟩ | ⟨c25, H⟩
            · refine R_if_eq_t dX8_takeRains_101 (tgt := 114) (by decide) c25 ?_
              refine R_iload_n dX8_takeRains_114 rfl rfl ?_
              refine R_if_eq_f dX8_takeRains_115 (tgt := 129) (by decide) (by decide) ?_
              refine R_aload_n dX8_takeRains_118 rfl rfl ?_
              refine R_getX dX8_takeRains_119 lfX8_83 rfl rfl (x := h23 54 22) rfl ?_
              rcases it_split H with ⟨c26, H⟩ | ⟨c26, H⟩
              · refine R_if_ne_f dX8_takeRains_122 (tgt := 129) (by decide) c26 ?_
                refine R_iconst dX8_takeRains_125 (v := 1) (by decide) ?_
                refine R_goto dX8_takeRains_126 (tgt := 130) (by decide) ?_
                refine R_istoreN dX8_takeRains_130 rfl (by decide) rfl (ls2 := [.ref 54, .null, .int 1]) rfl ?_
                refine R_goto dX8_takeRains_131 (tgt := 19) (by decide) ?_
                exact ih _ _ _ H
              · refine R_if_ne_t dX8_takeRains_122 (tgt := 129) (by decide) c26 ?_
                refine R_iconst dX8_takeRains_129 (v := 0) (by decide) ?_
                refine R_istoreN dX8_takeRains_130 rfl (by decide) rfl (ls2 := [.ref 54, .null, .int 0]) rfl ?_
                refine R_goto dX8_takeRains_131 (tgt := 19) (by decide) ?_
                exact ih _ _ _ H
            · refine R_if_eq_f dX8_takeRains_101 (tgt := 114) (by decide) c25 ?_
              refine R_aload_n dX8_takeRains_104 rfl rfl ?_
              refine R_dup dX8_takeRains_105 rfl ?_
              refine R_getX dX8_takeRains_106 lfX8_80 rfl rfl (x := h23 54 20) rfl ?_
              refine R_iconst dX8_takeRains_109 (v := 1) (by decide) ?_
              refine R_iadd dX8_takeRains_110 ?_
              refine R_putI dX8_takeRains_111 lfX8_80 rfl rfl ?_
              refine R_iload_n dX8_takeRains_114 rfl rfl ?_
              refine R_if_eq_f dX8_takeRains_115 (tgt := 129) (by decide) (by decide) ?_
              refine R_aload_n dX8_takeRains_118 rfl rfl ?_
              refine R_getX dX8_takeRains_119 lfX8_83 rfl rfl (x := h23 54 22) rfl ?_
              rcases it_split H with ⟨c27, H⟩ | ⟨c27, H⟩
              · refine R_if_ne_f dX8_takeRains_122 (tgt := 129) (by decide) c27 ?_
                refine R_iconst dX8_takeRains_125 (v := 1) (by decide) ?_
                refine R_goto dX8_takeRains_126 (tgt := 130) (by decide) ?_
                refine R_istoreN dX8_takeRains_130 rfl (by decide) rfl (ls2 := [.ref 54, .null, .int 1]) rfl ?_
                refine R_goto dX8_takeRains_131 (tgt := 19) (by decide) ?_
                exact ih _ _ _ H
              · refine R_if_ne_t dX8_takeRains_122 (tgt := 129) (by decide) c27 ?_
                refine R_iconst dX8_takeRains_129 (v := 0) (by decide) ?_
                refine R_istoreN dX8_takeRains_130 rfl (by decide) rfl (ls2 := [.ref 54, .null, .int 0]) rfl ?_
                refine R_goto dX8_takeRains_131 (tgt := 19) (by decide) ?_
                exact ih _ _ _ H
        · refine R_icmp_ne_t dX8_takeRains_65 (tgt := 72) (by decide) c14 ?_
          refine R_iconst dX8_takeRains_72 (v := 0) (by decide) ?_
          refine R_istoreN dX8_takeRains_73 rfl (by decide) rfl (ls2 := [.ref 54, .null, .int 0]) rfl ?_
          refine R_iload_n dX8_takeRains_74 rfl rfl ?_
          refine R_if_eq_t dX8_takeRains_75 (tgt := 114) (by decide) (by decide) ?_
          refine R_iload_n dX8_takeRains_114 rfl rfl ?_
          refine R_if_eq_t dX8_takeRains_115 (tgt := 129) (by decide) (by decide) ?_
          refine R_iconst dX8_takeRains_129 (v := 0) (by decide) ?_
          refine R_istoreN dX8_takeRains_130 rfl (by decide) rfl (ls2 := [.ref 54, .null, .int 0]) rfl ?_
          refine R_goto dX8_takeRains_131 (tgt := 19) (by decide) ?_
          exact ih _ _ _ H
      · refine R_if_ne_t dX8_takeRains_56 (tgt := 72) (by decide) c10 ?_
        refine R_iconst dX8_takeRains_72 (v := 0) (by decide) ?_
        refine R_istoreN dX8_takeRains_73 rfl (by decide) rfl (ls2 := [.ref 54, .null, .int 0]) rfl ?_
        refine R_iload_n dX8_takeRains_74 rfl rfl ?_
        refine R_if_eq_t dX8_takeRains_75 (tgt := 114) (by decide) (by decide) ?_
        refine R_iload_n dX8_takeRains_114 rfl rfl ?_
        refine R_if_eq_t dX8_takeRains_115 (tgt := 129) (by decide) (by decide) ?_
        refine R_iconst dX8_takeRains_129 (v := 0) (by decide) ?_
        refine R_istoreN dX8_takeRains_130 rfl (by decide) rfl (ls2 := [.ref 54, .null, .int 0]) rfl ?_
        refine R_goto dX8_takeRains_131 (tgt := 19) (by decide) ?_
        exact ih _ _ _ H

set_option maxRecDepth 100000 in
set_option maxHeartbeats 4000000 in
theorem tX8_takeRains {h : aH} {x1 : Int32} {h2 : aH} (H : fX8_takeRains h x1 = some h2) : Ev mX8_takeRains [.ref 54, .int x1] h none h2 := by
  unfold fX8_takeRains at H
  refine Ev_of (sp := (0, fun _ => 0)) oX8_takeRains nlX8 (Nat.le_of_ble_eq_true rfl) (ls0 := [.ref 54, .int x1, .null]) rfl ?_
  refine R_aload_n dX8_takeRains_0 rfl rfl ?_
  refine R_aload_n dX8_takeRains_1 rfl rfl ?_
  refine R_getX dX8_takeRains_2 lfX8_113 rfl rfl (x := h 54 7) rfl ?_
  rcases it_split H with ⟨c1, H⟩ | ⟨c1, H⟩
  · refine R_if_ne_f dX8_takeRains_5 (tgt := 12) (by decide) c1 ?_
    refine R_iconst dX8_takeRains_8 (v := 1) (by decide) ?_
    refine R_goto dX8_takeRains_9 (tgt := 13) (by decide) ?_
    refine R_iconst dX8_takeRains_13 (v := 3) (by decide) ?_
    refine R_iload_n dX8_takeRains_14 rfl rfl ?_
    obtain ⟨r4, h3, e2, H⟩ := bn2_some H
    refine R_cV dX8_takeRains_15 lvX8_97 ⟨Nat.le_of_ble_eq_true rfl, Nat.le_of_ble_eq_true rfl⟩ (r := 54) rfl (av := [.int 1, .int 3, .int x1]) (st := []) rfl rfl (Nat.le_of_ble_eq_true rfl) (tX8_want e2) ?_
    refine R_istoreN dX8_takeRains_18 rfl (by decide) rfl (ls2 := [.ref 54, .int x1, .int (bi r4)]) rfl ?_
    refine R_null (i := 1) (ls2 := [.ref 54, .null, .int (bi r4)]) rfl ?_
    refine tX8_takeRains_L19 (fun h28 h2 H => ?_) _ _ _ _ H
    obtain rfl := Option.some.inj H
    exact R_ret (o := none) dX8_takeRains_134 rfl
  · refine R_if_ne_t dX8_takeRains_5 (tgt := 12) (by decide) c1 ?_
    refine R_iconst dX8_takeRains_12 (v := 0) (by decide) ?_
    refine R_iconst dX8_takeRains_13 (v := 3) (by decide) ?_
    refine R_iload_n dX8_takeRains_14 rfl rfl ?_
    obtain ⟨r31, h30, e29, H⟩ := bn2_some H
    refine R_cV dX8_takeRains_15 lvX8_97 ⟨Nat.le_of_ble_eq_true rfl, Nat.le_of_ble_eq_true rfl⟩ (r := 54) rfl (av := [.int 0, .int 3, .int x1]) (st := []) rfl rfl (Nat.le_of_ble_eq_true rfl) (tX8_want e29) ?_
    refine R_istoreN dX8_takeRains_18 rfl (by decide) rfl (ls2 := [.ref 54, .int x1, .int (bi r31)]) rfl ?_
    refine R_null (i := 1) (ls2 := [.ref 54, .null, .int (bi r31)]) rfl ?_
    refine tX8_takeRains_L19 (fun h32 h2 H => ?_) _ _ _ _ H
    obtain rfl := Option.some.inj H
    exact R_ret (o := none) dX8_takeRains_134 rfl

set_option maxRecDepth 100000 in
set_option maxHeartbeats 4000000 in
theorem tX8_takeHand {h : aH} {x1 : Int32} {h2 : aH} (H : fX8_takeHand h x1 = some h2) : Ev mX8_takeHand [.ref 54, .int x1] h none h2 := by
  unfold fX8_takeHand at H
  refine Ev_of (sp := (0, fun _ => 0)) oX8_takeHand nlX8 (Nat.le_of_ble_eq_true rfl) (ls0 := [.ref 54, .int x1]) rfl ?_
  refine R_aload_n dX8_takeHand_0 rfl rfl ?_
  refine R_aload_n dX8_takeHand_1 rfl rfl ?_
  refine R_getX dX8_takeHand_2 lfX8_116 rfl rfl (x := h 54 12) rfl ?_
  refine R_iconst dX8_takeHand_5 (v := 4) (by decide) ?_
  rcases it_split H with ⟨c1, H⟩ | ⟨c1, H⟩
  · refine R_icmp_ge_t dX8_takeHand_6 (tgt := 13) (by decide) c1 ?_
    refine R_iconst dX8_takeHand_13 (v := 0) (by decide) ?_
    refine R_iconst dX8_takeHand_14 (v := 3) (by decide) ?_
    refine R_iload_n dX8_takeHand_15 rfl rfl ?_
    obtain ⟨r4, h3, e2, H⟩ := bn2_some H
    refine R_cV dX8_takeHand_16 lvX8_97 ⟨Nat.le_of_ble_eq_true rfl, Nat.le_of_ble_eq_true rfl⟩ (r := 54) rfl (av := [.int 0, .int 3, .int x1]) (st := []) rfl rfl (Nat.le_of_ble_eq_true rfl) (tX8_want e2) ?_
    rcases it_split H with ⟨c5, H⟩ | ⟨c5, H⟩
    · refine R_if_eq_t dX8_takeHand_19 (tgt := 86) (by decide) c5 ?_
      obtain rfl := Option.some.inj H
      exact R_ret (o := none) dX8_takeHand_86 rfl
    · refine R_if_eq_f dX8_takeHand_19 (tgt := 86) (by decide) c5 ?_
      refine R_aload_n dX8_takeHand_22 rfl rfl ?_
      refine R_getF dX8_takeHand_23 lfX8_23 rfl rfl (q := 59) rfl ?_
      refine R_iconst dX8_takeHand_26 (v := 4) (by decide) ?_
      refine R_aload_n dX8_takeHand_27 rfl rfl ?_
      refine R_getX dX8_takeHand_28 lfX8_116 rfl rfl (x := h3 54 12) rfl ?_
      refine R_iadd dX8_takeHand_31 ?_
      refine R_aload_n dX8_takeHand_32 rfl rfl ?_
      refine R_iconst dX8_takeHand_33 (v := 0) (by decide) ?_
      refine R_bipush dX8_takeHand_34 (v := 8) (by decide) ?_
      obtain ⟨r8, h7, e6, H⟩ := bn2_some H
      refine R_cV dX8_takeHand_36 lvX8_109 ⟨Nat.le_of_ble_eq_true rfl, Nat.le_of_ble_eq_true rfl⟩ (r := 54) rfl (av := [.int 0, .int 8]) (st := [.int (4 + (h3 54 12)), .ref 59]) rfl rfl (Nat.le_of_ble_eq_true rfl) (tX8_takeIn e6) ?_
      obtain ⟨c9, H⟩ := it_some H
      refine R_iastX dX8_takeHand_39 rfl rfl (ck_in c9) (j := tn (4 + (h3 54 12))) rfl ?_
      refine R_aload_n dX8_takeHand_40 rfl rfl ?_
      refine R_getF dX8_takeHand_41 lfX8_26 rfl rfl (q := 60) rfl ?_
      refine R_iconst dX8_takeHand_44 (v := 4) (by decide) ?_
      refine R_aload_n dX8_takeHand_45 rfl rfl ?_
      refine R_getX dX8_takeHand_46 lfX8_116 rfl rfl (x := h7 54 12) rfl ?_
      refine R_iadd dX8_takeHand_49 ?_
      refine R_aload_n dX8_takeHand_50 rfl rfl ?_
      refine R_iconst dX8_takeHand_51 (v := 0) (by decide) ?_
      refine R_bipush dX8_takeHand_52 (v := 8) (by decide) ?_
      obtain ⟨r12, h11, e10, H⟩ := bn2_some H
      refine R_cV dX8_takeHand_54 lvX8_109 ⟨Nat.le_of_ble_eq_true rfl, Nat.le_of_ble_eq_true rfl⟩ (r := 54) rfl (av := [.int 0, .int 8]) (st := [.int (4 + (h7 54 12)), .ref 60]) rfl rfl (Nat.le_of_ble_eq_true rfl) (tX8_takeIn e10) ?_
      obtain ⟨c13, H⟩ := it_some H
      refine R_iastX dX8_takeHand_57 rfl rfl (ck_in c13) (j := tn (4 + (h7 54 12))) rfl ?_
      refine R_aload_n dX8_takeHand_58 rfl rfl ?_
      refine R_getF dX8_takeHand_59 lfX8_29 rfl rfl (q := 61) rfl ?_
      refine R_iconst dX8_takeHand_62 (v := 4) (by decide) ?_
      refine R_aload_n dX8_takeHand_63 rfl rfl ?_
      refine R_getX dX8_takeHand_64 lfX8_116 rfl rfl (x := h11 54 12) rfl ?_
      refine R_iadd dX8_takeHand_67 ?_
      refine R_aload_n dX8_takeHand_68 rfl rfl ?_
      refine R_iconst dX8_takeHand_69 (v := 0) (by decide) ?_
      refine R_bipush dX8_takeHand_70 (v := 8) (by decide) ?_
      obtain ⟨r16, h15, e14, H⟩ := bn2_some H
      refine R_cV dX8_takeHand_72 lvX8_109 ⟨Nat.le_of_ble_eq_true rfl, Nat.le_of_ble_eq_true rfl⟩ (r := 54) rfl (av := [.int 0, .int 8]) (st := [.int (4 + (h11 54 12)), .ref 61]) rfl rfl (Nat.le_of_ble_eq_true rfl) (tX8_takeIn e14) ?_
      obtain ⟨c17, H⟩ := it_some H
      refine R_iastX dX8_takeHand_75 rfl rfl (ck_in c17) (j := tn (4 + (h11 54 12))) rfl ?_
      refine R_aload_n dX8_takeHand_76 rfl rfl ?_
      refine R_dup dX8_takeHand_77 rfl ?_
      refine R_getX dX8_takeHand_78 lfX8_116 rfl rfl (x := h15 54 12) rfl ?_
      refine R_iconst dX8_takeHand_81 (v := 1) (by decide) ?_
      refine R_iadd dX8_takeHand_82 ?_
      refine R_putI dX8_takeHand_83 lfX8_116 rfl rfl ?_
      obtain rfl := Option.some.inj H
      exact R_ret (o := none) dX8_takeHand_86 rfl
  · refine R_icmp_ge_f dX8_takeHand_6 (tgt := 13) (by decide) c1 ?_
    refine R_iconst dX8_takeHand_9 (v := 1) (by decide) ?_
    refine R_goto dX8_takeHand_10 (tgt := 14) (by decide) ?_
    refine R_iconst dX8_takeHand_14 (v := 3) (by decide) ?_
    refine R_iload_n dX8_takeHand_15 rfl rfl ?_
    obtain ⟨r20, h19, e18, H⟩ := bn2_some H
    refine R_cV dX8_takeHand_16 lvX8_97 ⟨Nat.le_of_ble_eq_true rfl, Nat.le_of_ble_eq_true rfl⟩ (r := 54) rfl (av := [.int 1, .int 3, .int x1]) (st := []) rfl rfl (Nat.le_of_ble_eq_true rfl) (tX8_want e18) ?_
    rcases it_split H with ⟨c21, H⟩ | ⟨c21, H⟩
    · refine R_if_eq_t dX8_takeHand_19 (tgt := 86) (by decide) c21 ?_
      obtain rfl := Option.some.inj H
      exact R_ret (o := none) dX8_takeHand_86 rfl
    · refine R_if_eq_f dX8_takeHand_19 (tgt := 86) (by decide) c21 ?_
      refine R_aload_n dX8_takeHand_22 rfl rfl ?_
      refine R_getF dX8_takeHand_23 lfX8_23 rfl rfl (q := 59) rfl ?_
      refine R_iconst dX8_takeHand_26 (v := 4) (by decide) ?_
      refine R_aload_n dX8_takeHand_27 rfl rfl ?_
      refine R_getX dX8_takeHand_28 lfX8_116 rfl rfl (x := h19 54 12) rfl ?_
      refine R_iadd dX8_takeHand_31 ?_
      refine R_aload_n dX8_takeHand_32 rfl rfl ?_
      refine R_iconst dX8_takeHand_33 (v := 0) (by decide) ?_
      refine R_bipush dX8_takeHand_34 (v := 8) (by decide) ?_
      obtain ⟨r24, h23, e22, H⟩ := bn2_some H
      refine R_cV dX8_takeHand_36 lvX8_109 ⟨Nat.le_of_ble_eq_true rfl, Nat.le_of_ble_eq_true rfl⟩ (r := 54) rfl (av := [.int 0, .int 8]) (st := [.int (4 + (h19 54 12)), .ref 59]) rfl rfl (Nat.le_of_ble_eq_true rfl) (tX8_takeIn e22) ?_
      obtain ⟨c25, H⟩ := it_some H
      refine R_iastX dX8_takeHand_39 rfl rfl (ck_in c25) (j := tn (4 + (h19 54 12))) rfl ?_
      refine R_aload_n dX8_takeHand_40 rfl rfl ?_
      refine R_getF dX8_takeHand_41 lfX8_26 rfl rfl (q := 60) rfl ?_
      refine R_iconst dX8_takeHand_44 (v := 4) (by decide) ?_
      refine R_aload_n dX8_takeHand_45 rfl rfl ?_
      refine R_getX dX8_takeHand_46 lfX8_116 rfl rfl (x := h23 54 12) rfl ?_
      refine R_iadd dX8_takeHand_49 ?_
      refine R_aload_n dX8_takeHand_50 rfl rfl ?_
      refine R_iconst dX8_takeHand_51 (v := 0) (by decide) ?_
      refine R_bipush dX8_takeHand_52 (v := 8) (by decide) ?_
      obtain ⟨r28, h27, e26, H⟩ := bn2_some H
      refine R_cV dX8_takeHand_54 lvX8_109 ⟨Nat.le_of_ble_eq_true rfl, Nat.le_of_ble_eq_true rfl⟩ (r := 54) rfl (av := [.int 0, .int 8]) (st := [.int (4 + (h23 54 12)), .ref 60]) rfl rfl (Nat.le_of_ble_eq_true rfl) (tX8_takeIn e26) ?_
      obtain ⟨c29, H⟩ := it_some H
      refine R_iastX dX8_takeHand_57 rfl rfl (ck_in c29) (j := tn (4 + (h23 54 12))) rfl ?_
      refine R_aload_n dX8_takeHand_58 rfl rfl ?_
      refine R_getF dX8_takeHand_59 lfX8_29 rfl rfl (q := 61) rfl ?_
      refine R_iconst dX8_takeHand_62 (v := 4) (by decide) ?_
      refine R_aload_n dX8_takeHand_63 rfl rfl ?_
      refine R_getX dX8_takeHand_64 lfX8_116 rfl rfl (x := h27 54 12) rfl ?_
      refine R_iadd dX8_takeHand_67 ?_
      refine R_aload_n dX8_takeHand_68 rfl rfl ?_
      refine R_iconst dX8_takeHand_69 (v := 0) (by decide) ?_
      refine R_bipush dX8_takeHand_70 (v := 8) (by decide) ?_
      obtain ⟨r32, h31, e30, H⟩ := bn2_some H
      refine R_cV dX8_takeHand_72 lvX8_109 ⟨Nat.le_of_ble_eq_true rfl, Nat.le_of_ble_eq_true rfl⟩ (r := 54) rfl (av := [.int 0, .int 8]) (st := [.int (4 + (h27 54 12)), .ref 61]) rfl rfl (Nat.le_of_ble_eq_true rfl) (tX8_takeIn e30) ?_
      obtain ⟨c33, H⟩ := it_some H
      refine R_iastX dX8_takeHand_75 rfl rfl (ck_in c33) (j := tn (4 + (h27 54 12))) rfl ?_
      refine R_aload_n dX8_takeHand_76 rfl rfl ?_
      refine R_dup dX8_takeHand_77 rfl ?_
      refine R_getX dX8_takeHand_78 lfX8_116 rfl rfl (x := h31 54 12) rfl ?_
      refine R_iconst dX8_takeHand_81 (v := 1) (by decide) ?_
      refine R_iadd dX8_takeHand_82 ?_
      refine R_putI dX8_takeHand_83 lfX8_116 rfl rfl ?_
      obtain rfl := Option.some.inj H
      exact R_ret (o := none) dX8_takeHand_86 rfl

set_option maxRecDepth 100000 in
set_option maxHeartbeats 4000000 in
theorem tX8_takePaper {h : aH} {x1 : Int32} {h2 : aH} (H : fX8_takePaper h x1 = some h2) : Ev mX8_takePaper [.ref 54, .int x1] h none h2 := by
  unfold fX8_takePaper at H
  refine Ev_of (sp := (0, fun _ => 0)) oX8_takePaper nlX8 (Nat.le_of_ble_eq_true rfl) (ls0 := [.ref 54, .int x1]) rfl ?_
  refine R_aload_n dX8_takePaper_0 rfl rfl ?_
  refine R_aload_n dX8_takePaper_1 rfl rfl ?_
  refine R_getX dX8_takePaper_2 lfX8_119 rfl rfl (x := h 54 17) rfl ?_
  refine R_iconst dX8_takePaper_5 (v := 4) (by decide) ?_
  rcases it_split H with ⟨c1, H⟩ | ⟨c1, H⟩
  · refine R_icmp_ge_t dX8_takePaper_6 (tgt := 13) (by decide) c1 ?_
    refine R_iconst dX8_takePaper_13 (v := 0) (by decide) ?_
    refine R_iconst dX8_takePaper_14 (v := 3) (by decide) ?_
    refine R_iload_n dX8_takePaper_15 rfl rfl ?_
    obtain ⟨r4, h3, e2, H⟩ := bn2_some H
    refine R_cV dX8_takePaper_16 lvX8_97 ⟨Nat.le_of_ble_eq_true rfl, Nat.le_of_ble_eq_true rfl⟩ (r := 54) rfl (av := [.int 0, .int 3, .int x1]) (st := []) rfl rfl (Nat.le_of_ble_eq_true rfl) (tX8_want e2) ?_
    rcases it_split H with ⟨c5, H⟩ | ⟨c5, H⟩
    · refine R_if_eq_t dX8_takePaper_19 (tgt := 90) (by decide) c5 ?_
      obtain rfl := Option.some.inj H
      exact R_ret (o := none) dX8_takePaper_90 rfl
    · refine R_if_eq_f dX8_takePaper_19 (tgt := 90) (by decide) c5 ?_
      refine R_aload_n dX8_takePaper_22 rfl rfl ?_
      refine R_getF dX8_takePaper_23 lfX8_32 rfl rfl (q := 62) rfl ?_
      refine R_iconst dX8_takePaper_26 (v := 4) (by decide) ?_
      refine R_aload_n dX8_takePaper_27 rfl rfl ?_
      refine R_getX dX8_takePaper_28 lfX8_119 rfl rfl (x := h3 54 17) rfl ?_
      refine R_iadd dX8_takePaper_31 ?_
      refine R_aload_n dX8_takePaper_32 rfl rfl ?_
      refine R_iconst dX8_takePaper_33 (v := 0) (by decide) ?_
      refine R_aload_n dX8_takePaper_34 rfl rfl ?_
      refine R_getX dX8_takePaper_35 lfX8_116 rfl rfl (x := h3 54 12) rfl ?_
      refine R_iconst dX8_takePaper_38 (v := 1) (by decide) ?_
      refine R_isub dX8_takePaper_39 ?_
      obtain ⟨r8, h7, e6, H⟩ := bn2_some H
      refine R_cV dX8_takePaper_40 lvX8_109 ⟨Nat.le_of_ble_eq_true rfl, Nat.le_of_ble_eq_true rfl⟩ (r := 54) rfl (av := [.int 0, .int ((h3 54 12) - 1)]) (st := [.int (4 + (h3 54 17)), .ref 62]) rfl rfl (Nat.le_of_ble_eq_true rfl) (tX8_takeIn e6) ?_
      obtain ⟨c9, H⟩ := it_some H
      refine R_iastX dX8_takePaper_43 rfl rfl (ck_in c9) (j := tn (4 + (h3 54 17))) rfl ?_
      refine R_aload_n dX8_takePaper_44 rfl rfl ?_
      refine R_getF dX8_takePaper_45 lfX8_35 rfl rfl (q := 63) rfl ?_
      refine R_iconst dX8_takePaper_48 (v := 4) (by decide) ?_
      refine R_aload_n dX8_takePaper_49 rfl rfl ?_
      refine R_getX dX8_takePaper_50 lfX8_119 rfl rfl (x := h7 54 17) rfl ?_
      refine R_iadd dX8_takePaper_53 ?_
      refine R_aload_n dX8_takePaper_54 rfl rfl ?_
      refine R_iconst dX8_takePaper_55 (v := 0) (by decide) ?_
      refine R_bipush dX8_takePaper_56 (v := 95) (by decide) ?_
      obtain ⟨r12, h11, e10, H⟩ := bn2_some H
      refine R_cV dX8_takePaper_58 lvX8_109 ⟨Nat.le_of_ble_eq_true rfl, Nat.le_of_ble_eq_true rfl⟩ (r := 54) rfl (av := [.int 0, .int 95]) (st := [.int (4 + (h7 54 17)), .ref 63]) rfl rfl (Nat.le_of_ble_eq_true rfl) (tX8_takeIn e10) ?_
      obtain ⟨c13, H⟩ := it_some H
      refine R_iastX dX8_takePaper_61 rfl rfl (ck_in c13) (j := tn (4 + (h7 54 17))) rfl ?_
      refine R_aload_n dX8_takePaper_62 rfl rfl ?_
      refine R_getF dX8_takePaper_63 lfX8_38 rfl rfl (q := 64) rfl ?_
      refine R_iconst dX8_takePaper_66 (v := 4) (by decide) ?_
      refine R_aload_n dX8_takePaper_67 rfl rfl ?_
      refine R_getX dX8_takePaper_68 lfX8_119 rfl rfl (x := h11 54 17) rfl ?_
      refine R_iadd dX8_takePaper_71 ?_
      refine R_aload_n dX8_takePaper_72 rfl rfl ?_
      refine R_iconst dX8_takePaper_73 (v := 1) (by decide) ?_
      refine R_bipush dX8_takePaper_74 (v := 12) (by decide) ?_
      obtain ⟨r16, h15, e14, H⟩ := bn2_some H
      refine R_cV dX8_takePaper_76 lvX8_109 ⟨Nat.le_of_ble_eq_true rfl, Nat.le_of_ble_eq_true rfl⟩ (r := 54) rfl (av := [.int 1, .int 12]) (st := [.int (4 + (h11 54 17)), .ref 64]) rfl rfl (Nat.le_of_ble_eq_true rfl) (tX8_takeIn e14) ?_
      obtain ⟨c17, H⟩ := it_some H
      refine R_iastX dX8_takePaper_79 rfl rfl (ck_in c17) (j := tn (4 + (h11 54 17))) rfl ?_
      refine R_aload_n dX8_takePaper_80 rfl rfl ?_
      refine R_dup dX8_takePaper_81 rfl ?_
      refine R_getX dX8_takePaper_82 lfX8_119 rfl rfl (x := h15 54 17) rfl ?_
      refine R_iconst dX8_takePaper_85 (v := 1) (by decide) ?_
      refine R_iadd dX8_takePaper_86 ?_
      refine R_putI dX8_takePaper_87 lfX8_119 rfl rfl ?_
      obtain rfl := Option.some.inj H
      exact R_ret (o := none) dX8_takePaper_90 rfl
  · refine R_icmp_ge_f dX8_takePaper_6 (tgt := 13) (by decide) c1 ?_
    refine R_iconst dX8_takePaper_9 (v := 1) (by decide) ?_
    refine R_goto dX8_takePaper_10 (tgt := 14) (by decide) ?_
    refine R_iconst dX8_takePaper_14 (v := 3) (by decide) ?_
    refine R_iload_n dX8_takePaper_15 rfl rfl ?_
    obtain ⟨r20, h19, e18, H⟩ := bn2_some H
    refine R_cV dX8_takePaper_16 lvX8_97 ⟨Nat.le_of_ble_eq_true rfl, Nat.le_of_ble_eq_true rfl⟩ (r := 54) rfl (av := [.int 1, .int 3, .int x1]) (st := []) rfl rfl (Nat.le_of_ble_eq_true rfl) (tX8_want e18) ?_
    rcases it_split H with ⟨c21, H⟩ | ⟨c21, H⟩
    · refine R_if_eq_t dX8_takePaper_19 (tgt := 90) (by decide) c21 ?_
      obtain rfl := Option.some.inj H
      exact R_ret (o := none) dX8_takePaper_90 rfl
    · refine R_if_eq_f dX8_takePaper_19 (tgt := 90) (by decide) c21 ?_
      refine R_aload_n dX8_takePaper_22 rfl rfl ?_
      refine R_getF dX8_takePaper_23 lfX8_32 rfl rfl (q := 62) rfl ?_
      refine R_iconst dX8_takePaper_26 (v := 4) (by decide) ?_
      refine R_aload_n dX8_takePaper_27 rfl rfl ?_
      refine R_getX dX8_takePaper_28 lfX8_119 rfl rfl (x := h19 54 17) rfl ?_
      refine R_iadd dX8_takePaper_31 ?_
      refine R_aload_n dX8_takePaper_32 rfl rfl ?_
      refine R_iconst dX8_takePaper_33 (v := 0) (by decide) ?_
      refine R_aload_n dX8_takePaper_34 rfl rfl ?_
      refine R_getX dX8_takePaper_35 lfX8_116 rfl rfl (x := h19 54 12) rfl ?_
      refine R_iconst dX8_takePaper_38 (v := 1) (by decide) ?_
      refine R_isub dX8_takePaper_39 ?_
      obtain ⟨r24, h23, e22, H⟩ := bn2_some H
      refine R_cV dX8_takePaper_40 lvX8_109 ⟨Nat.le_of_ble_eq_true rfl, Nat.le_of_ble_eq_true rfl⟩ (r := 54) rfl (av := [.int 0, .int ((h19 54 12) - 1)]) (st := [.int (4 + (h19 54 17)), .ref 62]) rfl rfl (Nat.le_of_ble_eq_true rfl) (tX8_takeIn e22) ?_
      obtain ⟨c25, H⟩ := it_some H
      refine R_iastX dX8_takePaper_43 rfl rfl (ck_in c25) (j := tn (4 + (h19 54 17))) rfl ?_
      refine R_aload_n dX8_takePaper_44 rfl rfl ?_
      refine R_getF dX8_takePaper_45 lfX8_35 rfl rfl (q := 63) rfl ?_
      refine R_iconst dX8_takePaper_48 (v := 4) (by decide) ?_
      refine R_aload_n dX8_takePaper_49 rfl rfl ?_
      refine R_getX dX8_takePaper_50 lfX8_119 rfl rfl (x := h23 54 17) rfl ?_
      refine R_iadd dX8_takePaper_53 ?_
      refine R_aload_n dX8_takePaper_54 rfl rfl ?_
      refine R_iconst dX8_takePaper_55 (v := 0) (by decide) ?_
      refine R_bipush dX8_takePaper_56 (v := 95) (by decide) ?_
      obtain ⟨r28, h27, e26, H⟩ := bn2_some H
      refine R_cV dX8_takePaper_58 lvX8_109 ⟨Nat.le_of_ble_eq_true rfl, Nat.le_of_ble_eq_true rfl⟩ (r := 54) rfl (av := [.int 0, .int 95]) (st := [.int (4 + (h23 54 17)), .ref 63]) rfl rfl (Nat.le_of_ble_eq_true rfl) (tX8_takeIn e26) ?_
      obtain ⟨c29, H⟩ := it_some H
      refine R_iastX dX8_takePaper_61 rfl rfl (ck_in c29) (j := tn (4 + (h23 54 17))) rfl ?_
      refine R_aload_n dX8_takePaper_62 rfl rfl ?_
      refine R_getF dX8_takePaper_63 lfX8_38 rfl rfl (q := 64) rfl ?_
      refine R_iconst dX8_takePaper_66 (v := 4) (by decide) ?_
      refine R_aload_n dX8_takePaper_67 rfl rfl ?_
      refine R_getX dX8_takePaper_68 lfX8_119 rfl rfl (x := h27 54 17) rfl ?_
      refine R_iadd dX8_takePaper_71 ?_
      refine R_aload_n dX8_takePaper_72 rfl rfl ?_
      refine R_iconst dX8_takePaper_73 (v := 1) (by decide) ?_
      refine R_bipush dX8_takePaper_74 (v := 12) (by decide) ?_
      obtain ⟨r32, h31, e30, H⟩ := bn2_some H
      refine R_cV dX8_takePaper_76 lvX8_109 ⟨Nat.le_of_ble_eq_true rfl, Nat.le_of_ble_eq_true rfl⟩ (r := 54) rfl (av := [.int 1, .int 12]) (st := [.int (4 + (h27 54 17)), .ref 64]) rfl rfl (Nat.le_of_ble_eq_true rfl) (tX8_takeIn e30) ?_
      obtain ⟨c33, H⟩ := it_some H
      refine R_iastX dX8_takePaper_79 rfl rfl (ck_in c33) (j := tn (4 + (h27 54 17))) rfl ?_
      refine R_aload_n dX8_takePaper_80 rfl rfl ?_
      refine R_dup dX8_takePaper_81 rfl ?_
      refine R_getX dX8_takePaper_82 lfX8_119 rfl rfl (x := h31 54 17) rfl ?_
      refine R_iconst dX8_takePaper_85 (v := 1) (by decide) ?_
      refine R_iadd dX8_takePaper_86 ?_
      refine R_putI dX8_takePaper_87 lfX8_119 rfl rfl ?_
      obtain rfl := Option.some.inj H
      exact R_ret (o := none) dX8_takePaper_90 rfl

set_option maxRecDepth 100000 in
set_option maxHeartbeats 4000000 in
theorem tX8_takeClause {h : aH} {h2 : aH} (H : fX8_takeClause h = some h2) : Ev mX8_takeClause [.ref 54] h none h2 := by
  unfold fX8_takeClause at H
  refine Ev_of (sp := (0, fun _ => 0)) oX8_takeClause nlX8 (Nat.le_of_ble_eq_true rfl) (ls0 := [.ref 54, .null, .null]) rfl ?_
  refine R_aload_n dX8_takeClause_0 rfl rfl ?_
  obtain ⟨r3, h2, e1, H⟩ := bn2_some H
  refine R_cV dX8_takeClause_1 lvX8_86 ⟨Nat.le_of_ble_eq_true rfl, Nat.le_of_ble_eq_true rfl⟩ (r := 54) rfl (av := []) (st := []) rfl rfl (Nat.le_of_ble_eq_true rfl) (tX8_here e1) ?_
  refine R_istoreN dX8_takeClause_4 rfl (by decide) rfl (ls2 := [.ref 54, .int r3, .null]) rfl ?_
  refine R_aload_n dX8_takeClause_5 rfl rfl ?_
  refine R_getX dX8_takeClause_6 lfX8_80 rfl rfl (x := h2 54 20) rfl ?_
  refine R_istoreN dX8_takeClause_9 rfl (by decide) rfl (ls2 := [.ref 54, .int r3, .int (h2 54 20)]) rfl ?_
  refine R_aload_n dX8_takeClause_10 rfl rfl ?_
  refine R_dup dX8_takeClause_11 rfl ?_
  refine R_getX dX8_takeClause_12 lfX8_80 rfl rfl (x := h2 54 20) rfl ?_
  refine R_iconst dX8_takeClause_15 (v := 1) (by decide) ?_
  refine R_iadd dX8_takeClause_16 ?_
  refine R_putI dX8_takeClause_17 lfX8_80 rfl rfl ?_
  refine R_aload_n dX8_takeClause_20 rfl rfl ?_
  refine R_iload_n dX8_takeClause_21 rfl rfl ?_
  refine R_bipush dX8_takeClause_22 (v := 118) (by decide) ?_
  rcases it_split H with ⟨c4, H⟩ | ⟨c4, H⟩
  · refine R_icmp_eq_t dX8_takeClause_24 (tgt := 34) (by decide) c4 ?_
    refine R_iconst dX8_takeClause_34 (v := 1) (by decide) ?_
    refine R_goto dX8_takeClause_35 (tgt := 39) (by decide) ?_
    refine R_iconst dX8_takeClause_39 (v := 1) (by decide) ?_
    refine R_iload_n dX8_takeClause_40 rfl rfl ?_
    obtain ⟨r7, h6, e5, H⟩ := bn2_some H
    refine R_cV dX8_takeClause_41 lvX8_97 ⟨Nat.le_of_ble_eq_true rfl, Nat.le_of_ble_eq_true rfl⟩ (r := 54) rfl (av := [.int 1, .int 1, .int (h2 54 20)]) (st := []) rfl rfl (Nat.le_of_ble_eq_true rfl) (tX8_want e5) ?_
    rcases it_split H with ⟨c8, H⟩ | ⟨c8, H⟩
    · refine R_if_ne_f dX8_takeClause_44 (tgt := 48) (by decide) c8 ?_
      obtain rfl := Option.some.inj H
      exact R_ret (o := none) dX8_takeClause_47 rfl
    · refine R_if_ne_t dX8_takeClause_44 (tgt := 48) (by decide) c8 ?_
      refine R_iload_n dX8_takeClause_48 rfl rfl ?_
      refine R_bipush dX8_takeClause_49 (v := 118) (by decide) ?_
      refine R_icmp_ne_f dX8_takeClause_51 (tgt := 62) (by decide) c4 ?_
      refine R_aload_n dX8_takeClause_54 rfl rfl ?_
      refine R_iload_n dX8_takeClause_55 rfl rfl ?_
      obtain ⟨h10, e9, H⟩ := bn_some H
      refine R_cV dX8_takeClause_56 lvX8_122 ⟨Nat.le_of_ble_eq_true rfl, Nat.le_of_ble_eq_true rfl⟩ (r := 54) rfl (av := [.int (h2 54 20)]) (st := []) rfl rfl (Nat.le_of_ble_eq_true rfl) (tX8_takeValley e9) ?_
      refine R_goto dX8_takeClause_59 (tgt := 115) (by decide) ?_
      obtain rfl := Option.some.inj H
      exact R_ret (o := none) dX8_takeClause_115 rfl
  · refine R_icmp_eq_f dX8_takeClause_24 (tgt := 34) (by decide) c4 ?_
    refine R_aload_n dX8_takeClause_27 rfl rfl ?_
    refine R_getX dX8_takeClause_28 lfX8_105 rfl rfl (x := h2 54 3) rfl ?_
    rcases it_split H with ⟨c11, H⟩ | ⟨c11, H⟩
    · refine R_if_eq_t dX8_takeClause_31 (tgt := 38) (by decide) c11 ?_
      refine R_iconst dX8_takeClause_38 (v := 0) (by decide) ?_
      refine R_iconst dX8_takeClause_39 (v := 1) (by decide) ?_
      refine R_iload_n dX8_takeClause_40 rfl rfl ?_
      obtain ⟨r14, h13, e12, H⟩ := bn2_some H
      refine R_cV dX8_takeClause_41 lvX8_97 ⟨Nat.le_of_ble_eq_true rfl, Nat.le_of_ble_eq_true rfl⟩ (r := 54) rfl (av := [.int 0, .int 1, .int (h2 54 20)]) (st := []) rfl rfl (Nat.le_of_ble_eq_true rfl) (tX8_want e12) ?_
      rcases it_split H with ⟨c15, H⟩ | ⟨c15, H⟩
      · refine R_if_ne_f dX8_takeClause_44 (tgt := 48) (by decide) c15 ?_
        obtain rfl := Option.some.inj H
        exact R_ret (o := none) dX8_takeClause_47 rfl
      · refine R_if_ne_t dX8_takeClause_44 (tgt := 48) (by decide) c15 ?_
        refine R_iload_n dX8_takeClause_48 rfl rfl ?_
        refine R_bipush dX8_takeClause_49 (v := 118) (by decide) ?_
        refine R_icmp_ne_t dX8_takeClause_51 (tgt := 62) (by decide) c4 ?_
        refine R_iload_n dX8_takeClause_62 rfl rfl ?_
        refine R_bipush dX8_takeClause_63 (v := 100) (by decide) ?_
        rcases it_split H with ⟨c16, H⟩ | ⟨c16, H⟩
        · refine R_icmp_ne_f dX8_takeClause_65 (tgt := 76) (by decide) c16 ?_
          refine R_aload_n dX8_takeClause_68 rfl rfl ?_
          refine R_iload_n dX8_takeClause_69 rfl rfl ?_
          obtain ⟨h18, e17, H⟩ := bn_some H
          refine R_cV dX8_takeClause_70 lvX8_126 ⟨Nat.le_of_ble_eq_true rfl, Nat.le_of_ble_eq_true rfl⟩ (r := 54) rfl (av := [.int (h2 54 20)]) (st := []) rfl rfl (Nat.le_of_ble_eq_true rfl) (tX8_takeRains e17) ?_
          refine R_goto dX8_takeClause_73 (tgt := 115) (by decide) ?_
          obtain rfl := Option.some.inj H
          exact R_ret (o := none) dX8_takeClause_115 rfl
        · refine R_icmp_ne_t dX8_takeClause_65 (tgt := 76) (by decide) c16 ?_
          refine R_iload_n dX8_takeClause_76 rfl rfl ?_
          refine R_bipush dX8_takeClause_77 (v := 104) (by decide) ?_
          rcases it_split H with ⟨c19, H⟩ | ⟨c19, H⟩
          · refine R_icmp_ne_f dX8_takeClause_79 (tgt := 90) (by decide) c19 ?_
            refine R_aload_n dX8_takeClause_82 rfl rfl ?_
            refine R_iload_n dX8_takeClause_83 rfl rfl ?_
            obtain ⟨h21, e20, H⟩ := bn_some H
            refine R_cV dX8_takeClause_84 lvX8_129 ⟨Nat.le_of_ble_eq_true rfl, Nat.le_of_ble_eq_true rfl⟩ (r := 54) rfl (av := [.int (h2 54 20)]) (st := []) rfl rfl (Nat.le_of_ble_eq_true rfl) (tX8_takeHand e20) ?_
            refine R_goto dX8_takeClause_87 (tgt := 115) (by decide) ?_
            obtain rfl := Option.some.inj H
            exact R_ret (o := none) dX8_takeClause_115 rfl
          · refine R_icmp_ne_t dX8_takeClause_79 (tgt := 90) (by decide) c19 ?_
            refine R_aload_n dX8_takeClause_90 rfl rfl ?_
            refine R_iload_n dX8_takeClause_91 rfl rfl ?_
            refine R_bipush dX8_takeClause_92 (v := 112) (by decide) ?_
            rcases it_split H with ⟨c22, H⟩ | ⟨c22, H⟩
            · refine R_icmp_ne_f dX8_takeClause_94 (tgt := 101) (by decide) c22 ?_
              refine R_iconst dX8_takeClause_97 (v := 1) (by decide) ?_
              refine R_goto dX8_takeClause_98 (tgt := 102) (by decide) ?_
              refine R_iconst dX8_takeClause_102 (v := 1) (by decide) ?_
              refine R_iload_n dX8_takeClause_103 rfl rfl ?_
              obtain ⟨r25, h24, e23, H⟩ := bn2_some H
              refine R_cV dX8_takeClause_104 lvX8_97 ⟨Nat.le_of_ble_eq_true rfl, Nat.le_of_ble_eq_true rfl⟩ (r := 54) rfl (av := [.int 1, .int 1, .int (h2 54 20)]) (st := []) rfl rfl (Nat.le_of_ble_eq_true rfl) (tX8_want e23) ?_
              rcases it_split H with ⟨c26, H⟩ | ⟨c26, H⟩
              · refine R_if_eq_t dX8_takeClause_107 (tgt := 115) (by decide) c26 ?_
                obtain rfl := Option.some.inj H
                exact R_ret (o := none) dX8_takeClause_115 rfl
              · refine R_if_eq_f dX8_takeClause_107 (tgt := 115) (by decide) c26 ?_
                refine R_aload_n dX8_takeClause_110 rfl rfl ?_
                refine R_iload_n dX8_takeClause_111 rfl rfl ?_
                obtain ⟨h28, e27, H⟩ := bn_some H
                refine R_cV dX8_takeClause_112 lvX8_132 ⟨Nat.le_of_ble_eq_true rfl, Nat.le_of_ble_eq_true rfl⟩ (r := 54) rfl (av := [.int (h2 54 20)]) (st := []) rfl rfl (Nat.le_of_ble_eq_true rfl) (tX8_takePaper e27) ?_
                obtain rfl := Option.some.inj H
                exact R_ret (o := none) dX8_takeClause_115 rfl
            · refine R_icmp_ne_t dX8_takeClause_94 (tgt := 101) (by decide) c22 ?_
              refine R_iconst dX8_takeClause_101 (v := 0) (by decide) ?_
              refine R_iconst dX8_takeClause_102 (v := 1) (by decide) ?_
              refine R_iload_n dX8_takeClause_103 rfl rfl ?_
              obtain ⟨r31, h30, e29, H⟩ := bn2_some H
              refine R_cV dX8_takeClause_104 lvX8_97 ⟨Nat.le_of_ble_eq_true rfl, Nat.le_of_ble_eq_true rfl⟩ (r := 54) rfl (av := [.int 0, .int 1, .int (h2 54 20)]) (st := []) rfl rfl (Nat.le_of_ble_eq_true rfl) (tX8_want e29) ?_
              rcases it_split H with ⟨c32, H⟩ | ⟨c32, H⟩
              · refine R_if_eq_t dX8_takeClause_107 (tgt := 115) (by decide) c32 ?_
                obtain rfl := Option.some.inj H
                exact R_ret (o := none) dX8_takeClause_115 rfl
              · refine R_if_eq_f dX8_takeClause_107 (tgt := 115) (by decide) c32 ?_
                refine R_aload_n dX8_takeClause_110 rfl rfl ?_
                refine R_iload_n dX8_takeClause_111 rfl rfl ?_
                obtain ⟨h34, e33, H⟩ := bn_some H
                refine R_cV dX8_takeClause_112 lvX8_132 ⟨Nat.le_of_ble_eq_true rfl, Nat.le_of_ble_eq_true rfl⟩ (r := 54) rfl (av := [.int (h2 54 20)]) (st := []) rfl rfl (Nat.le_of_ble_eq_true rfl) (tX8_takePaper e33) ?_
                obtain rfl := Option.some.inj H
                exact R_ret (o := none) dX8_takeClause_115 rfl
    · refine R_if_eq_f dX8_takeClause_31 (tgt := 38) (by decide) c11 ?_
      refine R_iconst dX8_takeClause_34 (v := 1) (by decide) ?_
      refine R_goto dX8_takeClause_35 (tgt := 39) (by decide) ?_
      refine R_iconst dX8_takeClause_39 (v := 1) (by decide) ?_
      refine R_iload_n dX8_takeClause_40 rfl rfl ?_
      obtain ⟨r37, h36, e35, H⟩ := bn2_some H
      refine R_cV dX8_takeClause_41 lvX8_97 ⟨Nat.le_of_ble_eq_true rfl, Nat.le_of_ble_eq_true rfl⟩ (r := 54) rfl (av := [.int 1, .int 1, .int (h2 54 20)]) (st := []) rfl rfl (Nat.le_of_ble_eq_true rfl) (tX8_want e35) ?_
      rcases it_split H with ⟨c38, H⟩ | ⟨c38, H⟩
      · refine R_if_ne_f dX8_takeClause_44 (tgt := 48) (by decide) c38 ?_
        obtain rfl := Option.some.inj H
        exact R_ret (o := none) dX8_takeClause_47 rfl
      · refine R_if_ne_t dX8_takeClause_44 (tgt := 48) (by decide) c38 ?_
        refine R_iload_n dX8_takeClause_48 rfl rfl ?_
        refine R_bipush dX8_takeClause_49 (v := 118) (by decide) ?_
        refine R_icmp_ne_t dX8_takeClause_51 (tgt := 62) (by decide) c4 ?_
        refine R_iload_n dX8_takeClause_62 rfl rfl ?_
        refine R_bipush dX8_takeClause_63 (v := 100) (by decide) ?_
        rcases it_split H with ⟨c39, H⟩ | ⟨c39, H⟩
        · refine R_icmp_ne_f dX8_takeClause_65 (tgt := 76) (by decide) c39 ?_
          refine R_aload_n dX8_takeClause_68 rfl rfl ?_
          refine R_iload_n dX8_takeClause_69 rfl rfl ?_
          obtain ⟨h41, e40, H⟩ := bn_some H
          refine R_cV dX8_takeClause_70 lvX8_126 ⟨Nat.le_of_ble_eq_true rfl, Nat.le_of_ble_eq_true rfl⟩ (r := 54) rfl (av := [.int (h2 54 20)]) (st := []) rfl rfl (Nat.le_of_ble_eq_true rfl) (tX8_takeRains e40) ?_
          refine R_goto dX8_takeClause_73 (tgt := 115) (by decide) ?_
          obtain rfl := Option.some.inj H
          exact R_ret (o := none) dX8_takeClause_115 rfl
        · refine R_icmp_ne_t dX8_takeClause_65 (tgt := 76) (by decide) c39 ?_
          refine R_iload_n dX8_takeClause_76 rfl rfl ?_
          refine R_bipush dX8_takeClause_77 (v := 104) (by decide) ?_
          rcases it_split H with ⟨c42, H⟩ | ⟨c42, H⟩
          · refine R_icmp_ne_f dX8_takeClause_79 (tgt := 90) (by decide) c42 ?_
            refine R_aload_n dX8_takeClause_82 rfl rfl ?_
            refine R_iload_n dX8_takeClause_83 rfl rfl ?_
            obtain ⟨h44, e43, H⟩ := bn_some H
            refine R_cV dX8_takeClause_84 lvX8_129 ⟨Nat.le_of_ble_eq_true rfl, Nat.le_of_ble_eq_true rfl⟩ (r := 54) rfl (av := [.int (h2 54 20)]) (st := []) rfl rfl (Nat.le_of_ble_eq_true rfl) (tX8_takeHand e43) ?_
            refine R_goto dX8_takeClause_87 (tgt := 115) (by decide) ?_
            obtain rfl := Option.some.inj H
            exact R_ret (o := none) dX8_takeClause_115 rfl
          · refine R_icmp_ne_t dX8_takeClause_79 (tgt := 90) (by decide) c42 ?_
            refine R_aload_n dX8_takeClause_90 rfl rfl ?_
            refine R_iload_n dX8_takeClause_91 rfl rfl ?_
            refine R_bipush dX8_takeClause_92 (v := 112) (by decide) ?_
            rcases it_split H with ⟨c45, H⟩ | ⟨c45, H⟩
            · refine R_icmp_ne_f dX8_takeClause_94 (tgt := 101) (by decide) c45 ?_
              refine R_iconst dX8_takeClause_97 (v := 1) (by decide) ?_
              refine R_goto dX8_takeClause_98 (tgt := 102) (by decide) ?_
              refine R_iconst dX8_takeClause_102 (v := 1) (by decide) ?_
              refine R_iload_n dX8_takeClause_103 rfl rfl ?_
              obtain ⟨r48, h47, e46, H⟩ := bn2_some H
              refine R_cV dX8_takeClause_104 lvX8_97 ⟨Nat.le_of_ble_eq_true rfl, Nat.le_of_ble_eq_true rfl⟩ (r := 54) rfl (av := [.int 1, .int 1, .int (h2 54 20)]) (st := []) rfl rfl (Nat.le_of_ble_eq_true rfl) (tX8_want e46) ?_
              rcases it_split H with ⟨c49, H⟩ | ⟨c49, H⟩
              · refine R_if_eq_t dX8_takeClause_107 (tgt := 115) (by decide) c49 ?_
                obtain rfl := Option.some.inj H
                exact R_ret (o := none) dX8_takeClause_115 rfl
              · refine R_if_eq_f dX8_takeClause_107 (tgt := 115) (by decide) c49 ?_
                refine R_aload_n dX8_takeClause_110 rfl rfl ?_
                refine R_iload_n dX8_takeClause_111 rfl rfl ?_
                obtain ⟨h51, e50, H⟩ := bn_some H
                refine R_cV dX8_takeClause_112 lvX8_132 ⟨Nat.le_of_ble_eq_true rfl, Nat.le_of_ble_eq_true rfl⟩ (r := 54) rfl (av := [.int (h2 54 20)]) (st := []) rfl rfl (Nat.le_of_ble_eq_true rfl) (tX8_takePaper e50) ?_
                obtain rfl := Option.some.inj H
                exact R_ret (o := none) dX8_takeClause_115 rfl
            · refine R_icmp_ne_t dX8_takeClause_94 (tgt := 101) (by decide) c45 ?_
              refine R_iconst dX8_takeClause_101 (v := 0) (by decide) ?_
              refine R_iconst dX8_takeClause_102 (v := 1) (by decide) ?_
              refine R_iload_n dX8_takeClause_103 rfl rfl ?_
              obtain ⟨r54, h53, e52, H⟩ := bn2_some H
              refine R_cV dX8_takeClause_104 lvX8_97 ⟨Nat.le_of_ble_eq_true rfl, Nat.le_of_ble_eq_true rfl⟩ (r := 54) rfl (av := [.int 0, .int 1, .int (h2 54 20)]) (st := []) rfl rfl (Nat.le_of_ble_eq_true rfl) (tX8_want e52) ?_
              rcases it_split H with ⟨c55, H⟩ | ⟨c55, H⟩
              · refine R_if_eq_t dX8_takeClause_107 (tgt := 115) (by decide) c55 ?_
                obtain rfl := Option.some.inj H
                exact R_ret (o := none) dX8_takeClause_115 rfl
              · refine R_if_eq_f dX8_takeClause_107 (tgt := 115) (by decide) c55 ?_
                refine R_aload_n dX8_takeClause_110 rfl rfl ?_
                refine R_iload_n dX8_takeClause_111 rfl rfl ?_
                obtain ⟨h57, e56, H⟩ := bn_some H
                refine R_cV dX8_takeClause_112 lvX8_132 ⟨Nat.le_of_ble_eq_true rfl, Nat.le_of_ble_eq_true rfl⟩ (r := 54) rfl (av := [.int (h2 54 20)]) (st := []) rfl rfl (Nat.le_of_ble_eq_true rfl) (tX8_takePaper e56) ?_
                obtain rfl := Option.some.inj H
                exact R_ret (o := none) dX8_takeClause_115 rfl

set_option maxRecDepth 100000 in
set_option maxHeartbeats 4000000 in
theorem tX8_takeHands_L2 {sp : Nat × (Nat → Int32)} {K : aH → Option aH} (hK : ∀ (hk : aH) (h2 : aH), K hk = some h2 → Rn sp mX8_takeHands 55 [.ref 54, .null] [] hk none h2) : ∀ (n : Nat) (h : aH) (x1 : Int32) (h2 : aH), fX8_takeHands_L2 K n h x1 = some h2 → Rn sp mX8_takeHands 2 [.ref 54, .int x1] [] h none h2 := by
  intro n
  induction n with
  | zero =>
    intro h x1 h2 H
    rw [fX8_takeHands_L2] at H
    cases H
  | succ n ih =>
    intro h x1 h2 H
    rw [fX8_takeHands_L2] at H
    refine R_iload_n dX8_takeHands_2 rfl rfl ?_
    refine R_iconst dX8_takeHands_3 (v := 4) (by decide) ?_
    rcases it_split H with ⟨c1, H⟩ | ⟨c1, H⟩
    · refine R_icmp_ge_t dX8_takeHands_4 (tgt := 55) (by decide) c1 ?_
      refine R_null (i := 1) (ls2 := [.ref 54, .null]) rfl ?_
      exact hK _ _ H
    · refine R_icmp_ge_f dX8_takeHands_4 (tgt := 55) (by decide) c1 ?_
      refine R_aload_n dX8_takeHands_7 rfl rfl ?_
      refine R_getF dX8_takeHands_8 lfX8_23 rfl rfl (q := 59) rfl ?_
      refine R_iload_n dX8_takeHands_11 rfl rfl ?_
      refine R_aload_n dX8_takeHands_12 rfl rfl ?_
      refine R_getF dX8_takeHands_13 lfX8_23 rfl rfl (q := 59) rfl ?_
      refine R_iconst dX8_takeHands_16 (v := 4) (by decide) ?_
      refine R_iload_n dX8_takeHands_17 rfl rfl ?_
      refine R_iadd dX8_takeHands_18 ?_
      obtain ⟨c2, H⟩ := it_some H
      refine R_ildY dX8_takeHands_19 rfl rfl (ck_in c2) (j := tn (4 + x1)) rfl (x := h 59 (tn (4 + x1))) rfl ?_
      obtain ⟨c3, H⟩ := it_some H
      refine R_iastX dX8_takeHands_20 rfl rfl (ck_in c3) (j := tn x1) rfl ?_
      refine R_aload_n dX8_takeHands_21 rfl rfl ?_
      refine R_getF dX8_takeHands_22 lfX8_26 rfl rfl (q := 60) rfl ?_
      refine R_iload_n dX8_takeHands_25 rfl rfl ?_
      refine R_aload_n dX8_takeHands_26 rfl rfl ?_
      refine R_getF dX8_takeHands_27 lfX8_26 rfl rfl (q := 60) rfl ?_
      refine R_iconst dX8_takeHands_30 (v := 4) (by decide) ?_
      refine R_iload_n dX8_takeHands_31 rfl rfl ?_
      refine R_iadd dX8_takeHands_32 ?_
      refine R_ildY dX8_takeHands_33 rfl rfl (ck_in c2) (j := tn (4 + x1)) rfl (x := h 60 (tn (4 + x1))) rfl ?_
      refine R_iastX dX8_takeHands_34 rfl rfl (ck_in c3) (j := tn x1) rfl ?_
      refine R_aload_n dX8_takeHands_35 rfl rfl ?_
      refine R_getF dX8_takeHands_36 lfX8_29 rfl rfl (q := 61) rfl ?_
      refine R_iload_n dX8_takeHands_39 rfl rfl ?_
      refine R_aload_n dX8_takeHands_40 rfl rfl ?_
      refine R_getF dX8_takeHands_41 lfX8_29 rfl rfl (q := 61) rfl ?_
      refine R_iconst dX8_takeHands_44 (v := 4) (by decide) ?_
      refine R_iload_n dX8_takeHands_45 rfl rfl ?_
      refine R_iadd dX8_takeHands_46 ?_
      refine R_ildY dX8_takeHands_47 rfl rfl (ck_in c2) (j := tn (4 + x1)) rfl (x := h 61 (tn (4 + x1))) rfl ?_
      refine R_iastX dX8_takeHands_48 rfl rfl (ck_in c3) (j := tn x1) rfl ?_
      refine R_iincW dX8_takeHands_49 rfl (v := x1 + 1) rfl (by decide) rfl (ls2 := [.ref 54, .int (x1 + 1)]) rfl ?_
      refine R_goto dX8_takeHands_52 (tgt := 2) (by decide) ?_
      exact ih _ _ _ H

set_option maxRecDepth 100000 in
set_option maxHeartbeats 4000000 in
theorem tX8_takeHands_L57 {sp : Nat × (Nat → Int32)} {K : aH → Option aH} (hK : ∀ (hk : aH) (h2 : aH), K hk = some h2 → Rn sp mX8_takeHands 84 [.null, .null] [] hk none h2) : ∀ (n : Nat) (h : aH) (x1 : Int32) (h2 : aH), fX8_takeHands_L57 K n h x1 = some h2 → Rn sp mX8_takeHands 57 [.ref 54, .int x1] [] h none h2 := by
  intro n
  induction n with
  | zero =>
    intro h x1 h2 H
    rw [fX8_takeHands_L57] at H
    cases H
  | succ n ih =>
    intro h x1 h2 H
    rw [fX8_takeHands_L57] at H
    refine R_iload_n dX8_takeHands_57 rfl rfl ?_
    refine R_bipush dX8_takeHands_58 (v := 8) (by decide) ?_
    rcases it_split H with ⟨c5, H⟩ | ⟨c5, H⟩
    · refine R_icmp_ge_t dX8_takeHands_60 (tgt := 84) (by decide) c5 ?_
      refine R_null (i := 0) (ls2 := [.null, .int x1]) rfl ?_
      refine R_null (i := 1) (ls2 := [.null, .null]) rfl ?_
      exact hK _ _ H
    · refine R_icmp_ge_f dX8_takeHands_60 (tgt := 84) (by decide) c5 ?_
      refine R_aload_n dX8_takeHands_63 rfl rfl ?_
      refine R_getF dX8_takeHands_64 lfX8_20 rfl rfl (q := 58) rfl ?_
      refine R_iload_n dX8_takeHands_67 rfl rfl ?_
      refine R_aload_n dX8_takeHands_68 rfl rfl ?_
      refine R_getF dX8_takeHands_69 lfX8_20 rfl rfl (q := 58) rfl ?_
      refine R_bipush dX8_takeHands_72 (v := 8) (by decide) ?_
      refine R_iload_n dX8_takeHands_74 rfl rfl ?_
      refine R_iadd dX8_takeHands_75 ?_
      obtain ⟨c6, H⟩ := it_some H
      refine R_ildY dX8_takeHands_76 rfl rfl (ck_in c6) (j := tn (8 + x1)) rfl (x := h 58 (tn (8 + x1))) rfl ?_
      obtain ⟨c7, H⟩ := it_some H
      refine R_iastX dX8_takeHands_77 rfl rfl (ck_in c7) (j := tn x1) rfl ?_
      refine R_iincW dX8_takeHands_78 rfl (v := x1 + 1) rfl (by decide) rfl (ls2 := [.ref 54, .int (x1 + 1)]) rfl ?_
      refine R_goto dX8_takeHands_81 (tgt := 57) (by decide) ?_
      exact ih _ _ _ H

set_option maxRecDepth 100000 in
set_option maxHeartbeats 4000000 in
theorem tX8_takeHands {h : aH} {h2 : aH} (H : fX8_takeHands h = some h2) : Ev mX8_takeHands [.ref 54] h none h2 := by
  unfold fX8_takeHands at H
  refine Ev_of (sp := (0, fun _ => 0)) oX8_takeHands nlX8 (Nat.le_of_ble_eq_true rfl) (ls0 := [.ref 54, .null]) rfl ?_
  refine R_iconst dX8_takeHands_0 (v := 0) (by decide) ?_
  refine R_istoreN dX8_takeHands_1 rfl (by decide) rfl (ls2 := [.ref 54, .int 0]) rfl ?_
  refine tX8_takeHands_L2 (fun h4 h2 H => ?_) _ _ _ _ H
  refine R_iconst dX8_takeHands_55 (v := 0) (by decide) ?_
  refine R_istoreN dX8_takeHands_56 rfl (by decide) rfl (ls2 := [.ref 54, .int 0]) rfl ?_
  refine tX8_takeHands_L57 (fun h8 h2 H => ?_) _ _ _ _ H
  obtain rfl := Option.some.inj H
  exact R_ret (o := none) dX8_takeHands_84 rfl

set_option maxRecDepth 100000 in
set_option maxHeartbeats 4000000 in
theorem tX8_put {h : aH} {x1 : Int32} {x2 : Int32} {x3 : Int32} {x4 : Int32} {h2 : aH} (H : fX8_put h x1 x2 x3 x4 = some h2) : Ev mX8_put [.ref 54, .int x1, .int x2, .int x3, .int x4] h none h2 := by
  unfold fX8_put at H
  refine Ev_of (sp := (0, fun _ => 0)) oX8_put nlX8 (Nat.le_of_ble_eq_true rfl) (ls0 := [.ref 54, .int x1, .int x2, .int x3, .int x4]) rfl ?_
  refine R_aload_n dX8_put_0 rfl rfl ?_
  refine R_getF dX8_put_1 lfX8_7 rfl rfl (q := 55) rfl ?_
  refine R_bipush dX8_put_4 (v := 12) (by decide) ?_
  refine R_iload_n dX8_put_6 rfl rfl ?_
  refine R_imul dX8_put_7 ?_
  refine R_aload_n dX8_put_8 rfl rfl ?_
  refine R_getF dX8_put_9 lfX8_7 rfl rfl (q := 55) rfl ?_
  refine R_bipush dX8_put_12 (v := 48) (by decide) ?_
  refine R_iload_n dX8_put_14 rfl rfl ?_
  refine R_iadd dX8_put_15 ?_
  obtain ⟨c1, H⟩ := it_some H
  refine R_ildY dX8_put_16 rfl rfl (ck_in c1) (j := tn (48 + x1)) rfl (x := h 55 (tn (48 + x1))) rfl ?_
  refine R_iadd dX8_put_17 ?_
  refine R_iload_n dX8_put_18 rfl rfl ?_
  refine R_bipush dX8_put_19 (v := 96) (by decide) ?_
  refine R_iload_n dX8_put_21 rfl rfl ?_
  refine R_imul dX8_put_22 ?_
  refine R_iadd dX8_put_23 ?_
  refine R_sipush dX8_put_24 (v := 384) (by decide) ?_
  refine R_iload dX8_put_27 rfl ?_
  refine R_iconst dX8_put_29 (v := 1) (by decide) ?_
  refine R_iadd dX8_put_30 ?_
  refine R_imul dX8_put_31 ?_
  refine R_iadd dX8_put_32 ?_
  obtain ⟨c2, H⟩ := it_some H
  refine R_iastX dX8_put_33 rfl rfl (ck_in c2) (j := tn ((12 * x1) + (h 55 (tn (48 + x1))))) rfl ?_
  refine R_aload_n dX8_put_34 rfl rfl ?_
  refine R_getF dX8_put_35 lfX8_7 rfl rfl (q := 55) rfl ?_
  refine R_bipush dX8_put_38 (v := 48) (by decide) ?_
  refine R_iload_n dX8_put_40 rfl rfl ?_
  refine R_iadd dX8_put_41 ?_
  refine R_dup2 dX8_put_42 rfl rfl ?_
  refine R_ildY dX8_put_43 rfl rfl (ck_in c1) (j := tn (48 + x1)) rfl (x := (aU h 55 (tn ((12 * x1) + (h 55 (tn (48 + x1))))) ((x2 + (96 * x3)) + (384 * (x4 + 1)))) 55 (tn (48 + x1))) rfl ?_
  refine R_iconst dX8_put_44 (v := 1) (by decide) ?_
  refine R_iadd dX8_put_45 ?_
  refine R_iastX dX8_put_46 rfl rfl (ck_in c1) (j := tn (48 + x1)) rfl ?_
  obtain rfl := Option.some.inj H
  exact R_ret (o := none) dX8_put_47 rfl

set_option maxRecDepth 100000 in
set_option maxHeartbeats 4000000 in
theorem tX8_take_L10 {sp : Nat × (Nat → Int32)} {K : aH → Option aH} (hK : ∀ (hk : aH) (h2 : aH), K hk = some h2 → Rn sp mX8_take 35 [.ref 54, .null, .null] [] hk none h2) : ∀ (n : Nat) (h : aH) (x1 : Int32) (h2 : aH), fX8_take_L10 K n h x1 = some h2 → Rn sp mX8_take 10 [.ref 54, .int x1, .null] [] h none h2 := by
  intro n
  induction n with
  | zero =>
    intro h x1 h2 H
    rw [fX8_take_L10] at H
    cases H
  | succ n ih =>
    intro h x1 h2 H
    rw [fX8_take_L10] at H
    refine R_iload_n dX8_take_10 rfl rfl ?_
    refine R_iconst dX8_take_11 (v := 3) (by decide) ?_
    rcases it_split H with ⟨c2, H⟩ | ⟨c2, H⟩
    · refine R_icmp_ge_t dX8_take_12 (tgt := 35) (by decide) c2 ?_
      refine R_null (i := 1) (ls2 := [.ref 54, .null, .null]) rfl ?_
      exact hK _ _ H
    · refine R_icmp_ge_f dX8_take_12 (tgt := 35) (by decide) c2 ?_
      refine R_aload_n dX8_take_15 rfl rfl ?_
      refine R_getF dX8_take_16 lfX8_17 rfl rfl (q := 57) rfl ?_
      refine R_iload_n dX8_take_19 rfl rfl ?_
      refine R_aload_n dX8_take_20 rfl rfl ?_
      refine R_getF dX8_take_21 lfX8_17 rfl rfl (q := 57) rfl ?_
      refine R_iconst dX8_take_24 (v := 3) (by decide) ?_
      refine R_iload_n dX8_take_25 rfl rfl ?_
      refine R_iadd dX8_take_26 ?_
      obtain ⟨c3, H⟩ := it_some H
      refine R_ildY dX8_take_27 rfl rfl (ck_in c3) (j := tn (3 + x1)) rfl (x := h 57 (tn (3 + x1))) rfl ?_
      obtain ⟨c4, H⟩ := it_some H
      refine R_iastX dX8_take_28 rfl rfl (ck_in c4) (j := tn x1) rfl ?_
      refine R_iincW dX8_take_29 rfl (v := x1 + 1) rfl (by decide) rfl (ls2 := [.ref 54, .int (x1 + 1), .null]) rfl ?_
      refine R_goto dX8_take_32 (tgt := 10) (by decide) ?_
      exact ih _ _ _ H

set_option maxRecDepth 100000 in
set_option maxHeartbeats 4000000 in
theorem tX8_take_L124 {sp : Nat × (Nat → Int32)} {K : aH → Option aH} {x1 : Int32} (hK : ∀ (hk : aH) (h2 : aH), K hk = some h2 → Rn sp mX8_take 181 [.ref 54, .int x1, .null] [] hk none h2) : ∀ (n : Nat) (h : aH) (x2 : Int32) (h2 : aH), fX8_take_L124 K x1 n h x2 = some h2 → Rn sp mX8_take 124 [.ref 54, .int x1, .int x2] [] h none h2 := by
  intro n
  induction n with
  | zero =>
    intro h x2 h2 H
    rw [fX8_take_L124] at H
    cases H
  | succ n ih =>
    intro h x2 h2 H
    rw [fX8_take_L124] at H
    refine R_iload_n dX8_take_124 rfl rfl ?_
    refine R_aload_n dX8_take_125 rfl rfl ?_
    refine R_getX dX8_take_126 lfX8_141 rfl rfl (x := h 54 16) rfl ?_
    rcases it_split H with ⟨c12, H⟩ | ⟨c12, H⟩
    · refine R_icmp_ge_t dX8_take_129 (tgt := 181) (by decide) c12 ?_
      refine R_null (i := 2) (ls2 := [.ref 54, .int x1, .null]) rfl ?_
      exact hK _ _ H
    · refine R_icmp_ge_f dX8_take_129 (tgt := 181) (by decide) c12 ?_
      refine R_iload_n dX8_take_132 rfl rfl ?_
      refine R_aload_n dX8_take_133 rfl rfl ?_
      refine R_getF dX8_take_134 lfX8_38 rfl rfl (q := 64) rfl ?_
      refine R_iload_n dX8_take_137 rfl rfl ?_
      obtain ⟨c13, H⟩ := it_some H
      refine R_ildY dX8_take_138 rfl rfl (ck_in c13) (j := tn x1) rfl (x := h 64 (tn x1)) rfl ?_
      rcases it_split H with ⟨c14, H⟩ | ⟨c14, H⟩
      · refine R_icmp_ge_t dX8_take_139 (tgt := 181) (by decide) c14 ?_
        refine R_null (i := 2) (ls2 := [.ref 54, .int x1, .null]) rfl ?_
        exact hK _ _ H
      · refine R_icmp_ge_f dX8_take_139 (tgt := 181) (by decide) c14 ?_
        refine R_aload_n dX8_take_142 rfl rfl ?_
        refine R_getF dX8_take_143 lfX8_35 rfl rfl (q := 63) rfl ?_
        refine R_iload_n dX8_take_146 rfl rfl ?_
        refine R_ildY dX8_take_147 rfl rfl (ck_in c13) (j := tn x1) rfl (x := h 63 (tn x1)) rfl ?_
        refine R_iload_n dX8_take_148 rfl rfl ?_
        refine R_iadd dX8_take_149 ?_
        refine R_bipush dX8_take_150 (v := 96) (by decide) ?_
        rcases it_split H with ⟨c15, H⟩ | ⟨c15, H⟩
        · refine R_icmp_ge_t dX8_take_152 (tgt := 181) (by decide) c15 ?_
          refine R_null (i := 2) (ls2 := [.ref 54, .int x1, .null]) rfl ?_
          exact hK _ _ H
        · refine R_icmp_ge_f dX8_take_152 (tgt := 181) (by decide) c15 ?_
          refine R_aload_n dX8_take_155 rfl rfl ?_
          refine R_iload_n dX8_take_156 rfl rfl ?_
          refine R_aload_n dX8_take_157 rfl rfl ?_
          refine R_getF dX8_take_158 lfX8_35 rfl rfl (q := 63) rfl ?_
          refine R_iload_n dX8_take_161 rfl rfl ?_
          refine R_ildY dX8_take_162 rfl rfl (ck_in c13) (j := tn x1) rfl (x := h 63 (tn x1)) rfl ?_
          refine R_iload_n dX8_take_163 rfl rfl ?_
          refine R_iadd dX8_take_164 ?_
          refine R_aload_n dX8_take_165 rfl rfl ?_
          refine R_getF dX8_take_166 lfX8_32 rfl rfl (q := 62) rfl ?_
          refine R_iload_n dX8_take_169 rfl rfl ?_
          refine R_ildY dX8_take_170 rfl rfl (ck_in c13) (j := tn x1) rfl (x := h 62 (tn x1)) rfl ?_
          refine R_iconst dX8_take_171 (v := (-1)) (by decide) ?_
          obtain ⟨h17, e16, H⟩ := bn_some H
          refine R_cV dX8_take_172 lvX8_156 ⟨Nat.le_of_ble_eq_true rfl, Nat.le_of_ble_eq_true rfl⟩ (r := 54) rfl (av := [.int x1, .int ((h 63 (tn x1)) + x2), .int (h 62 (tn x1)), .int (-1)]) (st := []) rfl rfl (Nat.le_of_ble_eq_true rfl) (tX8_put e16) ?_
          refine R_iincW dX8_take_175 rfl (v := x2 + 1) rfl (by decide) rfl (ls2 := [.ref 54, .int x1, .int (x2 + 1)]) rfl ?_
          refine R_goto dX8_take_178 (tgt := 124) (by decide) ?_
          exact ih _ _ _ H

set_option maxRecDepth 100000 in
set_option maxHeartbeats 4000000 in
theorem tX8_take_L65 {sp : Nat × (Nat → Int32)} {K : aH → Option aH} (hK : ∀ (hk : aH) (h2 : aH), K hk = some h2 → Rn sp mX8_take 194 [.ref 54, .null, .null] [] hk none h2) : ∀ (n : Nat) (h : aH) (x1 : Int32) (h2 : aH), fX8_take_L65 K n h x1 = some h2 → Rn sp mX8_take 65 [.ref 54, .int x1, .null] [] h none h2 := by
  intro n
  induction n with
  | zero =>
    intro h x1 h2 H
    rw [fX8_take_L65] at H
    cases H
  | succ n ih =>
    intro h x1 h2 H
    rw [fX8_take_L65] at H
    refine R_iload_n dX8_take_65 rfl rfl ?_
    refine R_iconst dX8_take_66 (v := 4) (by decide) ?_
    rcases it_split H with ⟨c8, H⟩ | ⟨c8, H⟩
    · refine R_icmp_ge_t dX8_take_67 (tgt := 194) (by decide) c8 ?_
      refine R_null (i := 1) (ls2 := [.ref 54, .null, .null]) rfl ?_
      exact hK _ _ H
    · refine R_icmp_ge_f dX8_take_67 (tgt := 194) (by decide) c8 ?_
      refine R_aload_n dX8_take_70 rfl rfl ?_
      refine R_getF dX8_take_71 lfX8_32 rfl rfl (q := 62) rfl ?_
      refine R_iload_n dX8_take_74 rfl rfl ?_
      refine R_aload_n dX8_take_75 rfl rfl ?_
      refine R_getF dX8_take_76 lfX8_32 rfl rfl (q := 62) rfl ?_
      refine R_iconst dX8_take_79 (v := 4) (by decide) ?_
      refine R_iload_n dX8_take_80 rfl rfl ?_
      refine R_iadd dX8_take_81 ?_
      obtain ⟨c9, H⟩ := it_some H
      refine R_ildY dX8_take_82 rfl rfl (ck_in c9) (j := tn (4 + x1)) rfl (x := h 62 (tn (4 + x1))) rfl ?_
      obtain ⟨c10, H⟩ := it_some H
      refine R_iastX dX8_take_83 rfl rfl (ck_in c10) (j := tn x1) rfl ?_
      refine R_aload_n dX8_take_84 rfl rfl ?_
      refine R_getF dX8_take_85 lfX8_35 rfl rfl (q := 63) rfl ?_
      refine R_iload_n dX8_take_88 rfl rfl ?_
      refine R_aload_n dX8_take_89 rfl rfl ?_
      refine R_getF dX8_take_90 lfX8_35 rfl rfl (q := 63) rfl ?_
      refine R_iconst dX8_take_93 (v := 4) (by decide) ?_
      refine R_iload_n dX8_take_94 rfl rfl ?_
      refine R_iadd dX8_take_95 ?_
      refine R_ildY dX8_take_96 rfl rfl (ck_in c9) (j := tn (4 + x1)) rfl (x := h 63 (tn (4 + x1))) rfl ?_
      refine R_iastX dX8_take_97 rfl rfl (ck_in c10) (j := tn x1) rfl ?_
      refine R_aload_n dX8_take_98 rfl rfl ?_
      refine R_getF dX8_take_99 lfX8_38 rfl rfl (q := 64) rfl ?_
      refine R_iload_n dX8_take_102 rfl rfl ?_
      refine R_aload_n dX8_take_103 rfl rfl ?_
      refine R_getF dX8_take_104 lfX8_38 rfl rfl (q := 64) rfl ?_
      refine R_iconst dX8_take_107 (v := 4) (by decide) ?_
      refine R_iload_n dX8_take_108 rfl rfl ?_
      refine R_iadd dX8_take_109 ?_
      refine R_ildY dX8_take_110 rfl rfl (ck_in c9) (j := tn (4 + x1)) rfl (x := h 64 (tn (4 + x1))) rfl ?_
      refine R_iastX dX8_take_111 rfl rfl (ck_in c10) (j := tn x1) rfl ?_
      refine R_aload_n dX8_take_112 rfl rfl ?_
      refine R_getF dX8_take_113 lfX8_7 rfl rfl (q := 55) rfl ?_
      refine R_bipush dX8_take_116 (v := 48) (by decide) ?_
      refine R_iload_n dX8_take_118 rfl rfl ?_
      refine R_iadd dX8_take_119 ?_
      refine R_iconst dX8_take_120 (v := 0) (by decide) ?_
      obtain ⟨c11, H⟩ := it_some H
      refine R_iastX dX8_take_121 rfl rfl (ck_in c11) (j := tn (48 + x1)) rfl ?_
      refine R_iconst dX8_take_122 (v := 0) (by decide) ?_
      refine R_istoreN dX8_take_123 rfl (by decide) rfl (ls2 := [.ref 54, .int x1, .int 0]) rfl ?_
      refine tX8_take_L124 (fun h18 h2 H => ?_) _ _ _ _ H
      refine R_aload_n dX8_take_181 rfl rfl ?_
      refine R_getF dX8_take_182 lfX8_48 rfl rfl (q := 66) rfl ?_
      refine R_iload_n dX8_take_185 rfl rfl ?_
      refine R_iconst dX8_take_186 (v := 0) (by decide) ?_
      obtain ⟨c19, H⟩ := it_some H
      refine R_iastX dX8_take_187 rfl rfl (ck_in c19) (j := tn x1) rfl ?_
      refine R_iincW dX8_take_188 rfl (v := x1 + 1) rfl (by decide) rfl (ls2 := [.ref 54, .int (x1 + 1), .null]) rfl ?_
      refine R_goto dX8_take_191 (tgt := 65) (by decide) ?_
      exact ih _ _ _ H

set_option maxRecDepth 100000 in
set_option maxHeartbeats 4000000 in
theorem tX8_take {h : aH} {h2 : aH} (H : fX8_take h = some h2) : Ev mX8_take [.ref 54] h none h2 := by
  unfold fX8_take at H
  refine Ev_of (sp := (0, fun _ => 0)) oX8_take nlX8 (Nat.le_of_ble_eq_true rfl) (ls0 := [.ref 54, .null, .null]) rfl ?_
  refine R_aload_n dX8_take_0 rfl rfl ?_
  refine R_aload_n dX8_take_1 rfl rfl ?_
  refine R_getX dX8_take_2 lfX8_105 rfl rfl (x := h 54 3) rfl ?_
  obtain ⟨c1, H⟩ := it_some H
  refine R_putZ dX8_take_5 lfX8_144 rfl rfl c1 ?_
  refine R_iconst dX8_take_8 (v := 0) (by decide) ?_
  refine R_istoreN dX8_take_9 rfl (by decide) rfl (ls2 := [.ref 54, .int 0, .null]) rfl ?_
  refine tX8_take_L10 (fun h5 h2 H => ?_) _ _ _ _ H
  refine R_aload_n dX8_take_35 rfl rfl ?_
  refine R_aload_n dX8_take_36 rfl rfl ?_
  refine R_getX dX8_take_37 lfX8_113 rfl rfl (x := h5 54 7) rfl ?_
  refine R_putI dX8_take_40 lfX8_147 rfl rfl ?_
  refine R_aload_n dX8_take_43 rfl rfl ?_
  refine R_aload_n dX8_take_44 rfl rfl ?_
  refine R_getX dX8_take_45 lfX8_116 rfl rfl (x := h5 54 12) rfl ?_
  refine R_putI dX8_take_48 lfX8_150 rfl rfl ?_
  refine R_aload_n dX8_take_51 rfl rfl ?_
  refine R_aload_n dX8_take_52 rfl rfl ?_
  refine R_getX dX8_take_53 lfX8_119 rfl rfl (x := h5 54 17) rfl ?_
  refine R_putI dX8_take_56 lfX8_141 rfl rfl ?_
  refine R_aload_n dX8_take_59 rfl rfl ?_
  obtain ⟨h7, e6, H⟩ := bn_some H
  refine R_cV dX8_take_60 lvX8_153 ⟨Nat.le_of_ble_eq_true rfl, Nat.le_of_ble_eq_true rfl⟩ (r := 54) rfl (av := []) (st := []) rfl rfl (Nat.le_of_ble_eq_true rfl) (tX8_takeHands e6) ?_
  refine R_iconst dX8_take_63 (v := 0) (by decide) ?_
  refine R_istoreN dX8_take_64 rfl (by decide) rfl (ls2 := [.ref 54, .int 0, .null]) rfl ?_
  refine tX8_take_L65 (fun h20 h2 H => ?_) _ _ _ _ H
  refine R_aload_n dX8_take_194 rfl rfl ?_
  refine R_getF dX8_take_195 lfX8_7 rfl rfl (q := 55) rfl ?_
  refine R_bipush dX8_take_198 (v := 52) (by decide) ?_
  refine R_iconst dX8_take_200 (v := (-1)) (by decide) ?_
  refine R_iastX dX8_take_201 rfl rfl (ck_in (by decide)) (j := 52) (by decide) ?_
  refine R_aload_n dX8_take_202 rfl rfl ?_
  refine R_iconst dX8_take_203 (v := 0) (by decide) ?_
  refine R_putI dX8_take_204 lfX8_160 rfl rfl ?_
  refine R_aload_n dX8_take_207 rfl rfl ?_
  refine R_iconst dX8_take_208 (v := 0) (by decide) ?_
  refine R_putI dX8_take_209 lfX8_163 rfl rfl ?_
  refine R_aload_n dX8_take_212 rfl rfl ?_
  refine R_getF dX8_take_213 lfX8_13 rfl rfl (q := 56) rfl ?_
  refine R_iconst dX8_take_216 (v := 0) (by decide) ?_
  refine R_iconst dX8_take_217 (v := 0) (by decide) ?_
  refine R_zastX dX8_take_218 rfl rfl (ck_in (by decide)) (by decide) (j := 0) (by decide) ?_
  refine R_aload_n dX8_take_219 rfl rfl ?_
  refine R_getF dX8_take_220 lfX8_13 rfl rfl (q := 56) rfl ?_
  refine R_iconst dX8_take_223 (v := 1) (by decide) ?_
  refine R_iconst dX8_take_224 (v := 0) (by decide) ?_
  refine R_zastX dX8_take_225 rfl rfl (ck_in (by decide)) (by decide) (j := 1) (by decide) ?_
  obtain rfl := Option.some.inj H
  exact R_ret (o := none) dX8_take_226 rfl

set_option maxRecDepth 100000 in
set_option maxHeartbeats 4000000 in
theorem tX8_valley_L37 {sp : Nat × (Nat → Int32)} {K : aH → Option (Int32 × aH)} (hK : ∀ (hk : aH) (r : Int32) (h2 : aH), K hk = some (r, h2) → Rn sp mX8_valley 56 [.ref 54, .null] [] hk (some (.int r)) h2) : ∀ (n : Nat) (h : aH) (x1 : Int32) (r : Int32) (h2 : aH), fX8_valley_L37 K n h x1 = some (r, h2) → Rn sp mX8_valley 37 [.ref 54, .int x1] [] h (some (.int r)) h2 := by
  intro n
  induction n with
  | zero =>
    intro h x1 r h2 H
    rw [fX8_valley_L37] at H
    cases H
  | succ n ih =>
    intro h x1 r h2 H
    rw [fX8_valley_L37] at H
    refine R_iload_n dX8_valley_37 rfl rfl ?_
    refine R_bipush dX8_valley_38 (v := 6) (by decide) ?_
    rcases it_split H with ⟨c1, H⟩ | ⟨c1, H⟩
    · refine R_icmp_ge_t dX8_valley_40 (tgt := 56) (by decide) c1 ?_
      refine R_null (i := 1) (ls2 := [.ref 54, .null]) rfl ?_
      exact hK _ _ _ H
    · refine R_icmp_ge_f dX8_valley_40 (tgt := 56) (by decide) c1 ?_
      refine R_aload_n dX8_valley_43 rfl rfl ?_
      refine R_getF dX8_valley_44 lfX8_17 rfl rfl (q := 57) rfl ?_
      refine R_iload_n dX8_valley_47 rfl rfl ?_
      refine R_iconst dX8_valley_48 (v := 0) (by decide) ?_
      obtain ⟨c2, H⟩ := it_some H
      refine R_iastX dX8_valley_49 rfl rfl (ck_in c2) (j := tn x1) rfl ?_
      refine R_iincW dX8_valley_50 rfl (v := x1 + 1) rfl (by decide) rfl (ls2 := [.ref 54, .int (x1 + 1)]) rfl ?_
      refine R_goto dX8_valley_53 (tgt := 37) (by decide) ?_
      exact ih _ _ _ _ H

set_option maxRecDepth 100000 in
set_option maxHeartbeats 4000000 in
theorem tX8_valley_L56 {sp : Nat × (Nat → Int32)} {K : aH → Option (Int32 × aH)} (hK : ∀ (hk : aH) (r : Int32) (h2 : aH), K hk = some (r, h2) → Rn sp mX8_valley 120 [.ref 54, .null] [] hk (some (.int r)) h2) : ∀ (n : Nat) (h : aH) (r : Int32) (h2 : aH), fX8_valley_L56 K n h = some (r, h2) → Rn sp mX8_valley 56 [.ref 54, .null] [] h (some (.int r)) h2 := by
  intro n
  induction n with
  | zero =>
    intro h r h2 H
    rw [fX8_valley_L56] at H
    cases H
  | succ n ih =>
    intro h r h2 H
    rw [fX8_valley_L56] at H
    refine R_aload_n dX8_valley_56 rfl rfl ?_
    refine R_getX dX8_valley_57 lfX8_83 rfl rfl (x := h 54 22) rfl ?_
    rcases it_split H with ⟨c4, H⟩ | ⟨c4, H⟩
    · refine R_if_ne_f dX8_valley_60 (tgt := 120) (by decide) c4 ?_
      refine R_aload_n dX8_valley_63 rfl rfl ?_
      obtain ⟨r7, h6, e5, H⟩ := bn2_some H
      refine R_cV dX8_valley_64 lvX8_86 ⟨Nat.le_of_ble_eq_true rfl, Nat.le_of_ble_eq_true rfl⟩ (r := 54) rfl (av := []) (st := []) rfl rfl (Nat.le_of_ble_eq_true rfl) (tX8_here e5) ?_
      rcases it_split H with ⟨c8, H⟩ | ⟨c8, H⟩
      · refine R_if_lt_t dX8_valley_67 (tgt := 120) (by decide) c8 ?_
        exact hK _ _ _ H
      · refine R_if_lt_f dX8_valley_67 (tgt := 120) (by decide) c8 ?_
        refine R_aload_n dX8_valley_70 rfl rfl ?_
        obtain ⟨h10, e9, H⟩ := bn_some H
        refine R_cV dX8_valley_71 lvX8_135 ⟨Nat.le_of_ble_eq_true rfl, Nat.le_of_ble_eq_true rfl⟩ (r := 54) rfl (av := []) (st := []) rfl rfl (Nat.le_of_ble_eq_true rfl) (tX8_takeClause e9) ?_
        refine R_aload_n dX8_valley_74 rfl rfl ?_
        refine R_getX dX8_valley_75 lfX8_83 rfl rfl (x := h10 54 22) rfl ?_
        rcases it_split H with ⟨c11, H⟩ | ⟨c11, H⟩
        · refine R_if_ne_f dX8_valley_78 (tgt := 56) (by decide) c11 ?_
          refine R_aload_n dX8_valley_81 rfl rfl ?_
          refine R_aload_n dX8_valley_82 rfl rfl ?_
          obtain ⟨r14, h13, e12, H⟩ := bn2_some H
          refine R_cV dX8_valley_83 lvX8_86 ⟨Nat.le_of_ble_eq_true rfl, Nat.le_of_ble_eq_true rfl⟩ (r := 54) rfl (av := []) (st := [.ref 54]) rfl rfl (Nat.le_of_ble_eq_true rfl) (tX8_here e12) ?_
          refine R_bipush dX8_valley_86 (v := 59) (by decide) ?_
          rcases it_split H with ⟨c15, H⟩ | ⟨c15, H⟩
          · refine R_icmp_ne_f dX8_valley_88 (tgt := 95) (by decide) c15 ?_
            refine R_iconst dX8_valley_91 (v := 1) (by decide) ?_
            refine R_goto dX8_valley_92 (tgt := 96) (by decide) ?_
            refine R_iconst dX8_valley_96 (v := 1) (by decide) ?_
            refine R_aload_n dX8_valley_97 rfl rfl ?_
            refine R_getX dX8_valley_98 lfX8_80 rfl rfl (x := h13 54 20) rfl ?_
            obtain ⟨r18, h17, e16, H⟩ := bn2_some H
            refine R_cV dX8_valley_101 lvX8_97 ⟨Nat.le_of_ble_eq_true rfl, Nat.le_of_ble_eq_true rfl⟩ (r := 54) rfl (av := [.int 1, .int 1, .int (h13 54 20)]) (st := []) rfl rfl (Nat.le_of_ble_eq_true rfl) (tX8_want e16) ?_
            rcases it_split H with ⟨c19, H⟩ | ⟨c19, H⟩
            · refine R_if_eq_t dX8_valley_104 (tgt := 56) (by decide) c19 ?_
              exact ih _ _ _ H
            · refine R_if_eq_f dX8_valley_104 (tgt := 56) (by decide) c19 ?_
              refine R_aload_n dX8_valley_107 rfl rfl ?_
              refine R_dup dX8_valley_108 rfl ?_
              refine R_getX dX8_valley_109 lfX8_80 rfl rfl (x := h17 54 20) rfl ?_
              refine R_iconst dX8_valley_112 (v := 1) (by decide) ?_
              refine R_iadd dX8_valley_113 ?_
              refine R_putI dX8_valley_114 lfX8_80 rfl rfl ?_
              refine R_goto dX8_valley_117 (tgt := 56) (by decide) ?_
              exact ih _ _ _ H
          · refine R_icmp_ne_t dX8_valley_88 (tgt := 95) (by decide) c15 ?_
            refine R_iconst dX8_valley_95 (v := 0) (by decide) ?_
            refine R_iconst dX8_valley_96 (v := 1) (by decide) ?_
            refine R_aload_n dX8_valley_97 rfl rfl ?_
            refine R_getX dX8_valley_98 lfX8_80 rfl rfl (x := h13 54 20) rfl ?_
            obtain ⟨r22, h21, e20, H⟩ := bn2_some H
            refine R_cV dX8_valley_101 lvX8_97 ⟨Nat.le_of_ble_eq_true rfl, Nat.le_of_ble_eq_true rfl⟩ (r := 54) rfl (av := [.int 0, .int 1, .int (h13 54 20)]) (st := []) rfl rfl (Nat.le_of_ble_eq_true rfl) (tX8_want e20) ?_
            rcases it_split H with ⟨c23, H⟩ | ⟨c23, H⟩
            · refine R_if_eq_t dX8_valley_104 (tgt := 56) (by decide) c23 ?_
              exact ih _ _ _ H
            · refine R_if_eq_f dX8_valley_104 (tgt := 56) (by decide) c23 ?_
              refine R_aload_n dX8_valley_107 rfl rfl ?_
              refine R_dup dX8_valley_108 rfl ?_
              refine R_getX dX8_valley_109 lfX8_80 rfl rfl (x := h21 54 20) rfl ?_
              refine R_iconst dX8_valley_112 (v := 1) (by decide) ?_
              refine R_iadd dX8_valley_113 ?_
              refine R_putI dX8_valley_114 lfX8_80 rfl rfl ?_
              refine R_goto dX8_valley_117 (tgt := 56) (by decide) ?_
              exact ih _ _ _ H
        · refine R_if_ne_t dX8_valley_78 (tgt := 56) (by decide) c11 ?_
          exact ih _ _ _ H
    · refine R_if_ne_t dX8_valley_60 (tgt := 120) (by decide) c4 ?_
      exact hK _ _ _ H

set_option maxRecDepth 100000 in
set_option maxHeartbeats 4000000 in
theorem tX8_valley {h : aH} {r : Int32} {h2 : aH} (H : fX8_valley h = some (r, h2)) : Ev mX8_valley [.ref 54] h (some (.int r)) h2 := by
  unfold fX8_valley at H
  refine Ev_of (sp := (0, fun _ => 0)) oX8_valley nlX8 (Nat.le_of_ble_eq_true rfl) (ls0 := [.ref 54, .null]) rfl ?_
  refine R_aload_n dX8_valley_0 rfl rfl ?_
  refine R_iconst dX8_valley_1 (v := 0) (by decide) ?_
  refine R_putI dX8_valley_2 lfX8_80 rfl rfl ?_
  refine R_aload_n dX8_valley_5 rfl rfl ?_
  refine R_iconst dX8_valley_6 (v := 0) (by decide) ?_
  refine R_putI dX8_valley_7 lfX8_83 rfl rfl ?_
  refine R_aload_n dX8_valley_10 rfl rfl ?_
  refine R_iconst dX8_valley_11 (v := (-1)) (by decide) ?_
  refine R_putI dX8_valley_12 lfX8_44 rfl rfl ?_
  refine R_aload_n dX8_valley_15 rfl rfl ?_
  refine R_iconst dX8_valley_16 (v := 0) (by decide) ?_
  refine R_putZ dX8_valley_17 lfX8_105 rfl rfl (by decide) ?_
  refine R_aload_n dX8_valley_20 rfl rfl ?_
  refine R_iconst dX8_valley_21 (v := 0) (by decide) ?_
  refine R_putI dX8_valley_22 lfX8_113 rfl rfl ?_
  refine R_aload_n dX8_valley_25 rfl rfl ?_
  refine R_iconst dX8_valley_26 (v := 0) (by decide) ?_
  refine R_putI dX8_valley_27 lfX8_116 rfl rfl ?_
  refine R_aload_n dX8_valley_30 rfl rfl ?_
  refine R_iconst dX8_valley_31 (v := 0) (by decide) ?_
  refine R_putI dX8_valley_32 lfX8_119 rfl rfl ?_
  refine R_iconst dX8_valley_35 (v := 3) (by decide) ?_
  refine R_istoreN dX8_valley_36 rfl (by decide) rfl (ls2 := [.ref 54, .int 3]) rfl ?_
  refine tX8_valley_L37 (fun h3 r h2 H => ?_) _ _ _ _ _ H
  refine tX8_valley_L56 (fun h24 r h2 H => ?_) _ _ _ _ H
  refine R_aload_n dX8_valley_120 rfl rfl ?_
  refine R_iconst dX8_valley_121 (v := 0) (by decide) ?_
  refine R_putI dX8_valley_122 lfX8_76 rfl rfl ?_
  refine R_aload_n dX8_valley_125 rfl rfl ?_
  refine R_getX dX8_valley_126 lfX8_83 rfl rfl (x := h24 54 22) rfl ?_
  rcases it_split H with ⟨c25, H⟩ | ⟨c25, H⟩
  · refine R_if_le_t dX8_valley_129 (tgt := 140) (by decide) c25 ?_
    refine R_aload_n dX8_valley_140 rfl rfl ?_
    obtain ⟨h27, e26, H⟩ := bn_some H
    refine R_cV dX8_valley_141 lvX8_138 ⟨Nat.le_of_ble_eq_true rfl, Nat.le_of_ble_eq_true rfl⟩ (r := 54) rfl (av := []) (st := []) rfl rfl (Nat.le_of_ble_eq_true rfl) (tX8_take e26) ?_
    refine R_aload_n dX8_valley_144 rfl rfl ?_
    refine R_getX dX8_valley_145 lfX8_141 rfl rfl (x := h27 54 16) rfl ?_
    obtain ⟨rfl, rfl⟩ := so2 H
    exact R_retI dX8_valley_148 rfl (Or.inl rfl)
  · refine R_if_le_f dX8_valley_129 (tgt := 140) (by decide) c25 ?_
    refine R_bipush dX8_valley_132 (v := (-10)) (by decide) ?_
    refine R_aload_n dX8_valley_134 rfl rfl ?_
    refine R_getX dX8_valley_135 lfX8_83 rfl rfl (x := h24 54 22) rfl ?_
    refine R_isub dX8_valley_138 ?_
    obtain ⟨rfl, rfl⟩ := so2 H
    exact R_retI dX8_valley_139 rfl (Or.inl rfl)

set_option maxRecDepth 100000 in
set_option maxHeartbeats 4000000 in
theorem tX8_fault {h : aH} {r : Int32} (H : fX8_fault h = some r) : Ev mX8_fault [.ref 54] h (some (.int r)) h := by
  unfold fX8_fault at H
  refine Ev_of (sp := (0, fun _ => 0)) oX8_fault nlX8 (Nat.le_of_ble_eq_true rfl) (ls0 := [.ref 54]) rfl ?_
  refine R_aload_n dX8_fault_0 rfl rfl ?_
  refine R_getX dX8_fault_1 lfX8_44 rfl rfl (x := h 54 23) rfl ?_
  obtain rfl := Option.some.inj H
  exact R_retI dX8_fault_4 rfl (Or.inl rfl)

set_option maxRecDepth 100000 in
set_option maxHeartbeats 4000000 in
theorem tX8_isHand {h : aH} {x1 : Int32} {r : Bool} (H : fX8_isHand h x1 = some r) : Ev mX8_isHand [.ref 54, .int x1] h (some (.int (bi r))) h := by
  unfold fX8_isHand at H
  refine Ev_of (sp := (0, fun _ => 0)) oX8_isHand nlX8 (Nat.le_of_ble_eq_true rfl) (ls0 := [.ref 54, .int x1]) rfl ?_
  refine R_iload_n dX8_isHand_0 rfl rfl ?_
  refine R_i2l dX8_isHand_1 ?_
  refine R_lconst dX8_isHand_2 (v := 0) rfl ?_
  refine R_aload_n dX8_isHand_3 rfl rfl ?_
  refine R_getX dX8_isHand_4 lfX8_150 rfl rfl (x := h 54 11) rfl ?_
  refine R_iconst dX8_isHand_7 (v := 1) (by decide) ?_
  refine R_isub dX8_isHand_8 ?_
  refine R_i2l dX8_isHand_9 ?_
  obtain ⟨r2, e1, H⟩ := bn_some H
  refine R_cS dX8_isHand_10 lvX8_71 ⟨Nat.le_of_ble_eq_true rfl, Nat.le_of_ble_eq_true rfl⟩ (av := [.long (Int32.toInt64 x1), .long 0, .long (Int32.toInt64 ((h 54 11) - 1))]) (st := []) rfl rfl (Nat.le_of_ble_eq_true rfl) (tX8_in e1) ?_
  obtain rfl := Option.some.inj H
  exact R_retI dX8_isHand_13 rfl (Or.inr ⟨rfl, bi_01 _⟩)

set_option maxRecDepth 100000 in
set_option maxHeartbeats 4000000 in
theorem tX8_isPaper {h : aH} {x1 : Int32} {r : Bool} (H : fX8_isPaper h x1 = some r) : Ev mX8_isPaper [.ref 54, .int x1] h (some (.int (bi r))) h := by
  unfold fX8_isPaper at H
  refine Ev_of (sp := (0, fun _ => 0)) oX8_isPaper nlX8 (Nat.le_of_ble_eq_true rfl) (ls0 := [.ref 54, .int x1]) rfl ?_
  refine R_iload_n dX8_isPaper_0 rfl rfl ?_
  refine R_i2l dX8_isPaper_1 ?_
  refine R_lconst dX8_isPaper_2 (v := 0) rfl ?_
  refine R_aload_n dX8_isPaper_3 rfl rfl ?_
  refine R_getX dX8_isPaper_4 lfX8_141 rfl rfl (x := h 54 16) rfl ?_
  refine R_iconst dX8_isPaper_7 (v := 1) (by decide) ?_
  refine R_isub dX8_isPaper_8 ?_
  refine R_i2l dX8_isPaper_9 ?_
  obtain ⟨r2, e1, H⟩ := bn_some H
  refine R_cS dX8_isPaper_10 lvX8_71 ⟨Nat.le_of_ble_eq_true rfl, Nat.le_of_ble_eq_true rfl⟩ (av := [.long (Int32.toInt64 x1), .long 0, .long (Int32.toInt64 ((h 54 16) - 1))]) (st := []) rfl rfl (Nat.le_of_ble_eq_true rfl) (tX8_in e1) ?_
  obtain rfl := Option.some.inj H
  exact R_retI dX8_isPaper_13 rfl (Or.inr ⟨rfl, bi_01 _⟩)

set_option maxRecDepth 100000 in
set_option maxHeartbeats 4000000 in
theorem tX8_isLetter {h : aH} {x1 : Int32} {x2 : Int32} {r : Bool} (H : fX8_isLetter h x1 x2 = some r) : Ev mX8_isLetter [.ref 54, .int x1, .int x2] h (some (.int (bi r))) h := by
  unfold fX8_isLetter at H
  refine Ev_of (sp := (0, fun _ => 0)) oX8_isLetter nlX8 (Nat.le_of_ble_eq_true rfl) (ls0 := [.ref 54, .int x1, .int x2]) rfl ?_
  refine R_aload_n dX8_isLetter_0 rfl rfl ?_
  refine R_iload_n dX8_isLetter_1 rfl rfl ?_
  obtain ⟨r2, e1, H⟩ := bn_some H
  refine R_cV dX8_isLetter_2 lvX8_166 ⟨Nat.le_of_ble_eq_true rfl, Nat.le_of_ble_eq_true rfl⟩ (r := 54) rfl (av := [.int x1]) (st := []) rfl rfl (Nat.le_of_ble_eq_true rfl) (tX8_isPaper e1) ?_
  rcases it_split H with ⟨c3, H⟩ | ⟨c3, H⟩
  · refine R_if_eq_t dX8_isLetter_5 (tgt := 33) (by decide) c3 ?_
    refine R_iconst dX8_isLetter_33 (v := 0) (by decide) ?_
    obtain rfl := Option.some.inj H
    exact R_retI dX8_isLetter_34 rfl (Or.inr ⟨rfl, bi_01 _⟩)
  · refine R_if_eq_f dX8_isLetter_5 (tgt := 33) (by decide) c3 ?_
    refine R_iload_n dX8_isLetter_8 rfl rfl ?_
    refine R_i2l dX8_isLetter_9 ?_
    refine R_lconst dX8_isLetter_10 (v := 0) rfl ?_
    refine R_aload_n dX8_isLetter_11 rfl rfl ?_
    refine R_getF dX8_isLetter_12 lfX8_7 rfl rfl (q := 55) rfl ?_
    refine R_bipush dX8_isLetter_15 (v := 48) (by decide) ?_
    refine R_iload_n dX8_isLetter_17 rfl rfl ?_
    refine R_iadd dX8_isLetter_18 ?_
    obtain ⟨c4, H⟩ := it_some H
    refine R_ildY dX8_isLetter_19 rfl rfl (ck_in c4) (j := tn (48 + x1)) rfl (x := h 55 (tn (48 + x1))) rfl ?_
    refine R_iconst dX8_isLetter_20 (v := 1) (by decide) ?_
    refine R_isub dX8_isLetter_21 ?_
    refine R_i2l dX8_isLetter_22 ?_
    obtain ⟨r6, e5, H⟩ := bn_some H
    refine R_cS dX8_isLetter_23 lvX8_71 ⟨Nat.le_of_ble_eq_true rfl, Nat.le_of_ble_eq_true rfl⟩ (av := [.long (Int32.toInt64 x2), .long 0, .long (Int32.toInt64 ((h 55 (tn (48 + x1))) - 1))]) (st := []) rfl rfl (Nat.le_of_ble_eq_true rfl) (tX8_in e5) ?_
    rcases it_split H with ⟨c7, H⟩ | ⟨c7, H⟩
    · refine R_if_eq_t dX8_isLetter_26 (tgt := 33) (by decide) c7 ?_
      refine R_iconst dX8_isLetter_33 (v := 0) (by decide) ?_
      obtain rfl := Option.some.inj H
      exact R_retI dX8_isLetter_34 rfl (Or.inr ⟨rfl, bi_01 _⟩)
    · refine R_if_eq_f dX8_isLetter_26 (tgt := 33) (by decide) c7 ?_
      refine R_iconst dX8_isLetter_29 (v := 1) (by decide) ?_
      refine R_goto dX8_isLetter_30 (tgt := 34) (by decide) ?_
      obtain rfl := Option.some.inj H
      exact R_retI dX8_isLetter_34 rfl (Or.inr ⟨rfl, bi_01 _⟩)

set_option maxRecDepth 100000 in
set_option maxHeartbeats 4000000 in
theorem tX8_isHour {h : aH} {x0 : Int32} {r : Bool} (H : fX8_isHour x0 = some r) : Ev mX8_isHour [.int x0] h (some (.int (bi r))) h := by
  unfold fX8_isHour at H
  refine Ev_of (sp := (0, fun _ => 0)) oX8_isHour nlX8 (Nat.le_of_ble_eq_true rfl) (ls0 := [.int x0]) rfl ?_
  refine R_iload_n dX8_isHour_0 rfl rfl ?_
  refine R_i2l dX8_isHour_1 ?_
  refine R_lconst dX8_isHour_2 (v := 0) rfl ?_
  refine R_ldc2 dX8_isHour_3 llX8_170 ?_
  obtain ⟨r2, e1, H⟩ := bn_some H
  refine R_cS dX8_isHour_6 lvX8_71 ⟨Nat.le_of_ble_eq_true rfl, Nat.le_of_ble_eq_true rfl⟩ (av := [.long (Int32.toInt64 x0), .long 0, .long 95]) (st := []) rfl rfl (Nat.le_of_ble_eq_true rfl) (tX8_in e1) ?_
  obtain rfl := Option.some.inj H
  exact R_retI dX8_isHour_9 rfl (Or.inr ⟨rfl, bi_01 _⟩)

set_option maxRecDepth 100000 in
set_option maxHeartbeats 4000000 in
theorem tX8_allLetters_L4 {sp : Nat × (Nat → Int32)} {K : Int32 → Option Int32} {h : aH} (hK : ∀ (y1 : Int32) (r : Int32), K y1 = some r → Rn sp mX8_allLetters 30 [.null, .int y1, .null] [] h (some (.int r)) h) : ∀ (n : Nat) (x1 x2 : Int32) (r : Int32), fX8_allLetters_L4 K h n x1 x2 = some r → Rn sp mX8_allLetters 4 [.ref 54, .int x1, .int x2] [] h (some (.int r)) h := by
  intro n
  induction n with
  | zero =>
    intro x1 x2 r H
    rw [fX8_allLetters_L4] at H
    cases H
  | succ n ih =>
    intro x1 x2 r H
    rw [fX8_allLetters_L4] at H
    refine R_iload_n dX8_allLetters_4 rfl rfl ?_
    refine R_aload_n dX8_allLetters_5 rfl rfl ?_
    refine R_getX dX8_allLetters_6 lfX8_141 rfl rfl (x := h 54 16) rfl ?_
    rcases it_split H with ⟨c1, H⟩ | ⟨c1, H⟩
    · refine R_icmp_ge_t dX8_allLetters_9 (tgt := 30) (by decide) c1 ?_
      refine R_null (i := 0) (ls2 := [.null, .int x1, .int x2]) rfl ?_
      refine R_null (i := 2) (ls2 := [.null, .int x1, .null]) rfl ?_
      exact hK _ _ H
    · refine R_icmp_ge_f dX8_allLetters_9 (tgt := 30) (by decide) c1 ?_
      refine R_iload_n dX8_allLetters_12 rfl rfl ?_
      refine R_aload_n dX8_allLetters_13 rfl rfl ?_
      refine R_getF dX8_allLetters_14 lfX8_7 rfl rfl (q := 55) rfl ?_
      refine R_bipush dX8_allLetters_17 (v := 48) (by decide) ?_
      refine R_iload_n dX8_allLetters_19 rfl rfl ?_
      refine R_iadd dX8_allLetters_20 ?_
      obtain ⟨c2, H⟩ := it_some H
      refine R_ildY dX8_allLetters_21 rfl rfl (ck_in c2) (j := tn (48 + x2)) rfl (x := h 55 (tn (48 + x2))) rfl ?_
      refine R_iadd dX8_allLetters_22 ?_
      refine R_istoreN dX8_allLetters_23 rfl (by decide) rfl (ls2 := [.ref 54, .int (x1 + (h 55 (tn (48 + x2)))), .int x2]) rfl ?_
      refine R_iincW dX8_allLetters_24 rfl (v := x2 + 1) rfl (by decide) rfl (ls2 := [.ref 54, .int (x1 + (h 55 (tn (48 + x2)))), .int (x2 + 1)]) rfl ?_
      refine R_goto dX8_allLetters_27 (tgt := 4) (by decide) ?_
      exact ih _ _ _ H

set_option maxRecDepth 100000 in
set_option maxHeartbeats 4000000 in
theorem tX8_allLetters {h : aH} {r : Int32} (H : fX8_allLetters h = some r) : Ev mX8_allLetters [.ref 54] h (some (.int r)) h := by
  unfold fX8_allLetters at H
  refine Ev_of (sp := (0, fun _ => 0)) oX8_allLetters nlX8 (Nat.le_of_ble_eq_true rfl) (ls0 := [.ref 54, .null, .null]) rfl ?_
  refine R_iconst dX8_allLetters_0 (v := 0) (by decide) ?_
  refine R_istoreN dX8_allLetters_1 rfl (by decide) rfl (ls2 := [.ref 54, .int 0, .null]) rfl ?_
  refine R_iconst dX8_allLetters_2 (v := 0) (by decide) ?_
  refine R_istoreN dX8_allLetters_3 rfl (by decide) rfl (ls2 := [.ref 54, .int 0, .int 0]) rfl ?_
  refine tX8_allLetters_L4 (fun z3 r H => ?_) _ _ _ _ H
  refine R_iload_n dX8_allLetters_30 rfl rfl ?_
  obtain rfl := Option.some.inj H
  exact R_retI dX8_allLetters_31 rfl (Or.inl rfl)

set_option maxRecDepth 100000 in
set_option maxHeartbeats 4000000 in
theorem tX8_told {h : aH} {x1 : Int32} {r : Int32} (H : fX8_told h x1 = some r) : Ev mX8_told [.ref 54, .int x1] h (some (.int r)) h := by
  unfold fX8_told at H
  refine Ev_of (sp := (0, fun _ => 0)) oX8_told nlX8 (Nat.le_of_ble_eq_true rfl) (ls0 := [.ref 54, .int x1]) rfl ?_
  refine R_iload_n dX8_told_0 rfl rfl ?_
  rcases it_split H with ⟨c1, H⟩ | ⟨c1, H⟩
  · refine R_tableIn dX8_told_1 (by rw [c1]; decide) (by rw [c1]; decide) (off := 59) (by rw [c1]; decide) (tgt := 60) (by decide) ?_
    refine R_aload_n dX8_told_60 rfl rfl ?_
    refine R_getX dX8_told_61 lfX8_144 rfl rfl (x := h 54 2) rfl ?_
    obtain ⟨r3, e2, H⟩ := bn_some H
    refine R_cS dX8_told_64 lvX8_172 ⟨Nat.le_of_ble_eq_true rfl, Nat.le_of_ble_eq_true rfl⟩ (av := [.int (h 54 2)]) (st := []) rfl rfl (Nat.le_of_ble_eq_true rfl) (tX8_one e2) ?_
    obtain rfl := Option.some.inj H
    exact R_retI dX8_told_67 rfl (Or.inl rfl)
  · rcases it_split H with ⟨c4, H⟩ | ⟨c4, H⟩
    · refine R_tableIn dX8_told_1 (by rw [c4]; decide) (by rw [c4]; decide) (off := 67) (by rw [c4]; decide) (tgt := 68) (by decide) ?_
      refine R_aload_n dX8_told_68 rfl rfl ?_
      refine R_getF dX8_told_69 lfX8_17 rfl rfl (q := 57) rfl ?_
      refine R_iconst dX8_told_72 (v := 0) (by decide) ?_
      refine R_ildY dX8_told_73 rfl rfl (ck_in (by decide)) (j := 0) (by decide) (x := h 57 0) rfl ?_
      obtain rfl := Option.some.inj H
      exact R_retI dX8_told_74 rfl (Or.inl rfl)
    · rcases it_split H with ⟨c5, H⟩ | ⟨c5, H⟩
      · refine R_tableIn dX8_told_1 (by rw [c5]; decide) (by rw [c5]; decide) (off := 74) (by rw [c5]; decide) (tgt := 75) (by decide) ?_
        refine R_aload_n dX8_told_75 rfl rfl ?_
        refine R_getF dX8_told_76 lfX8_17 rfl rfl (q := 57) rfl ?_
        refine R_iconst dX8_told_79 (v := 1) (by decide) ?_
        refine R_ildY dX8_told_80 rfl rfl (ck_in (by decide)) (j := 1) (by decide) (x := h 57 1) rfl ?_
        obtain rfl := Option.some.inj H
        exact R_retI dX8_told_81 rfl (Or.inl rfl)
      · rcases it_split H with ⟨c6, H⟩ | ⟨c6, H⟩
        · refine R_tableIn dX8_told_1 (by rw [c6]; decide) (by rw [c6]; decide) (off := 81) (by rw [c6]; decide) (tgt := 82) (by decide) ?_
          refine R_aload_n dX8_told_82 rfl rfl ?_
          refine R_getF dX8_told_83 lfX8_17 rfl rfl (q := 57) rfl ?_
          refine R_iconst dX8_told_86 (v := 2) (by decide) ?_
          refine R_ildY dX8_told_87 rfl rfl (ck_in (by decide)) (j := 2) (by decide) (x := h 57 2) rfl ?_
          obtain rfl := Option.some.inj H
          exact R_retI dX8_told_88 rfl (Or.inl rfl)
        · rcases it_split H with ⟨c7, H⟩ | ⟨c7, H⟩
          · refine R_tableIn dX8_told_1 (by rw [c7]; decide) (by rw [c7]; decide) (off := 88) (by rw [c7]; decide) (tgt := 89) (by decide) ?_
            refine R_aload_n dX8_told_89 rfl rfl ?_
            refine R_getX dX8_told_90 lfX8_150 rfl rfl (x := h 54 11) rfl ?_
            obtain rfl := Option.some.inj H
            exact R_retI dX8_told_93 rfl (Or.inl rfl)
          · rcases it_split H with ⟨c8, H⟩ | ⟨c8, H⟩
            · refine R_tableIn dX8_told_1 (by rw [c8]; decide) (by rw [c8]; decide) (off := 93) (by rw [c8]; decide) (tgt := 94) (by decide) ?_
              refine R_aload_n dX8_told_94 rfl rfl ?_
              refine R_getX dX8_told_95 lfX8_141 rfl rfl (x := h 54 16) rfl ?_
              obtain rfl := Option.some.inj H
              exact R_retI dX8_told_98 rfl (Or.inl rfl)
            · rcases it_split H with ⟨c9, H⟩ | ⟨c9, H⟩
              · refine R_tableIn dX8_told_1 (by rw [c9]; decide) (by rw [c9]; decide) (off := 98) (by rw [c9]; decide) (tgt := 99) (by decide) ?_
                refine R_aload_n dX8_told_99 rfl rfl ?_
                refine R_getX dX8_told_100 lfX8_76 rfl rfl (x := h 54 19) rfl ?_
                obtain rfl := Option.some.inj H
                exact R_retI dX8_told_103 rfl (Or.inl rfl)
              · rcases it_split H with ⟨c10, H⟩ | ⟨c10, H⟩
                · refine R_tableIn dX8_told_1 (by rw [c10]; decide) (by rw [c10]; decide) (off := 103) (by rw [c10]; decide) (tgt := 104) (by decide) ?_
                  refine R_aload_n dX8_told_104 rfl rfl ?_
                  refine R_getF dX8_told_105 lfX8_7 rfl rfl (q := 55) rfl ?_
                  refine R_bipush dX8_told_108 (v := 52) (by decide) ?_
                  refine R_ildY dX8_told_110 rfl rfl (ck_in (by decide)) (j := 52) (by decide) (x := h 55 52) rfl ?_
                  obtain rfl := Option.some.inj H
                  exact R_retI dX8_told_111 rfl (Or.inl rfl)
                · rcases it_split H with ⟨c11, H⟩ | ⟨c11, H⟩
                  · refine R_tableIn dX8_told_1 (by rw [c11]; decide) (by rw [c11]; decide) (off := 111) (by rw [c11]; decide) (tgt := 112) (by decide) ?_
                    refine R_aload_n dX8_told_112 rfl rfl ?_
                    obtain ⟨r13, e12, H⟩ := bn_some H
                    refine R_cV dX8_told_113 lvX8_176 ⟨Nat.le_of_ble_eq_true rfl, Nat.le_of_ble_eq_true rfl⟩ (r := 54) rfl (av := []) (st := []) rfl rfl (Nat.le_of_ble_eq_true rfl) (tX8_allLetters e12) ?_
                    obtain rfl := Option.some.inj H
                    exact R_retI dX8_told_116 rfl (Or.inl rfl)
                  · rcases it_split H with ⟨c14, H⟩ | ⟨c14, H⟩
                    · refine R_tableIn dX8_told_1 (by rw [c14]; decide) (by rw [c14]; decide) (off := 116) (by rw [c14]; decide) (tgt := 117) (by decide) ?_
                      refine R_aload_n dX8_told_117 rfl rfl ?_
                      refine R_getX dX8_told_118 lfX8_160 rfl rfl (x := h 54 32) rfl ?_
                      obtain rfl := Option.some.inj H
                      exact R_retI dX8_told_121 rfl (Or.inl rfl)
                    · rcases it_split H with ⟨c15, H⟩ | ⟨c15, H⟩
                      · refine R_tableIn dX8_told_1 (by rw [c15]; decide) (by rw [c15]; decide) (off := 121) (by rw [c15]; decide) (tgt := 122) (by decide) ?_
                        refine R_aload_n dX8_told_122 rfl rfl ?_
                        refine R_getX dX8_told_123 lfX8_163 rfl rfl (x := h 54 25) rfl ?_
                        obtain rfl := Option.some.inj H
                        exact R_retI dX8_told_126 rfl (Or.inl rfl)
                      · have nc1 : Int32.toInt x1 ≠ 0 := ti_ne c1
                        have nc4 : Int32.toInt x1 ≠ 1 := ti_ne c4
                        have nc5 : Int32.toInt x1 ≠ 2 := ti_ne c5
                        have nc6 : Int32.toInt x1 ≠ 3 := ti_ne c6
                        have nc7 : Int32.toInt x1 ≠ 4 := ti_ne c7
                        have nc8 : Int32.toInt x1 ≠ 5 := ti_ne c8
                        have nc9 : Int32.toInt x1 ≠ 6 := ti_ne c9
                        have nc10 : Int32.toInt x1 ≠ 7 := ti_ne c10
                        have nc11 : Int32.toInt x1 ≠ 8 := ti_ne c11
                        have nc14 : Int32.toInt x1 ≠ 9 := ti_ne c14
                        have nc15 : Int32.toInt x1 ≠ 10 := ti_ne c15
                        refine R_tableOut dX8_told_1 (x := x1) (by omega) (tgt := 127) (by decide) ?_
                        refine R_ldc dX8_told_127 lcX8_75 ?_
                        obtain rfl := Option.some.inj H
                        exact R_retI dX8_told_129 rfl (Or.inl rfl)

set_option maxRecDepth 100000 in
set_option maxHeartbeats 4000000 in
theorem tX8_rainOf {h : aH} {x1 : Int32} {r : Int32} (H : fX8_rainOf h x1 = some r) : Ev mX8_rainOf [.ref 54, .int x1] h (some (.int r)) h := by
  unfold fX8_rainOf at H
  refine Ev_of (sp := (0, fun _ => 0)) oX8_rainOf nlX8 (Nat.le_of_ble_eq_true rfl) (ls0 := [.ref 54, .int x1]) rfl ?_
  refine R_aload_n dX8_rainOf_0 rfl rfl ?_
  refine R_getX dX8_rainOf_1 lfX8_147 rfl rfl (x := h 54 6) rfl ?_
  rcases it_split H with ⟨c1, H⟩ | ⟨c1, H⟩
  · refine R_if_ne_f dX8_rainOf_4 (tgt := 11) (by decide) c1 ?_
    refine R_iconst dX8_rainOf_7 (v := 0) (by decide) ?_
    refine R_goto dX8_rainOf_8 (tgt := 22) (by decide) ?_
    obtain rfl := Option.some.inj H
    exact R_retI dX8_rainOf_22 rfl (Or.inl rfl)
  · refine R_if_ne_t dX8_rainOf_4 (tgt := 11) (by decide) c1 ?_
    refine R_aload_n dX8_rainOf_11 rfl rfl ?_
    refine R_getF dX8_rainOf_12 lfX8_20 rfl rfl (q := 58) rfl ?_
    refine R_iload_n dX8_rainOf_15 rfl rfl ?_
    refine R_aload_n dX8_rainOf_16 rfl rfl ?_
    refine R_getX dX8_rainOf_17 lfX8_147 rfl rfl (x := h 54 6) rfl ?_
    obtain ⟨c2, H⟩ := it_some H
    refine R_iremX dX8_rainOf_20 c2 ?_
    obtain ⟨c3, H⟩ := it_some H
    refine R_ildY dX8_rainOf_21 rfl rfl (ck_in c3) (j := tn (rmd x1 (h 54 6))) rfl (x := h 58 (tn (rmd x1 (h 54 6)))) rfl ?_
    obtain rfl := Option.some.inj H
    exact R_retI dX8_rainOf_22 rfl (Or.inl rfl)

set_option maxRecDepth 100000 in
set_option maxHeartbeats 4000000 in
theorem tX8_dampBy {h : aH} {x1 : Int32} {x2 : Int32} {r : Int32} (H : fX8_dampBy h x1 x2 = some r) : Ev mX8_dampBy [.ref 54, .int x1, .int x2] h (some (.int r)) h := by
  unfold fX8_dampBy at H
  refine Ev_of (sp := (0, fun _ => 0)) oX8_dampBy nlX8 (Nat.le_of_ble_eq_true rfl) (ls0 := [.ref 54, .int x1, .int x2, .null, .null]) rfl ?_
  refine R_iload_n dX8_dampBy_0 rfl rfl ?_
  refine R_bipush dX8_dampBy_1 (v := 12) (by decide) ?_
  refine R_iremX dX8_dampBy_3 (by decide) ?_
  refine R_aload_n dX8_dampBy_4 rfl rfl ?_
  refine R_getF dX8_dampBy_5 lfX8_17 rfl rfl (q := 57) rfl ?_
  refine R_iconst dX8_dampBy_8 (v := 2) (by decide) ?_
  refine R_ildY dX8_dampBy_9 rfl rfl (ck_in (by decide)) (j := 2) (by decide) (x := h 57 2) rfl ?_
  refine R_isub dX8_dampBy_10 ?_
  refine R_iconst dX8_dampBy_11 (v := 1) (by decide) ?_
  refine R_iadd dX8_dampBy_12 ?_
  refine R_istoreN dX8_dampBy_13 rfl (by decide) rfl (ls2 := [.ref 54, .int x1, .int x2, .int (((rmd x1 12) - (h 57 2)) + 1), .null]) rfl ?_
  refine R_aload_n dX8_dampBy_14 rfl rfl ?_
  refine R_getF dX8_dampBy_15 lfX8_17 rfl rfl (q := 57) rfl ?_
  refine R_iconst dX8_dampBy_18 (v := 1) (by decide) ?_
  refine R_ildY dX8_dampBy_19 rfl rfl (ck_in (by decide)) (j := 1) (by decide) (x := h 57 1) rfl ?_
  refine R_iload_n dX8_dampBy_20 rfl rfl ?_
  refine R_iadd dX8_dampBy_21 ?_
  refine R_iload_n dX8_dampBy_22 rfl rfl ?_
  rcases it_split H with ⟨c1, H⟩ | ⟨c1, H⟩
  · refine R_if_le_t dX8_dampBy_23 (tgt := 30) (by decide) c1 ?_
    refine R_iconst dX8_dampBy_30 (v := 0) (by decide) ?_
    refine R_iadd dX8_dampBy_31 ?_
    refine R_istoreW dX8_dampBy_32 (by decide) rfl (ls2 := [.ref 54, .int x1, .int x2, .int (((rmd x1 12) - (h 57 2)) + 1), .int (((h 57 1) + x2) + 0)]) rfl ?_
    refine R_iload dX8_dampBy_34 rfl ?_
    refine R_bipush dX8_dampBy_36 (v := 19) (by decide) ?_
    rcases it_split H with ⟨c2, H⟩ | ⟨c2, H⟩
    · refine R_icmp_le_t dX8_dampBy_38 (tgt := 46) (by decide) c2 ?_
      refine R_iload dX8_dampBy_46 rfl ?_
      obtain rfl := Option.some.inj H
      exact R_retI dX8_dampBy_48 rfl (Or.inl rfl)
    · refine R_icmp_le_f dX8_dampBy_38 (tgt := 46) (by decide) c2 ?_
      refine R_bipush dX8_dampBy_41 (v := 19) (by decide) ?_
      refine R_goto dX8_dampBy_43 (tgt := 48) (by decide) ?_
      obtain rfl := Option.some.inj H
      exact R_retI dX8_dampBy_48 rfl (Or.inl rfl)
  · refine R_if_le_f dX8_dampBy_23 (tgt := 30) (by decide) c1 ?_
    refine R_iload_n dX8_dampBy_26 rfl rfl ?_
    refine R_goto dX8_dampBy_27 (tgt := 31) (by decide) ?_
    refine R_iadd dX8_dampBy_31 ?_
    refine R_istoreW dX8_dampBy_32 (by decide) rfl (ls2 := [.ref 54, .int x1, .int x2, .int (((rmd x1 12) - (h 57 2)) + 1), .int (((h 57 1) + x2) + (((rmd x1 12) - (h 57 2)) + 1))]) rfl ?_
    refine R_iload dX8_dampBy_34 rfl ?_
    refine R_bipush dX8_dampBy_36 (v := 19) (by decide) ?_
    rcases it_split H with ⟨c3, H⟩ | ⟨c3, H⟩
    · refine R_icmp_le_t dX8_dampBy_38 (tgt := 46) (by decide) c3 ?_
      refine R_iload dX8_dampBy_46 rfl ?_
      obtain rfl := Option.some.inj H
      exact R_retI dX8_dampBy_48 rfl (Or.inl rfl)
    · refine R_icmp_le_f dX8_dampBy_38 (tgt := 46) (by decide) c3 ?_
      refine R_bipush dX8_dampBy_41 (v := 19) (by decide) ?_
      refine R_goto dX8_dampBy_43 (tgt := 48) (by decide) ?_
      obtain rfl := Option.some.inj H
      exact R_retI dX8_dampBy_48 rfl (Or.inl rfl)

set_option maxRecDepth 100000 in
set_option maxHeartbeats 4000000 in
theorem tX8_lightAt {h : aH} {x1 : Int32} {r : Int32} (H : fX8_lightAt h x1 = some r) : Ev mX8_lightAt [.ref 54, .int x1] h (some (.int r)) h := by
  unfold fX8_lightAt at H
  refine Ev_of (sp := (0, fun _ => 0)) oX8_lightAt nlX8 (Nat.le_of_ble_eq_true rfl) (ls0 := [.ref 54, .int x1]) rfl ?_
  refine R_iload_n dX8_lightAt_0 rfl rfl ?_
  refine R_bipush dX8_lightAt_1 (v := 12) (by decide) ?_
  refine R_iremX dX8_lightAt_3 (by decide) ?_
  refine R_aload_n dX8_lightAt_4 rfl rfl ?_
  refine R_getF dX8_lightAt_5 lfX8_17 rfl rfl (q := 57) rfl ?_
  refine R_iconst dX8_lightAt_8 (v := 2) (by decide) ?_
  refine R_ildY dX8_lightAt_9 rfl rfl (ck_in (by decide)) (j := 2) (by decide) (x := h 57 2) rfl ?_
  rcases it_split H with ⟨c1, H⟩ | ⟨c1, H⟩
  · refine R_icmp_ge_t dX8_lightAt_10 (tgt := 17) (by decide) c1 ?_
    refine R_iconst dX8_lightAt_17 (v := 0) (by decide) ?_
    obtain ⟨r3, e2, H⟩ := bn_some H
    refine R_cS dX8_lightAt_18 lvX8_172 ⟨Nat.le_of_ble_eq_true rfl, Nat.le_of_ble_eq_true rfl⟩ (av := [.int 0]) (st := []) rfl rfl (Nat.le_of_ble_eq_true rfl) (tX8_one e2) ?_
    obtain rfl := Option.some.inj H
    exact R_retI dX8_lightAt_21 rfl (Or.inl rfl)
  · refine R_icmp_ge_f dX8_lightAt_10 (tgt := 17) (by decide) c1 ?_
    refine R_iconst dX8_lightAt_13 (v := 1) (by decide) ?_
    refine R_goto dX8_lightAt_14 (tgt := 18) (by decide) ?_
    obtain ⟨r5, e4, H⟩ := bn_some H
    refine R_cS dX8_lightAt_18 lvX8_172 ⟨Nat.le_of_ble_eq_true rfl, Nat.le_of_ble_eq_true rfl⟩ (av := [.int 1]) (st := []) rfl rfl (Nat.le_of_ble_eq_true rfl) (tX8_one e4) ?_
    obtain rfl := Option.some.inj H
    exact R_retI dX8_lightAt_21 rfl (Or.inl rfl)

set_option maxRecDepth 100000 in
set_option maxHeartbeats 4000000 in
theorem tX8_weather {h : aH} {x1 : Int32} {x2 : Int32} {r : Int32} (H : fX8_weather h x1 x2 = some r) : Ev mX8_weather [.ref 54, .int x1, .int x2] h (some (.int r)) h := by
  unfold fX8_weather at H
  refine Ev_of (sp := (0, fun _ => 0)) oX8_weather nlX8 (Nat.le_of_ble_eq_true rfl) (ls0 := [.ref 54, .int x1, .int x2]) rfl ?_
  refine R_iload_n dX8_weather_0 rfl rfl ?_
  obtain ⟨r2, e1, H⟩ := bn_some H
  refine R_cS dX8_weather_1 lvX8_179 ⟨Nat.le_of_ble_eq_true rfl, Nat.le_of_ble_eq_true rfl⟩ (av := [.int x1]) (st := []) rfl rfl (Nat.le_of_ble_eq_true rfl) (tX8_isHour e1) ?_
  rcases it_split H with ⟨c3, H⟩ | ⟨c3, H⟩
  · refine R_if_eq_t dX8_weather_4 (tgt := 19) (by decide) c3 ?_
    refine R_ldc dX8_weather_19 lcX8_75 ?_
    obtain rfl := Option.some.inj H
    exact R_retI dX8_weather_21 rfl (Or.inl rfl)
  · refine R_if_eq_f dX8_weather_4 (tgt := 19) (by decide) c3 ?_
    refine R_iload_n dX8_weather_7 rfl rfl ?_
    refine R_i2l dX8_weather_8 ?_
    refine R_lconst dX8_weather_9 (v := 0) rfl ?_
    refine R_ldc2 dX8_weather_10 llX8_182 ?_
    obtain ⟨r5, e4, H⟩ := bn_some H
    refine R_cS dX8_weather_13 lvX8_71 ⟨Nat.le_of_ble_eq_true rfl, Nat.le_of_ble_eq_true rfl⟩ (av := [.long (Int32.toInt64 x2), .long 0, .long 2]) (st := []) rfl rfl (Nat.le_of_ble_eq_true rfl) (tX8_in e4) ?_
    rcases it_split H with ⟨c6, H⟩ | ⟨c6, H⟩
    · refine R_if_ne_f dX8_weather_16 (tgt := 22) (by decide) c6 ?_
      refine R_ldc dX8_weather_19 lcX8_75 ?_
      obtain rfl := Option.some.inj H
      exact R_retI dX8_weather_21 rfl (Or.inl rfl)
    · refine R_if_ne_t dX8_weather_16 (tgt := 22) (by decide) c6 ?_
      refine R_aload_n dX8_weather_22 rfl rfl ?_
      refine R_getX dX8_weather_23 lfX8_144 rfl rfl (x := h 54 2) rfl ?_
      rcases it_split H with ⟨c7, H⟩ | ⟨c7, H⟩
      · refine R_if_ne_f dX8_weather_26 (tgt := 32) (by decide) c7 ?_
        refine R_ldc dX8_weather_29 lcX8_184 ?_
        obtain rfl := Option.some.inj H
        exact R_retI dX8_weather_31 rfl (Or.inl rfl)
      · refine R_if_ne_t dX8_weather_26 (tgt := 32) (by decide) c7 ?_
        refine R_iload_n dX8_weather_32 rfl rfl ?_
        rcases it_split H with ⟨c8, H⟩ | ⟨c8, H⟩
        · refine R_if_ne_f dX8_weather_33 (tgt := 50) (by decide) c8 ?_
          refine R_aload_n dX8_weather_36 rfl rfl ?_
          refine R_getF dX8_weather_37 lfX8_17 rfl rfl (q := 57) rfl ?_
          refine R_iconst dX8_weather_40 (v := 0) (by decide) ?_
          refine R_ildY dX8_weather_41 rfl rfl (ck_in (by decide)) (j := 0) (by decide) (x := h 57 0) rfl ?_
          refine R_iload_n dX8_weather_42 rfl rfl ?_
          refine R_imul dX8_weather_43 ?_
          refine R_bipush dX8_weather_44 (v := 8) (by decide) ?_
          refine R_iremX dX8_weather_46 (by decide) ?_
          refine R_goto dX8_weather_47 (tgt := 76) (by decide) ?_
          obtain rfl := Option.some.inj H
          exact R_retI dX8_weather_76 rfl (Or.inl rfl)
        · refine R_if_ne_t dX8_weather_33 (tgt := 50) (by decide) c8 ?_
          refine R_iload_n dX8_weather_50 rfl rfl ?_
          refine R_iconst dX8_weather_51 (v := 1) (by decide) ?_
          rcases it_split H with ⟨c9, H⟩ | ⟨c9, H⟩
          · refine R_icmp_ne_f dX8_weather_52 (tgt := 71) (by decide) c9 ?_
            refine R_aload_n dX8_weather_55 rfl rfl ?_
            refine R_iload_n dX8_weather_56 rfl rfl ?_
            refine R_aload_n dX8_weather_57 rfl rfl ?_
            refine R_iload_n dX8_weather_58 rfl rfl ?_
            refine R_bipush dX8_weather_59 (v := 12) (by decide) ?_
            refine R_idiv dX8_weather_61 (by decide) ?_
            obtain ⟨r11, e10, H⟩ := bn_some H
            refine R_cV dX8_weather_62 lvX8_185 ⟨Nat.le_of_ble_eq_true rfl, Nat.le_of_ble_eq_true rfl⟩ (r := 54) rfl (av := [.int (x1 / 12)]) (st := [.int x1, .ref 54]) rfl rfl (Nat.le_of_ble_eq_true rfl) (tX8_rainOf e10) ?_
            obtain ⟨r13, e12, H⟩ := bn_some H
            refine R_cV dX8_weather_65 lvX8_189 ⟨Nat.le_of_ble_eq_true rfl, Nat.le_of_ble_eq_true rfl⟩ (r := 54) rfl (av := [.int x1, .int r11]) (st := []) rfl rfl (Nat.le_of_ble_eq_true rfl) (tX8_dampBy e12) ?_
            refine R_goto dX8_weather_68 (tgt := 76) (by decide) ?_
            obtain rfl := Option.some.inj H
            exact R_retI dX8_weather_76 rfl (Or.inl rfl)
          · refine R_icmp_ne_t dX8_weather_52 (tgt := 71) (by decide) c9 ?_
            refine R_aload_n dX8_weather_71 rfl rfl ?_
            refine R_iload_n dX8_weather_72 rfl rfl ?_
            obtain ⟨r15, e14, H⟩ := bn_some H
            refine R_cV dX8_weather_73 lvX8_192 ⟨Nat.le_of_ble_eq_true rfl, Nat.le_of_ble_eq_true rfl⟩ (r := 54) rfl (av := [.int x1]) (st := []) rfl rfl (Nat.le_of_ble_eq_true rfl) (tX8_lightAt e14) ?_
            obtain rfl := Option.some.inj H
            exact R_retI dX8_weather_76 rfl (Or.inl rfl)

set_option maxRecDepth 100000 in
set_option maxHeartbeats 4000000 in
theorem tX8_hand {h : aH} {x1 : Int32} {x2 : Int32} {r : Int32} (H : fX8_hand h x1 x2 = some r) : Ev mX8_hand [.ref 54, .int x1, .int x2] h (some (.int r)) h := by
  unfold fX8_hand at H
  refine Ev_of (sp := (0, fun _ => 0)) oX8_hand nlX8 (Nat.le_of_ble_eq_true rfl) (ls0 := [.ref 54, .int x1, .int x2]) rfl ?_
  refine R_aload_n dX8_hand_0 rfl rfl ?_
  refine R_iload_n dX8_hand_1 rfl rfl ?_
  obtain ⟨r2, e1, H⟩ := bn_some H
  refine R_cV dX8_hand_2 lvX8_195 ⟨Nat.le_of_ble_eq_true rfl, Nat.le_of_ble_eq_true rfl⟩ (r := 54) rfl (av := [.int x1]) (st := []) rfl rfl (Nat.le_of_ble_eq_true rfl) (tX8_isHand e1) ?_
  rcases it_split H with ⟨c3, H⟩ | ⟨c3, H⟩
  · refine R_if_ne_f dX8_hand_5 (tgt := 11) (by decide) c3 ?_
    refine R_ldc dX8_hand_8 lcX8_198 ?_
    obtain rfl := Option.some.inj H
    exact R_retI dX8_hand_10 rfl (Or.inl rfl)
  · refine R_if_ne_t dX8_hand_5 (tgt := 11) (by decide) c3 ?_
    refine R_iload_n dX8_hand_11 rfl rfl ?_
    rcases it_split H with ⟨c4, H⟩ | ⟨c4, H⟩
    · refine R_if_ne_f dX8_hand_12 (tgt := 24) (by decide) c4 ?_
      refine R_aload_n dX8_hand_15 rfl rfl ?_
      refine R_getF dX8_hand_16 lfX8_23 rfl rfl (q := 59) rfl ?_
      refine R_iload_n dX8_hand_19 rfl rfl ?_
      obtain ⟨c5, H⟩ := it_some H
      refine R_ildY dX8_hand_20 rfl rfl (ck_in c5) (j := tn x1) rfl (x := h 59 (tn x1)) rfl ?_
      refine R_goto dX8_hand_21 (tgt := 54) (by decide) ?_
      obtain rfl := Option.some.inj H
      exact R_retI dX8_hand_54 rfl (Or.inl rfl)
    · refine R_if_ne_t dX8_hand_12 (tgt := 24) (by decide) c4 ?_
      refine R_iload_n dX8_hand_24 rfl rfl ?_
      refine R_iconst dX8_hand_25 (v := 1) (by decide) ?_
      rcases it_split H with ⟨c6, H⟩ | ⟨c6, H⟩
      · refine R_icmp_ne_f dX8_hand_26 (tgt := 38) (by decide) c6 ?_
        refine R_aload_n dX8_hand_29 rfl rfl ?_
        refine R_getF dX8_hand_30 lfX8_26 rfl rfl (q := 60) rfl ?_
        refine R_iload_n dX8_hand_33 rfl rfl ?_
        obtain ⟨c7, H⟩ := it_some H
        refine R_ildY dX8_hand_34 rfl rfl (ck_in c7) (j := tn x1) rfl (x := h 60 (tn x1)) rfl ?_
        refine R_goto dX8_hand_35 (tgt := 54) (by decide) ?_
        obtain rfl := Option.some.inj H
        exact R_retI dX8_hand_54 rfl (Or.inl rfl)
      · refine R_icmp_ne_t dX8_hand_26 (tgt := 38) (by decide) c6 ?_
        refine R_iload_n dX8_hand_38 rfl rfl ?_
        refine R_iconst dX8_hand_39 (v := 2) (by decide) ?_
        rcases it_split H with ⟨c8, H⟩ | ⟨c8, H⟩
        · refine R_icmp_ne_f dX8_hand_40 (tgt := 52) (by decide) c8 ?_
          refine R_aload_n dX8_hand_43 rfl rfl ?_
          refine R_getF dX8_hand_44 lfX8_29 rfl rfl (q := 61) rfl ?_
          refine R_iload_n dX8_hand_47 rfl rfl ?_
          obtain ⟨c9, H⟩ := it_some H
          refine R_ildY dX8_hand_48 rfl rfl (ck_in c9) (j := tn x1) rfl (x := h 61 (tn x1)) rfl ?_
          refine R_goto dX8_hand_49 (tgt := 54) (by decide) ?_
          obtain rfl := Option.some.inj H
          exact R_retI dX8_hand_54 rfl (Or.inl rfl)
        · refine R_icmp_ne_t dX8_hand_40 (tgt := 52) (by decide) c8 ?_
          refine R_ldc dX8_hand_52 lcX8_75 ?_
          obtain rfl := Option.some.inj H
          exact R_retI dX8_hand_54 rfl (Or.inl rfl)

set_option maxRecDepth 100000 in
set_option maxHeartbeats 4000000 in
theorem tX8_lookBy {h : aH} {x1 : Int32} {x2 : Int32} {x3 : Int32} {r : Int32} (H : fX8_lookBy h x1 x2 x3 = some r) : Ev mX8_lookBy [.ref 54, .int x1, .int x2, .int x3] h (some (.int r)) h := by
  unfold fX8_lookBy at H
  refine Ev_of (sp := (0, fun _ => 0)) oX8_lookBy nlX8 (Nat.le_of_ble_eq_true rfl) (ls0 := [.ref 54, .int x1, .int x2, .int x3, .null, .null, .null]) rfl ?_
  refine R_aload_n dX8_lookBy_0 rfl rfl ?_
  refine R_getF dX8_lookBy_1 lfX8_23 rfl rfl (q := 59) rfl ?_
  refine R_iload_n dX8_lookBy_4 rfl rfl ?_
  obtain ⟨c1, H⟩ := it_some H
  refine R_ildY dX8_lookBy_5 rfl rfl (ck_in c1) (j := tn x1) rfl (x := h 59 (tn x1)) rfl ?_
  refine R_aload_n dX8_lookBy_6 rfl rfl ?_
  refine R_getF dX8_lookBy_7 lfX8_17 rfl rfl (q := 57) rfl ?_
  refine R_iconst dX8_lookBy_10 (v := 0) (by decide) ?_
  refine R_ildY dX8_lookBy_11 rfl rfl (ck_in (by decide)) (j := 0) (by decide) (x := h 57 0) rfl ?_
  refine R_iload_n dX8_lookBy_12 rfl rfl ?_
  refine R_imul dX8_lookBy_13 ?_
  refine R_bipush dX8_lookBy_14 (v := 8) (by decide) ?_
  refine R_iremX dX8_lookBy_16 (by decide) ?_
  refine R_iadd dX8_lookBy_17 ?_
  refine R_bipush dX8_lookBy_18 (v := 9) (by decide) ?_
  refine R_iremX dX8_lookBy_20 (by decide) ?_
  refine R_istoreW dX8_lookBy_21 (by decide) rfl (ls2 := [.ref 54, .int x1, .int x2, .int x3, .int (rmd ((h 59 (tn x1)) + (rmd ((h 57 0) * x2) 8)) 9), .null, .null]) rfl ?_
  refine R_aload_n dX8_lookBy_23 rfl rfl ?_
  refine R_getF dX8_lookBy_24 lfX8_26 rfl rfl (q := 60) rfl ?_
  refine R_iload_n dX8_lookBy_27 rfl rfl ?_
  refine R_ildY dX8_lookBy_28 rfl rfl (ck_in c1) (j := tn x1) rfl (x := h 60 (tn x1)) rfl ?_
  refine R_aload_n dX8_lookBy_29 rfl rfl ?_
  refine R_iload_n dX8_lookBy_30 rfl rfl ?_
  refine R_iload_n dX8_lookBy_31 rfl rfl ?_
  obtain ⟨r3, e2, H⟩ := bn_some H
  refine R_cV dX8_lookBy_32 lvX8_189 ⟨Nat.le_of_ble_eq_true rfl, Nat.le_of_ble_eq_true rfl⟩ (r := 54) rfl (av := [.int x2, .int x3]) (st := [.int (h 60 (tn x1))]) rfl rfl (Nat.le_of_ble_eq_true rfl) (tX8_dampBy e2) ?_
  refine R_iconst dX8_lookBy_35 (v := 2) (by decide) ?_
  refine R_idiv dX8_lookBy_36 (by decide) ?_
  refine R_iadd dX8_lookBy_37 ?_
  refine R_istoreW dX8_lookBy_38 (by decide) rfl (ls2 := [.ref 54, .int x1, .int x2, .int x3, .int (rmd ((h 59 (tn x1)) + (rmd ((h 57 0) * x2) 8)) 9), .int ((h 60 (tn x1)) + (r3 / 2)), .null]) rfl ?_
  refine R_aload_n dX8_lookBy_40 rfl rfl ?_
  refine R_getF dX8_lookBy_41 lfX8_29 rfl rfl (q := 61) rfl ?_
  refine R_iload_n dX8_lookBy_44 rfl rfl ?_
  refine R_ildY dX8_lookBy_45 rfl rfl (ck_in c1) (j := tn x1) rfl (x := h 61 (tn x1)) rfl ?_
  refine R_aload_n dX8_lookBy_46 rfl rfl ?_
  refine R_iload_n dX8_lookBy_47 rfl rfl ?_
  obtain ⟨r5, e4, H⟩ := bn_some H
  refine R_cV dX8_lookBy_48 lvX8_192 ⟨Nat.le_of_ble_eq_true rfl, Nat.le_of_ble_eq_true rfl⟩ (r := 54) rfl (av := [.int x2]) (st := [.int (h 61 (tn x1))]) rfl rfl (Nat.le_of_ble_eq_true rfl) (tX8_lightAt e4) ?_
  refine R_iconst dX8_lookBy_51 (v := 1) (by decide) ?_
  rcases it_split H with ⟨c6, H⟩ | ⟨c6, H⟩
  · refine R_icmp_ne_f dX8_lookBy_52 (tgt := 59) (by decide) c6 ?_
    refine R_iconst dX8_lookBy_55 (v := 0) (by decide) ?_
    refine R_goto dX8_lookBy_56 (tgt := 60) (by decide) ?_
    refine R_iadd dX8_lookBy_60 ?_
    refine R_istoreW dX8_lookBy_61 (by decide) rfl (ls2 := [.ref 54, .int x1, .int x2, .int x3, .int (rmd ((h 59 (tn x1)) + (rmd ((h 57 0) * x2) 8)) 9), .int ((h 60 (tn x1)) + (r3 / 2)), .int ((h 61 (tn x1)) + 0)]) rfl ?_
    refine R_sipush dX8_lookBy_63 (v := 1000) (by decide) ?_
    refine R_iload dX8_lookBy_66 rfl ?_
    refine R_imul dX8_lookBy_68 ?_
    refine R_bipush dX8_lookBy_69 (v := 10) (by decide) ?_
    refine R_iload dX8_lookBy_71 rfl ?_
    refine R_bipush dX8_lookBy_73 (v := 15) (by decide) ?_
    rcases it_split H with ⟨c7, H⟩ | ⟨c7, H⟩
    · refine R_icmp_le_t dX8_lookBy_75 (tgt := 83) (by decide) c7 ?_
      refine R_iload dX8_lookBy_83 rfl ?_
      refine R_imul dX8_lookBy_85 ?_
      refine R_iadd dX8_lookBy_86 ?_
      refine R_iload dX8_lookBy_87 rfl ?_
      refine R_bipush dX8_lookBy_89 (v := 9) (by decide) ?_
      rcases it_split H with ⟨c8, H⟩ | ⟨c8, H⟩
      · refine R_icmp_le_t dX8_lookBy_91 (tgt := 99) (by decide) c8 ?_
        refine R_iload dX8_lookBy_99 rfl ?_
        refine R_iadd dX8_lookBy_101 ?_
        obtain rfl := Option.some.inj H
        exact R_retI dX8_lookBy_102 rfl (Or.inl rfl)
      · refine R_icmp_le_f dX8_lookBy_91 (tgt := 99) (by decide) c8 ?_
        refine R_bipush dX8_lookBy_94 (v := 9) (by decide) ?_
        refine R_goto dX8_lookBy_96 (tgt := 101) (by decide) ?_
        refine R_iadd dX8_lookBy_101 ?_
        obtain rfl := Option.some.inj H
        exact R_retI dX8_lookBy_102 rfl (Or.inl rfl)
    · refine R_icmp_le_f dX8_lookBy_75 (tgt := 83) (by decide) c7 ?_
      refine R_bipush dX8_lookBy_78 (v := 15) (by decide) ?_
      refine R_goto dX8_lookBy_80 (tgt := 85) (by decide) ?_
      refine R_imul dX8_lookBy_85 ?_
      refine R_iadd dX8_lookBy_86 ?_
      refine R_iload dX8_lookBy_87 rfl ?_
      refine R_bipush dX8_lookBy_89 (v := 9) (by decide) ?_
      rcases it_split H with ⟨c9, H⟩ | ⟨c9, H⟩
      · refine R_icmp_le_t dX8_lookBy_91 (tgt := 99) (by decide) c9 ?_
        refine R_iload dX8_lookBy_99 rfl ?_
        refine R_iadd dX8_lookBy_101 ?_
        obtain rfl := Option.some.inj H
        exact R_retI dX8_lookBy_102 rfl (Or.inl rfl)
      · refine R_icmp_le_f dX8_lookBy_91 (tgt := 99) (by decide) c9 ?_
        refine R_bipush dX8_lookBy_94 (v := 9) (by decide) ?_
        refine R_goto dX8_lookBy_96 (tgt := 101) (by decide) ?_
        refine R_iadd dX8_lookBy_101 ?_
        obtain rfl := Option.some.inj H
        exact R_retI dX8_lookBy_102 rfl (Or.inl rfl)
  · refine R_icmp_ne_t dX8_lookBy_52 (tgt := 59) (by decide) c6 ?_
    refine R_iconst dX8_lookBy_59 (v := 2) (by decide) ?_
    refine R_iadd dX8_lookBy_60 ?_
    refine R_istoreW dX8_lookBy_61 (by decide) rfl (ls2 := [.ref 54, .int x1, .int x2, .int x3, .int (rmd ((h 59 (tn x1)) + (rmd ((h 57 0) * x2) 8)) 9), .int ((h 60 (tn x1)) + (r3 / 2)), .int ((h 61 (tn x1)) + 2)]) rfl ?_
    refine R_sipush dX8_lookBy_63 (v := 1000) (by decide) ?_
    refine R_iload dX8_lookBy_66 rfl ?_
    refine R_imul dX8_lookBy_68 ?_
    refine R_bipush dX8_lookBy_69 (v := 10) (by decide) ?_
    refine R_iload dX8_lookBy_71 rfl ?_
    refine R_bipush dX8_lookBy_73 (v := 15) (by decide) ?_
    rcases it_split H with ⟨c10, H⟩ | ⟨c10, H⟩
    · refine R_icmp_le_t dX8_lookBy_75 (tgt := 83) (by decide) c10 ?_
      refine R_iload dX8_lookBy_83 rfl ?_
      refine R_imul dX8_lookBy_85 ?_
      refine R_iadd dX8_lookBy_86 ?_
      refine R_iload dX8_lookBy_87 rfl ?_
      refine R_bipush dX8_lookBy_89 (v := 9) (by decide) ?_
      rcases it_split H with ⟨c11, H⟩ | ⟨c11, H⟩
      · refine R_icmp_le_t dX8_lookBy_91 (tgt := 99) (by decide) c11 ?_
        refine R_iload dX8_lookBy_99 rfl ?_
        refine R_iadd dX8_lookBy_101 ?_
        obtain rfl := Option.some.inj H
        exact R_retI dX8_lookBy_102 rfl (Or.inl rfl)
      · refine R_icmp_le_f dX8_lookBy_91 (tgt := 99) (by decide) c11 ?_
        refine R_bipush dX8_lookBy_94 (v := 9) (by decide) ?_
        refine R_goto dX8_lookBy_96 (tgt := 101) (by decide) ?_
        refine R_iadd dX8_lookBy_101 ?_
        obtain rfl := Option.some.inj H
        exact R_retI dX8_lookBy_102 rfl (Or.inl rfl)
    · refine R_icmp_le_f dX8_lookBy_75 (tgt := 83) (by decide) c10 ?_
      refine R_bipush dX8_lookBy_78 (v := 15) (by decide) ?_
      refine R_goto dX8_lookBy_80 (tgt := 85) (by decide) ?_
      refine R_imul dX8_lookBy_85 ?_
      refine R_iadd dX8_lookBy_86 ?_
      refine R_iload dX8_lookBy_87 rfl ?_
      refine R_bipush dX8_lookBy_89 (v := 9) (by decide) ?_
      rcases it_split H with ⟨c12, H⟩ | ⟨c12, H⟩
      · refine R_icmp_le_t dX8_lookBy_91 (tgt := 99) (by decide) c12 ?_
        refine R_iload dX8_lookBy_99 rfl ?_
        refine R_iadd dX8_lookBy_101 ?_
        obtain rfl := Option.some.inj H
        exact R_retI dX8_lookBy_102 rfl (Or.inl rfl)
      · refine R_icmp_le_f dX8_lookBy_91 (tgt := 99) (by decide) c12 ?_
        refine R_bipush dX8_lookBy_94 (v := 9) (by decide) ?_
        refine R_goto dX8_lookBy_96 (tgt := 101) (by decide) ?_
        refine R_iadd dX8_lookBy_101 ?_
        obtain rfl := Option.some.inj H
        exact R_retI dX8_lookBy_102 rfl (Or.inl rfl)

set_option maxRecDepth 100000 in
set_option maxHeartbeats 4000000 in
theorem tX8_lookAt {h : aH} {x1 : Int32} {x2 : Int32} {r : Int32} (H : fX8_lookAt h x1 x2 = some r) : Ev mX8_lookAt [.ref 54, .int x1, .int x2] h (some (.int r)) h := by
  unfold fX8_lookAt at H
  refine Ev_of (sp := (0, fun _ => 0)) oX8_lookAt nlX8 (Nat.le_of_ble_eq_true rfl) (ls0 := [.ref 54, .int x1, .int x2]) rfl ?_
  refine R_aload_n dX8_lookAt_0 rfl rfl ?_
  refine R_iload_n dX8_lookAt_1 rfl rfl ?_
  refine R_iload_n dX8_lookAt_2 rfl rfl ?_
  refine R_aload_n dX8_lookAt_3 rfl rfl ?_
  refine R_iload_n dX8_lookAt_4 rfl rfl ?_
  refine R_bipush dX8_lookAt_5 (v := 12) (by decide) ?_
  refine R_idiv dX8_lookAt_7 (by decide) ?_
  obtain ⟨r2, e1, H⟩ := bn_some H
  refine R_cV dX8_lookAt_8 lvX8_185 ⟨Nat.le_of_ble_eq_true rfl, Nat.le_of_ble_eq_true rfl⟩ (r := 54) rfl (av := [.int (x2 / 12)]) (st := [.int x2, .int x1, .ref 54]) rfl rfl (Nat.le_of_ble_eq_true rfl) (tX8_rainOf e1) ?_
  obtain ⟨r4, e3, H⟩ := bn_some H
  refine R_cV dX8_lookAt_11 lvX8_199 ⟨Nat.le_of_ble_eq_true rfl, Nat.le_of_ble_eq_true rfl⟩ (r := 54) rfl (av := [.int x1, .int x2, .int r2]) (st := []) rfl rfl (Nat.le_of_ble_eq_true rfl) (tX8_lookBy e3) ?_
  obtain rfl := Option.some.inj H
  exact R_retI dX8_lookAt_14 rfl (Or.inl rfl)

set_option maxRecDepth 100000 in
set_option maxHeartbeats 4000000 in
theorem tX8_hourOf {h : aH} {x1 : Int32} {x2 : Int32} {r : Int32} (H : fX8_hourOf h x1 x2 = some r) : Ev mX8_hourOf [.ref 54, .int x1, .int x2] h (some (.int r)) h := by
  unfold fX8_hourOf at H
  refine Ev_of (sp := (0, fun _ => 0)) oX8_hourOf nlX8 (Nat.le_of_ble_eq_true rfl) (ls0 := [.ref 54, .int x1, .int x2]) rfl ?_
  refine R_aload_n dX8_hourOf_0 rfl rfl ?_
  refine R_getF dX8_hourOf_1 lfX8_7 rfl rfl (q := 55) rfl ?_
  refine R_bipush dX8_hourOf_4 (v := 12) (by decide) ?_
  refine R_iload_n dX8_hourOf_6 rfl rfl ?_
  refine R_imul dX8_hourOf_7 ?_
  refine R_iload_n dX8_hourOf_8 rfl rfl ?_
  refine R_iadd dX8_hourOf_9 ?_
  obtain ⟨c1, H⟩ := it_some H
  refine R_ildY dX8_hourOf_10 rfl rfl (ck_in c1) (j := tn ((12 * x1) + x2)) rfl (x := h 55 (tn ((12 * x1) + x2))) rfl ?_
  refine R_bipush dX8_hourOf_11 (v := 96) (by decide) ?_
  refine R_iremX dX8_hourOf_13 (by decide) ?_
  obtain rfl := Option.some.inj H
  exact R_retI dX8_hourOf_14 rfl (Or.inl rfl)

set_option maxRecDepth 100000 in
set_option maxHeartbeats 4000000 in
theorem tX8_handOf {h : aH} {x1 : Int32} {x2 : Int32} {r : Int32} (H : fX8_handOf h x1 x2 = some r) : Ev mX8_handOf [.ref 54, .int x1, .int x2] h (some (.int r)) h := by
  unfold fX8_handOf at H
  refine Ev_of (sp := (0, fun _ => 0)) oX8_handOf nlX8 (Nat.le_of_ble_eq_true rfl) (ls0 := [.ref 54, .int x1, .int x2]) rfl ?_
  refine R_aload_n dX8_handOf_0 rfl rfl ?_
  refine R_getF dX8_handOf_1 lfX8_7 rfl rfl (q := 55) rfl ?_
  refine R_bipush dX8_handOf_4 (v := 12) (by decide) ?_
  refine R_iload_n dX8_handOf_6 rfl rfl ?_
  refine R_imul dX8_handOf_7 ?_
  refine R_iload_n dX8_handOf_8 rfl rfl ?_
  refine R_iadd dX8_handOf_9 ?_
  obtain ⟨c1, H⟩ := it_some H
  refine R_ildY dX8_handOf_10 rfl rfl (ck_in c1) (j := tn ((12 * x1) + x2)) rfl (x := h 55 (tn ((12 * x1) + x2))) rfl ?_
  refine R_bipush dX8_handOf_11 (v := 96) (by decide) ?_
  refine R_idiv dX8_handOf_13 (by decide) ?_
  refine R_iconst dX8_handOf_14 (v := 4) (by decide) ?_
  refine R_iremX dX8_handOf_15 (by decide) ?_
  obtain rfl := Option.some.inj H
  exact R_retI dX8_handOf_16 rfl (Or.inl rfl)

set_option maxRecDepth 100000 in
set_option maxHeartbeats 4000000 in
theorem tX8_airOf {h : aH} {x1 : Int32} {x2 : Int32} {r : Int32} (H : fX8_airOf h x1 x2 = some r) : Ev mX8_airOf [.ref 54, .int x1, .int x2] h (some (.int r)) h := by
  unfold fX8_airOf at H
  refine Ev_of (sp := (0, fun _ => 0)) oX8_airOf nlX8 (Nat.le_of_ble_eq_true rfl) (ls0 := [.ref 54, .int x1, .int x2]) rfl ?_
  refine R_aload_n dX8_airOf_0 rfl rfl ?_
  refine R_getF dX8_airOf_1 lfX8_7 rfl rfl (q := 55) rfl ?_
  refine R_bipush dX8_airOf_4 (v := 12) (by decide) ?_
  refine R_iload_n dX8_airOf_6 rfl rfl ?_
  refine R_imul dX8_airOf_7 ?_
  refine R_iload_n dX8_airOf_8 rfl rfl ?_
  refine R_iadd dX8_airOf_9 ?_
  obtain ⟨c1, H⟩ := it_some H
  refine R_ildY dX8_airOf_10 rfl rfl (ck_in c1) (j := tn ((12 * x1) + x2)) rfl (x := h 55 (tn ((12 * x1) + x2))) rfl ?_
  refine R_sipush dX8_airOf_11 (v := 384) (by decide) ?_
  refine R_idiv dX8_airOf_14 (by decide) ?_
  refine R_iconst dX8_airOf_15 (v := 1) (by decide) ?_
  refine R_isub dX8_airOf_16 ?_
  obtain rfl := Option.some.inj H
  exact R_retI dX8_airOf_17 rfl (Or.inl rfl)

set_option maxRecDepth 100000 in
set_option maxHeartbeats 4000000 in
theorem tX8_lookOf {h : aH} {x1 : Int32} {x2 : Int32} {r : Int32} (H : fX8_lookOf h x1 x2 = some r) : Ev mX8_lookOf [.ref 54, .int x1, .int x2] h (some (.int r)) h := by
  unfold fX8_lookOf at H
  refine Ev_of (sp := (0, fun _ => 0)) oX8_lookOf nlX8 (Nat.le_of_ble_eq_true rfl) (ls0 := [.ref 54, .int x1, .int x2, .null]) rfl ?_
  refine R_aload_n dX8_lookOf_0 rfl rfl ?_
  refine R_iload_n dX8_lookOf_1 rfl rfl ?_
  refine R_iload_n dX8_lookOf_2 rfl rfl ?_
  obtain ⟨r2, e1, H⟩ := bn_some H
  refine R_cV dX8_lookOf_3 lvX8_203 ⟨Nat.le_of_ble_eq_true rfl, Nat.le_of_ble_eq_true rfl⟩ (r := 54) rfl (av := [.int x1, .int x2]) (st := []) rfl rfl (Nat.le_of_ble_eq_true rfl) (tX8_airOf e1) ?_
  refine R_istoreN dX8_lookOf_6 rfl (by decide) rfl (ls2 := [.ref 54, .int x1, .int x2, .int r2]) rfl ?_
  refine R_aload_n dX8_lookOf_7 rfl rfl ?_
  refine R_aload_n dX8_lookOf_8 rfl rfl ?_
  refine R_iload_n dX8_lookOf_9 rfl rfl ?_
  refine R_iload_n dX8_lookOf_10 rfl rfl ?_
  obtain ⟨r4, e3, H⟩ := bn_some H
  refine R_cV dX8_lookOf_11 lvX8_206 ⟨Nat.le_of_ble_eq_true rfl, Nat.le_of_ble_eq_true rfl⟩ (r := 54) rfl (av := [.int x1, .int x2]) (st := [.ref 54]) rfl rfl (Nat.le_of_ble_eq_true rfl) (tX8_handOf e3) ?_
  refine R_iload_n dX8_lookOf_14 rfl rfl ?_
  rcases it_split H with ⟨c5, H⟩ | ⟨c5, H⟩
  · refine R_if_ge_t dX8_lookOf_15 (tgt := 27) (by decide) c5 ?_
    refine R_iload_n dX8_lookOf_27 rfl rfl ?_
    obtain ⟨r7, e6, H⟩ := bn_some H
    refine R_cV dX8_lookOf_28 lvX8_212 ⟨Nat.le_of_ble_eq_true rfl, Nat.le_of_ble_eq_true rfl⟩ (r := 54) rfl (av := [.int r4, .int r2]) (st := []) rfl rfl (Nat.le_of_ble_eq_true rfl) (tX8_lookAt e6) ?_
    obtain rfl := Option.some.inj H
    exact R_retI dX8_lookOf_31 rfl (Or.inl rfl)
  · refine R_if_ge_f dX8_lookOf_15 (tgt := 27) (by decide) c5 ?_
    refine R_aload_n dX8_lookOf_18 rfl rfl ?_
    refine R_iload_n dX8_lookOf_19 rfl rfl ?_
    refine R_iload_n dX8_lookOf_20 rfl rfl ?_
    obtain ⟨r9, e8, H⟩ := bn_some H
    refine R_cV dX8_lookOf_21 lvX8_209 ⟨Nat.le_of_ble_eq_true rfl, Nat.le_of_ble_eq_true rfl⟩ (r := 54) rfl (av := [.int x1, .int x2]) (st := [.int r4, .ref 54]) rfl rfl (Nat.le_of_ble_eq_true rfl) (tX8_hourOf e8) ?_
    refine R_goto dX8_lookOf_24 (tgt := 28) (by decide) ?_
    obtain ⟨r11, e10, H⟩ := bn_some H
    refine R_cV dX8_lookOf_28 lvX8_212 ⟨Nat.le_of_ble_eq_true rfl, Nat.le_of_ble_eq_true rfl⟩ (r := 54) rfl (av := [.int r4, .int r9]) (st := []) rfl rfl (Nat.le_of_ble_eq_true rfl) (tX8_lookAt e10) ?_
    obtain rfl := Option.some.inj H
    exact R_retI dX8_lookOf_31 rfl (Or.inl rfl)

set_option maxRecDepth 100000 in
set_option maxHeartbeats 4000000 in
theorem tX8_forgedIn_L4 {sp : Nat × (Nat → Int32)} {K : Int32 → Option Int32} {h : aH} {x1 : Int32} (hK : ∀ (y2 : Int32) (r : Int32), K y2 = some r → Rn sp mX8_forgedIn 43 [.null, .null, .int y2, .null] [] h (some (.int r)) h) : ∀ (n : Nat) (x2 x3 : Int32) (r : Int32), fX8_forgedIn_L4 K h x1 n x2 x3 = some r → Rn sp mX8_forgedIn 4 [.ref 54, .int x1, .int x2, .int x3] [] h (some (.int r)) h := by
  intro n
  induction n with
  | zero =>
    intro x2 x3 r H
    rw [fX8_forgedIn_L4] at H
    cases H
  | succ n ih =>
    intro x2 x3 r H
    rw [fX8_forgedIn_L4] at H
    refine R_iload_n dX8_forgedIn_4 rfl rfl ?_
    refine R_aload_n dX8_forgedIn_5 rfl rfl ?_
    refine R_getF dX8_forgedIn_6 lfX8_7 rfl rfl (q := 55) rfl ?_
    refine R_bipush dX8_forgedIn_9 (v := 48) (by decide) ?_
    refine R_iload_n dX8_forgedIn_11 rfl rfl ?_
    refine R_iadd dX8_forgedIn_12 ?_
    obtain ⟨c1, H⟩ := it_some H
    refine R_ildY dX8_forgedIn_13 rfl rfl (ck_in c1) (j := tn (48 + x1)) rfl (x := h 55 (tn (48 + x1))) rfl ?_
    rcases it_split H with ⟨c2, H⟩ | ⟨c2, H⟩
    · refine R_icmp_ge_t dX8_forgedIn_14 (tgt := 43) (by decide) c2 ?_
      refine R_null (i := 0) (ls2 := [.null, .int x1, .int x2, .int x3]) rfl ?_
      refine R_null (i := 1) (ls2 := [.null, .null, .int x2, .int x3]) rfl ?_
      refine R_null (i := 3) (ls2 := [.null, .null, .int x2, .null]) rfl ?_
      exact hK _ _ H
    · refine R_icmp_ge_f dX8_forgedIn_14 (tgt := 43) (by decide) c2 ?_
      refine R_iload_n dX8_forgedIn_17 rfl rfl ?_
      refine R_aload_n dX8_forgedIn_18 rfl rfl ?_
      refine R_iload_n dX8_forgedIn_19 rfl rfl ?_
      refine R_iload_n dX8_forgedIn_20 rfl rfl ?_
      obtain ⟨r4, e3, H⟩ := bn_some H
      refine R_cV dX8_forgedIn_21 lvX8_203 ⟨Nat.le_of_ble_eq_true rfl, Nat.le_of_ble_eq_true rfl⟩ (r := 54) rfl (av := [.int x1, .int x3]) (st := [.int x2]) rfl rfl (Nat.le_of_ble_eq_true rfl) (tX8_airOf e3) ?_
      rcases it_split H with ⟨c5, H⟩ | ⟨c5, H⟩
      · refine R_if_lt_t dX8_forgedIn_24 (tgt := 31) (by decide) c5 ?_
        refine R_iconst dX8_forgedIn_31 (v := 0) (by decide) ?_
        obtain ⟨r7, e6, H⟩ := bn_some H
        refine R_cS dX8_forgedIn_32 lvX8_172 ⟨Nat.le_of_ble_eq_true rfl, Nat.le_of_ble_eq_true rfl⟩ (av := [.int 0]) (st := [.int x2]) rfl rfl (Nat.le_of_ble_eq_true rfl) (tX8_one e6) ?_
        refine R_iadd dX8_forgedIn_35 ?_
        refine R_istoreN dX8_forgedIn_36 rfl (by decide) rfl (ls2 := [.ref 54, .int x1, .int (x2 + r7), .int x3]) rfl ?_
        refine R_iincW dX8_forgedIn_37 rfl (v := x3 + 1) rfl (by decide) rfl (ls2 := [.ref 54, .int x1, .int (x2 + r7), .int (x3 + 1)]) rfl ?_
        refine R_goto dX8_forgedIn_40 (tgt := 4) (by decide) ?_
        exact ih _ _ _ H
      · refine R_if_lt_f dX8_forgedIn_24 (tgt := 31) (by decide) c5 ?_
        refine R_iconst dX8_forgedIn_27 (v := 1) (by decide) ?_
        refine R_goto dX8_forgedIn_28 (tgt := 32) (by decide) ?_
        obtain ⟨r9, e8, H⟩ := bn_some H
        refine R_cS dX8_forgedIn_32 lvX8_172 ⟨Nat.le_of_ble_eq_true rfl, Nat.le_of_ble_eq_true rfl⟩ (av := [.int 1]) (st := [.int x2]) rfl rfl (Nat.le_of_ble_eq_true rfl) (tX8_one e8) ?_
        refine R_iadd dX8_forgedIn_35 ?_
        refine R_istoreN dX8_forgedIn_36 rfl (by decide) rfl (ls2 := [.ref 54, .int x1, .int (x2 + r9), .int x3]) rfl ?_
        refine R_iincW dX8_forgedIn_37 rfl (v := x3 + 1) rfl (by decide) rfl (ls2 := [.ref 54, .int x1, .int (x2 + r9), .int (x3 + 1)]) rfl ?_
        refine R_goto dX8_forgedIn_40 (tgt := 4) (by decide) ?_
        exact ih _ _ _ H

set_option maxRecDepth 100000 in
set_option maxHeartbeats 4000000 in
theorem tX8_forgedIn {h : aH} {x1 : Int32} {r : Int32} (H : fX8_forgedIn h x1 = some r) : Ev mX8_forgedIn [.ref 54, .int x1] h (some (.int r)) h := by
  unfold fX8_forgedIn at H
  refine Ev_of (sp := (0, fun _ => 0)) oX8_forgedIn nlX8 (Nat.le_of_ble_eq_true rfl) (ls0 := [.ref 54, .int x1, .null, .null]) rfl ?_
  refine R_iconst dX8_forgedIn_0 (v := 0) (by decide) ?_
  refine R_istoreN dX8_forgedIn_1 rfl (by decide) rfl (ls2 := [.ref 54, .int x1, .int 0, .null]) rfl ?_
  refine R_iconst dX8_forgedIn_2 (v := 0) (by decide) ?_
  refine R_istoreN dX8_forgedIn_3 rfl (by decide) rfl (ls2 := [.ref 54, .int x1, .int 0, .int 0]) rfl ?_
  refine tX8_forgedIn_L4 (fun z10 r H => ?_) _ _ _ _ H
  refine R_iload_n dX8_forgedIn_43 rfl rfl ?_
  obtain rfl := Option.some.inj H
  exact R_retI dX8_forgedIn_44 rfl (Or.inl rfl)

set_option maxRecDepth 100000 in
set_option maxHeartbeats 4000000 in
theorem tX8_letter {h : aH} {x1 : Int32} {x2 : Int32} {x3 : Int32} {r : Int32} (H : fX8_letter h x1 x2 x3 = some r) : Ev mX8_letter [.ref 54, .int x1, .int x2, .int x3] h (some (.int r)) h := by
  unfold fX8_letter at H
  refine Ev_of (sp := (0, fun _ => 0)) oX8_letter nlX8 (Nat.le_of_ble_eq_true rfl) (ls0 := [.ref 54, .int x1, .int x2, .int x3]) rfl ?_
  refine R_aload_n dX8_letter_0 rfl rfl ?_
  refine R_iload_n dX8_letter_1 rfl rfl ?_
  obtain ⟨r2, e1, H⟩ := bn_some H
  refine R_cV dX8_letter_2 lvX8_166 ⟨Nat.le_of_ble_eq_true rfl, Nat.le_of_ble_eq_true rfl⟩ (r := 54) rfl (av := [.int x1]) (st := []) rfl rfl (Nat.le_of_ble_eq_true rfl) (tX8_isPaper e1) ?_
  rcases it_split H with ⟨c3, H⟩ | ⟨c3, H⟩
  · refine R_if_eq_t dX8_letter_5 (tgt := 22) (by decide) c3 ?_
    refine R_ldc dX8_letter_22 lcX8_198 ?_
    obtain rfl := Option.some.inj H
    exact R_retI dX8_letter_24 rfl (Or.inl rfl)
  · refine R_if_eq_f dX8_letter_5 (tgt := 22) (by decide) c3 ?_
    refine R_iload_n dX8_letter_8 rfl rfl ?_
    refine R_iconst dX8_letter_9 (v := (-1)) (by decide) ?_
    rcases it_split H with ⟨c4, H⟩ | ⟨c4, H⟩
    · refine R_icmp_eq_t dX8_letter_10 (tgt := 25) (by decide) c4 ?_
      refine R_iload_n dX8_letter_25 rfl rfl ?_
      refine R_iconst dX8_letter_26 (v := (-1)) (by decide) ?_
      refine R_icmp_ne_f dX8_letter_27 (tgt := 62) (by decide) c4 ?_
      refine R_iload_n dX8_letter_30 rfl rfl ?_
      rcases it_split H with ⟨c5, H⟩ | ⟨c5, H⟩
      · refine R_if_ne_f dX8_letter_31 (tgt := 46) (by decide) c5 ?_
        refine R_aload_n dX8_letter_34 rfl rfl ?_
        refine R_getF dX8_letter_35 lfX8_7 rfl rfl (q := 55) rfl ?_
        refine R_bipush dX8_letter_38 (v := 48) (by decide) ?_
        refine R_iload_n dX8_letter_40 rfl rfl ?_
        refine R_iadd dX8_letter_41 ?_
        obtain ⟨c6, H⟩ := it_some H
        refine R_ildY dX8_letter_42 rfl rfl (ck_in c6) (j := tn (48 + x1)) rfl (x := h 55 (tn (48 + x1))) rfl ?_
        refine R_goto dX8_letter_43 (tgt := 61) (by decide) ?_
        obtain rfl := Option.some.inj H
        exact R_retI dX8_letter_61 rfl (Or.inl rfl)
      · refine R_if_ne_t dX8_letter_31 (tgt := 46) (by decide) c5 ?_
        refine R_iload_n dX8_letter_46 rfl rfl ?_
        refine R_iconst dX8_letter_47 (v := 1) (by decide) ?_
        rcases it_split H with ⟨c7, H⟩ | ⟨c7, H⟩
        · refine R_icmp_ne_f dX8_letter_48 (tgt := 59) (by decide) c7 ?_
          refine R_aload_n dX8_letter_51 rfl rfl ?_
          refine R_iload_n dX8_letter_52 rfl rfl ?_
          obtain ⟨r9, e8, H⟩ := bn_some H
          refine R_cV dX8_letter_53 lvX8_219 ⟨Nat.le_of_ble_eq_true rfl, Nat.le_of_ble_eq_true rfl⟩ (r := 54) rfl (av := [.int x1]) (st := []) rfl rfl (Nat.le_of_ble_eq_true rfl) (tX8_forgedIn e8) ?_
          refine R_goto dX8_letter_56 (tgt := 61) (by decide) ?_
          obtain rfl := Option.some.inj H
          exact R_retI dX8_letter_61 rfl (Or.inl rfl)
        · refine R_icmp_ne_t dX8_letter_48 (tgt := 59) (by decide) c7 ?_
          refine R_ldc dX8_letter_59 lcX8_75 ?_
          obtain rfl := Option.some.inj H
          exact R_retI dX8_letter_61 rfl (Or.inl rfl)
    · refine R_icmp_eq_f dX8_letter_10 (tgt := 25) (by decide) c4 ?_
      refine R_aload_n dX8_letter_13 rfl rfl ?_
      refine R_iload_n dX8_letter_14 rfl rfl ?_
      refine R_iload_n dX8_letter_15 rfl rfl ?_
      obtain ⟨r11, e10, H⟩ := bn_some H
      refine R_cV dX8_letter_16 lvX8_215 ⟨Nat.le_of_ble_eq_true rfl, Nat.le_of_ble_eq_true rfl⟩ (r := 54) rfl (av := [.int x1, .int x2]) (st := []) rfl rfl (Nat.le_of_ble_eq_true rfl) (tX8_isLetter e10) ?_
      rcases it_split H with ⟨c12, H⟩ | ⟨c12, H⟩
      · refine R_if_ne_f dX8_letter_19 (tgt := 25) (by decide) c12 ?_
        refine R_ldc dX8_letter_22 lcX8_198 ?_
        obtain rfl := Option.some.inj H
        exact R_retI dX8_letter_24 rfl (Or.inl rfl)
      · refine R_if_ne_t dX8_letter_19 (tgt := 25) (by decide) c12 ?_
        refine R_iload_n dX8_letter_25 rfl rfl ?_
        refine R_iconst dX8_letter_26 (v := (-1)) (by decide) ?_
        refine R_icmp_ne_t dX8_letter_27 (tgt := 62) (by decide) c4 ?_
        refine R_iload_n dX8_letter_62 rfl rfl ?_
        rcases it_split H with ⟨c13, H⟩ | ⟨c13, H⟩
        · refine R_tableIn dX8_letter_63 (by rw [c13]; decide) (by rw [c13]; decide) (off := 33) (by rw [c13]; decide) (tgt := 96) (by decide) ?_
          refine R_aload_n dX8_letter_96 rfl rfl ?_
          refine R_iload_n dX8_letter_97 rfl rfl ?_
          refine R_iload_n dX8_letter_98 rfl rfl ?_
          obtain ⟨r15, e14, H⟩ := bn_some H
          refine R_cV dX8_letter_99 lvX8_222 ⟨Nat.le_of_ble_eq_true rfl, Nat.le_of_ble_eq_true rfl⟩ (r := 54) rfl (av := [.int x1, .int x2]) (st := []) rfl rfl (Nat.le_of_ble_eq_true rfl) (tX8_lookOf e14) ?_
          obtain rfl := Option.some.inj H
          exact R_retI dX8_letter_102 rfl (Or.inl rfl)
        · rcases it_split H with ⟨c16, H⟩ | ⟨c16, H⟩
          · refine R_tableIn dX8_letter_63 (by rw [c16]; decide) (by rw [c16]; decide) (off := 40) (by rw [c16]; decide) (tgt := 103) (by decide) ?_
            refine R_aload_n dX8_letter_103 rfl rfl ?_
            refine R_iload_n dX8_letter_104 rfl rfl ?_
            refine R_iload_n dX8_letter_105 rfl rfl ?_
            obtain ⟨r18, e17, H⟩ := bn_some H
            refine R_cV dX8_letter_106 lvX8_209 ⟨Nat.le_of_ble_eq_true rfl, Nat.le_of_ble_eq_true rfl⟩ (r := 54) rfl (av := [.int x1, .int x2]) (st := []) rfl rfl (Nat.le_of_ble_eq_true rfl) (tX8_hourOf e17) ?_
            obtain rfl := Option.some.inj H
            exact R_retI dX8_letter_109 rfl (Or.inl rfl)
          · rcases it_split H with ⟨c19, H⟩ | ⟨c19, H⟩
            · refine R_tableIn dX8_letter_63 (by rw [c19]; decide) (by rw [c19]; decide) (off := 47) (by rw [c19]; decide) (tgt := 110) (by decide) ?_
              refine R_aload_n dX8_letter_110 rfl rfl ?_
              refine R_iload_n dX8_letter_111 rfl rfl ?_
              refine R_iload_n dX8_letter_112 rfl rfl ?_
              obtain ⟨r21, e20, H⟩ := bn_some H
              refine R_cV dX8_letter_113 lvX8_206 ⟨Nat.le_of_ble_eq_true rfl, Nat.le_of_ble_eq_true rfl⟩ (r := 54) rfl (av := [.int x1, .int x2]) (st := []) rfl rfl (Nat.le_of_ble_eq_true rfl) (tX8_handOf e20) ?_
              obtain rfl := Option.some.inj H
              exact R_retI dX8_letter_116 rfl (Or.inl rfl)
            · rcases it_split H with ⟨c22, H⟩ | ⟨c22, H⟩
              · refine R_tableIn dX8_letter_63 (by rw [c22]; decide) (by rw [c22]; decide) (off := 54) (by rw [c22]; decide) (tgt := 117) (by decide) ?_
                refine R_aload_n dX8_letter_117 rfl rfl ?_
                refine R_getF dX8_letter_118 lfX8_48 rfl rfl (q := 66) rfl ?_
                refine R_iload_n dX8_letter_121 rfl rfl ?_
                obtain ⟨c23, H⟩ := it_some H
                refine R_ildY dX8_letter_122 rfl rfl (ck_in c23) (j := tn x1) rfl (x := h 66 (tn x1)) rfl ?_
                refine R_iload_n dX8_letter_123 rfl rfl ?_
                refine R_ishr dX8_letter_124 ?_
                refine R_iconst dX8_letter_125 (v := 1) (by decide) ?_
                refine R_iand dX8_letter_126 ?_
                obtain rfl := Option.some.inj H
                exact R_retI dX8_letter_127 rfl (Or.inl rfl)
              · rcases it_split H with ⟨c24, H⟩ | ⟨c24, H⟩
                · refine R_tableIn dX8_letter_63 (by rw [c24]; decide) (by rw [c24]; decide) (off := 65) (by rw [c24]; decide) (tgt := 128) (by decide) ?_
                  refine R_aload_n dX8_letter_128 rfl rfl ?_
                  refine R_iload_n dX8_letter_129 rfl rfl ?_
                  refine R_iload_n dX8_letter_130 rfl rfl ?_
                  obtain ⟨r26, e25, H⟩ := bn_some H
                  refine R_cV dX8_letter_131 lvX8_203 ⟨Nat.le_of_ble_eq_true rfl, Nat.le_of_ble_eq_true rfl⟩ (r := 54) rfl (av := [.int x1, .int x2]) (st := []) rfl rfl (Nat.le_of_ble_eq_true rfl) (tX8_airOf e25) ?_
                  rcases it_split H with ⟨c27, H⟩ | ⟨c27, H⟩
                  · refine R_if_lt_t dX8_letter_134 (tgt := 141) (by decide) c27 ?_
                    refine R_iconst dX8_letter_141 (v := 0) (by decide) ?_
                    obtain ⟨r29, e28, H⟩ := bn_some H
                    refine R_cS dX8_letter_142 lvX8_172 ⟨Nat.le_of_ble_eq_true rfl, Nat.le_of_ble_eq_true rfl⟩ (av := [.int 0]) (st := []) rfl rfl (Nat.le_of_ble_eq_true rfl) (tX8_one e28) ?_
                    obtain rfl := Option.some.inj H
                    exact R_retI dX8_letter_145 rfl (Or.inl rfl)
                  · refine R_if_lt_f dX8_letter_134 (tgt := 141) (by decide) c27 ?_
                    refine R_iconst dX8_letter_137 (v := 1) (by decide) ?_
                    refine R_goto dX8_letter_138 (tgt := 142) (by decide) ?_
                    obtain ⟨r31, e30, H⟩ := bn_some H
                    refine R_cS dX8_letter_142 lvX8_172 ⟨Nat.le_of_ble_eq_true rfl, Nat.le_of_ble_eq_true rfl⟩ (av := [.int 1]) (st := []) rfl rfl (Nat.le_of_ble_eq_true rfl) (tX8_one e30) ?_
                    obtain rfl := Option.some.inj H
                    exact R_retI dX8_letter_145 rfl (Or.inl rfl)
                · have nc13 : Int32.toInt x3 ≠ 0 := ti_ne c13
                  have nc16 : Int32.toInt x3 ≠ 1 := ti_ne c16
                  have nc19 : Int32.toInt x3 ≠ 2 := ti_ne c19
                  have nc22 : Int32.toInt x3 ≠ 3 := ti_ne c22
                  have nc24 : Int32.toInt x3 ≠ 4 := ti_ne c24
                  refine R_tableOut dX8_letter_63 (x := x3) (by omega) (tgt := 146) (by decide) ?_
                  refine R_ldc dX8_letter_146 lcX8_75 ?_
                  obtain rfl := Option.some.inj H
                  exact R_retI dX8_letter_148 rfl (Or.inl rfl)

set_option maxRecDepth 100000 in
set_option maxHeartbeats 4000000 in
theorem tX8_copy_L2 {sp : Nat × (Nat → Int32)} {K : aH → Option aH} {x1 : Int32} {x2 : Int32} (hK : ∀ (hk : aH) (h2 : aH), K hk = some h2 → Rn sp mX8_copy 30 [.null, .null, .null, .null] [] hk none h2) : ∀ (n : Nat) (h : aH) (x3 : Int32) (h2 : aH), fX8_copy_L2 K x1 x2 n h x3 = some h2 → Rn sp mX8_copy 2 [.ref 54, .int x1, .int x2, .int x3] [] h none h2 := by
  intro n
  induction n with
  | zero =>
    intro h x3 h2 H
    rw [fX8_copy_L2] at H
    cases H
  | succ n ih =>
    intro h x3 h2 H
    rw [fX8_copy_L2] at H
    refine R_iload_n dX8_copy_2 rfl rfl ?_
    refine R_bipush dX8_copy_3 (v := 54) (by decide) ?_
    rcases it_split H with ⟨c1, H⟩ | ⟨c1, H⟩
    · refine R_icmp_ge_t dX8_copy_5 (tgt := 30) (by decide) c1 ?_
      refine R_null (i := 0) (ls2 := [.null, .int x1, .int x2, .int x3]) rfl ?_
      refine R_null (i := 1) (ls2 := [.null, .null, .int x2, .int x3]) rfl ?_
      refine R_null (i := 2) (ls2 := [.null, .null, .null, .int x3]) rfl ?_
      refine R_null (i := 3) (ls2 := [.null, .null, .null, .null]) rfl ?_
      exact hK _ _ H
    · refine R_icmp_ge_f dX8_copy_5 (tgt := 30) (by decide) c1 ?_
      refine R_aload_n dX8_copy_8 rfl rfl ?_
      refine R_getF dX8_copy_9 lfX8_7 rfl rfl (q := 55) rfl ?_
      refine R_iload_n dX8_copy_12 rfl rfl ?_
      refine R_iload_n dX8_copy_13 rfl rfl ?_
      refine R_iadd dX8_copy_14 ?_
      refine R_aload_n dX8_copy_15 rfl rfl ?_
      refine R_getF dX8_copy_16 lfX8_7 rfl rfl (q := 55) rfl ?_
      refine R_iload_n dX8_copy_19 rfl rfl ?_
      refine R_iload_n dX8_copy_20 rfl rfl ?_
      refine R_iadd dX8_copy_21 ?_
      obtain ⟨c2, H⟩ := it_some H
      refine R_ildY dX8_copy_22 rfl rfl (ck_in c2) (j := tn (x1 + x3)) rfl (x := h 55 (tn (x1 + x3))) rfl ?_
      obtain ⟨c3, H⟩ := it_some H
      refine R_iastX dX8_copy_23 rfl rfl (ck_in c3) (j := tn (x2 + x3)) rfl ?_
      refine R_iincW dX8_copy_24 rfl (v := x3 + 1) rfl (by decide) rfl (ls2 := [.ref 54, .int x1, .int x2, .int (x3 + 1)]) rfl ?_
      refine R_goto dX8_copy_27 (tgt := 2) (by decide) ?_
      exact ih _ _ _ H

set_option maxRecDepth 100000 in
set_option maxHeartbeats 4000000 in
theorem tX8_copy {h : aH} {x1 : Int32} {x2 : Int32} {h2 : aH} (H : fX8_copy h x1 x2 = some h2) : Ev mX8_copy [.ref 54, .int x1, .int x2] h none h2 := by
  unfold fX8_copy at H
  refine Ev_of (sp := (0, fun _ => 0)) oX8_copy nlX8 (Nat.le_of_ble_eq_true rfl) (ls0 := [.ref 54, .int x1, .int x2, .null]) rfl ?_
  refine R_iconst dX8_copy_0 (v := 0) (by decide) ?_
  refine R_istoreN dX8_copy_1 rfl (by decide) rfl (ls2 := [.ref 54, .int x1, .int x2, .int 0]) rfl ?_
  refine tX8_copy_L2 (fun h4 h2 H => ?_) _ _ _ _ H
  obtain rfl := Option.some.inj H
  exact R_ret (o := none) dX8_copy_30 rfl

set_option maxRecDepth 100000 in
set_option maxHeartbeats 4000000 in
theorem tX8_remember_L11 {sp : Nat × (Nat → Int32)} {K : aH → Option aH} (hK : ∀ (hk : aH) (h2 : aH), K hk = some h2 → Rn sp mX8_remember 45 [.ref 54, .null] [] hk none h2) : ∀ (n : Nat) (h : aH) (x1 : Int32) (h2 : aH), fX8_remember_L11 K n h x1 = some h2 → Rn sp mX8_remember 11 [.ref 54, .int x1] [] h none h2 := by
  intro n
  induction n with
  | zero =>
    intro h x1 h2 H
    rw [fX8_remember_L11] at H
    cases H
  | succ n ih =>
    intro h x1 h2 H
    rw [fX8_remember_L11] at H
    refine R_iload_n dX8_remember_11 rfl rfl ?_
    refine R_bipush dX8_remember_12 (v := 30) (by decide) ?_
    rcases it_split H with ⟨c2, H⟩ | ⟨c2, H⟩
    · refine R_icmp_ge_t dX8_remember_14 (tgt := 45) (by decide) c2 ?_
      refine R_null (i := 1) (ls2 := [.ref 54, .null]) rfl ?_
      exact hK _ _ H
    · refine R_icmp_ge_f dX8_remember_14 (tgt := 45) (by decide) c2 ?_
      refine R_aload_n dX8_remember_17 rfl rfl ?_
      refine R_sipush dX8_remember_18 (v := 162) (by decide) ?_
      refine R_bipush dX8_remember_21 (v := 54) (by decide) ?_
      refine R_iload_n dX8_remember_23 rfl rfl ?_
      refine R_imul dX8_remember_24 ?_
      refine R_iadd dX8_remember_25 ?_
      refine R_sipush dX8_remember_26 (v := 162) (by decide) ?_
      refine R_bipush dX8_remember_29 (v := 54) (by decide) ?_
      refine R_iload_n dX8_remember_31 rfl rfl ?_
      refine R_iconst dX8_remember_32 (v := 1) (by decide) ?_
      refine R_isub dX8_remember_33 ?_
      refine R_imul dX8_remember_34 ?_
      refine R_iadd dX8_remember_35 ?_
      obtain ⟨h4, e3, H⟩ := bn_some H
      refine R_cV dX8_remember_36 lvX8_225 ⟨Nat.le_of_ble_eq_true rfl, Nat.le_of_ble_eq_true rfl⟩ (r := 54) rfl (av := [.int (162 + (54 * x1)), .int (162 + (54 * (x1 - 1)))]) (st := []) rfl rfl (Nat.le_of_ble_eq_true rfl) (tX8_copy e3) ?_
      refine R_iincW dX8_remember_39 rfl (v := x1 + 1) rfl (by decide) rfl (ls2 := [.ref 54, .int (x1 + 1)]) rfl ?_
      refine R_goto dX8_remember_42 (tgt := 11) (by decide) ?_
      exact ih _ _ _ H

set_option maxRecDepth 100000 in
set_option maxHeartbeats 4000000 in
theorem tX8_remember {h : aH} {h2 : aH} (H : fX8_remember h = some h2) : Ev mX8_remember [.ref 54] h none h2 := by
  unfold fX8_remember at H
  refine Ev_of (sp := (0, fun _ => 0)) oX8_remember nlX8 (Nat.le_of_ble_eq_true rfl) (ls0 := [.ref 54, .null]) rfl ?_
  refine R_aload_n dX8_remember_0 rfl rfl ?_
  refine R_getX dX8_remember_1 lfX8_163 rfl rfl (x := h 54 25) rfl ?_
  refine R_bipush dX8_remember_4 (v := 30) (by decide) ?_
  rcases it_split H with ⟨c1, H⟩ | ⟨c1, H⟩
  · refine R_icmp_ne_f dX8_remember_6 (tgt := 55) (by decide) c1 ?_
    refine R_iconst dX8_remember_9 (v := 1) (by decide) ?_
    refine R_istoreN dX8_remember_10 rfl (by decide) rfl (ls2 := [.ref 54, .int 1]) rfl ?_
    refine tX8_remember_L11 (fun h5 h2 H => ?_) _ _ _ _ H
    refine R_aload_n dX8_remember_45 rfl rfl ?_
    refine R_dup dX8_remember_46 rfl ?_
    refine R_getX dX8_remember_47 lfX8_163 rfl rfl (x := h5 54 25) rfl ?_
    refine R_iconst dX8_remember_50 (v := 1) (by decide) ?_
    refine R_isub dX8_remember_51 ?_
    refine R_putI dX8_remember_52 lfX8_163 rfl rfl ?_
    refine R_aload_n dX8_remember_55 rfl rfl ?_
    refine R_iconst dX8_remember_56 (v := 0) (by decide) ?_
    refine R_sipush dX8_remember_57 (v := 162) (by decide) ?_
    refine R_bipush dX8_remember_60 (v := 54) (by decide) ?_
    refine R_aload_n dX8_remember_62 rfl rfl ?_
    refine R_getX dX8_remember_63 lfX8_163 rfl rfl (x := (h5 54 25) - 1) rfl ?_
    refine R_imul dX8_remember_66 ?_
    refine R_iadd dX8_remember_67 ?_
    obtain ⟨h7, e6, H⟩ := bn_some H
    refine R_cV dX8_remember_68 lvX8_225 ⟨Nat.le_of_ble_eq_true rfl, Nat.le_of_ble_eq_true rfl⟩ (r := 54) rfl (av := [.int 0, .int (162 + (54 * ((h5 54 25) - 1)))]) (st := []) rfl rfl (Nat.le_of_ble_eq_true rfl) (tX8_copy e6) ?_
    refine R_aload_n dX8_remember_71 rfl rfl ?_
    refine R_dup dX8_remember_72 rfl ?_
    refine R_getX dX8_remember_73 lfX8_163 rfl rfl (x := h7 54 25) rfl ?_
    refine R_iconst dX8_remember_76 (v := 1) (by decide) ?_
    refine R_iadd dX8_remember_77 ?_
    refine R_putI dX8_remember_78 lfX8_163 rfl rfl ?_
    obtain rfl := Option.some.inj H
    exact R_ret (o := none) dX8_remember_81 rfl
  · refine R_icmp_ne_t dX8_remember_6 (tgt := 55) (by decide) c1 ?_
    refine R_aload_n dX8_remember_55 rfl rfl ?_
    refine R_iconst dX8_remember_56 (v := 0) (by decide) ?_
    refine R_sipush dX8_remember_57 (v := 162) (by decide) ?_
    refine R_bipush dX8_remember_60 (v := 54) (by decide) ?_
    refine R_aload_n dX8_remember_62 rfl rfl ?_
    refine R_getX dX8_remember_63 lfX8_163 rfl rfl (x := h 54 25) rfl ?_
    refine R_imul dX8_remember_66 ?_
    refine R_iadd dX8_remember_67 ?_
    obtain ⟨h9, e8, H⟩ := bn_some H
    refine R_cV dX8_remember_68 lvX8_225 ⟨Nat.le_of_ble_eq_true rfl, Nat.le_of_ble_eq_true rfl⟩ (r := 54) rfl (av := [.int 0, .int (162 + (54 * (h 54 25)))]) (st := []) rfl rfl (Nat.le_of_ble_eq_true rfl) (tX8_copy e8) ?_
    refine R_aload_n dX8_remember_71 rfl rfl ?_
    refine R_dup dX8_remember_72 rfl ?_
    refine R_getX dX8_remember_73 lfX8_163 rfl rfl (x := h9 54 25) rfl ?_
    refine R_iconst dX8_remember_76 (v := 1) (by decide) ?_
    refine R_iadd dX8_remember_77 ?_
    refine R_putI dX8_remember_78 lfX8_163 rfl rfl ?_
    obtain rfl := Option.some.inj H
    exact R_ret (o := none) dX8_remember_81 rfl

set_option maxRecDepth 100000 in
set_option maxHeartbeats 4000000 in
theorem tX8_add {h : aH} {x1 : Int32} {x2 : Int32} {x3 : Int32} {x4 : Int32} {r : Int32} {h2 : aH} (H : fX8_add h x1 x2 x3 x4 = some (r, h2)) : Ev mX8_add [.ref 54, .int x1, .int x2, .int x3, .int x4] h (some (.int r)) h2 := by
  unfold fX8_add at H
  refine Ev_of (sp := (0, fun _ => 0)) oX8_add nlX8 (Nat.le_of_ble_eq_true rfl) (ls0 := [.ref 54, .int x1, .int x2, .int x3, .int x4]) rfl ?_
  refine R_aload_n dX8_add_0 rfl rfl ?_
  refine R_iload_n dX8_add_1 rfl rfl ?_
  obtain ⟨r2, e1, H⟩ := bn_some H
  refine R_cV dX8_add_2 lvX8_166 ⟨Nat.le_of_ble_eq_true rfl, Nat.le_of_ble_eq_true rfl⟩ (r := 54) rfl (av := [.int x1]) (st := []) rfl rfl (Nat.le_of_ble_eq_true rfl) (tX8_isPaper e1) ?_
  rcases it_split H with ⟨c3, H⟩ | ⟨c3, H⟩
  · refine R_if_eq_t dX8_add_5 (tgt := 16) (by decide) c3 ?_
    refine R_ldc dX8_add_16 lcX8_198 ?_
    obtain ⟨rfl, rfl⟩ := so2 H
    exact R_retI dX8_add_18 rfl (Or.inl rfl)
  · refine R_if_eq_f dX8_add_5 (tgt := 16) (by decide) c3 ?_
    refine R_aload_n dX8_add_8 rfl rfl ?_
    refine R_iload_n dX8_add_9 rfl rfl ?_
    obtain ⟨r5, e4, H⟩ := bn_some H
    refine R_cV dX8_add_10 lvX8_195 ⟨Nat.le_of_ble_eq_true rfl, Nat.le_of_ble_eq_true rfl⟩ (r := 54) rfl (av := [.int x2]) (st := []) rfl rfl (Nat.le_of_ble_eq_true rfl) (tX8_isHand e4) ?_
    rcases it_split H with ⟨c6, H⟩ | ⟨c6, H⟩
    · refine R_if_ne_f dX8_add_13 (tgt := 19) (by decide) c6 ?_
      refine R_ldc dX8_add_16 lcX8_198 ?_
      obtain ⟨rfl, rfl⟩ := so2 H
      exact R_retI dX8_add_18 rfl (Or.inl rfl)
    · refine R_if_ne_t dX8_add_13 (tgt := 19) (by decide) c6 ?_
      refine R_iload_n dX8_add_19 rfl rfl ?_
      obtain ⟨r8, e7, H⟩ := bn_some H
      refine R_cS dX8_add_20 lvX8_179 ⟨Nat.le_of_ble_eq_true rfl, Nat.le_of_ble_eq_true rfl⟩ (av := [.int x3]) (st := []) rfl rfl (Nat.le_of_ble_eq_true rfl) (tX8_isHour e7) ?_
      rcases it_split H with ⟨c9, H⟩ | ⟨c9, H⟩
      · refine R_if_ne_f dX8_add_23 (tgt := 29) (by decide) c9 ?_
        refine R_ldc dX8_add_26 lcX8_75 ?_
        obtain ⟨rfl, rfl⟩ := so2 H
        exact R_retI dX8_add_28 rfl (Or.inl rfl)
      · refine R_if_ne_t dX8_add_23 (tgt := 29) (by decide) c9 ?_
        refine R_iload dX8_add_29 rfl ?_
        rcases it_split H with ⟨c10, H⟩ | ⟨c10, H⟩
        · refine R_if_eq_t dX8_add_31 (tgt := 47) (by decide) c10 ?_
          refine R_aload_n dX8_add_47 rfl rfl ?_
          refine R_getF dX8_add_48 lfX8_7 rfl rfl (q := 55) rfl ?_
          refine R_bipush dX8_add_51 (v := 48) (by decide) ?_
          refine R_iload_n dX8_add_53 rfl rfl ?_
          refine R_iadd dX8_add_54 ?_
          obtain ⟨c11, H⟩ := it_some H
          refine R_ildY dX8_add_55 rfl rfl (ck_in c11) (j := tn (48 + x1)) rfl (x := h 55 (tn (48 + x1))) rfl ?_
          refine R_bipush dX8_add_56 (v := 12) (by decide) ?_
          rcases it_split H with ⟨c12, H⟩ | ⟨c12, H⟩
          · refine R_icmp_ne_f dX8_add_58 (tgt := 64) (by decide) c12 ?_
            refine R_ldc dX8_add_61 lcX8_79 ?_
            obtain ⟨rfl, rfl⟩ := so2 H
            exact R_retI dX8_add_63 rfl (Or.inl rfl)
          · refine R_icmp_ne_t dX8_add_58 (tgt := 64) (by decide) c12 ?_
            refine R_aload_n dX8_add_64 rfl rfl ?_
            obtain ⟨h14, e13, H⟩ := bn_some H
            refine R_cV dX8_add_65 lvX8_229 ⟨Nat.le_of_ble_eq_true rfl, Nat.le_of_ble_eq_true rfl⟩ (r := 54) rfl (av := []) (st := []) rfl rfl (Nat.le_of_ble_eq_true rfl) (tX8_remember e13) ?_
            refine R_aload_n dX8_add_68 rfl rfl ?_
            refine R_iload_n dX8_add_69 rfl rfl ?_
            refine R_iload_n dX8_add_70 rfl rfl ?_
            refine R_iload_n dX8_add_71 rfl rfl ?_
            refine R_iload dX8_add_72 rfl ?_
            refine R_if_eq_t dX8_add_74 (tgt := 87) (by decide) c10 ?_
            refine R_iconst dX8_add_87 (v := (-1)) (by decide) ?_
            obtain ⟨h16, e15, H⟩ := bn_some H
            refine R_cV dX8_add_88 lvX8_156 ⟨Nat.le_of_ble_eq_true rfl, Nat.le_of_ble_eq_true rfl⟩ (r := 54) rfl (av := [.int x1, .int x3, .int x2, .int (-1)]) (st := []) rfl rfl (Nat.le_of_ble_eq_true rfl) (tX8_put e15) ?_
            refine R_aload_n dX8_add_91 rfl rfl ?_
            refine R_getF dX8_add_92 lfX8_7 rfl rfl (q := 55) rfl ?_
            refine R_bipush dX8_add_95 (v := 48) (by decide) ?_
            refine R_iload_n dX8_add_97 rfl rfl ?_
            refine R_iadd dX8_add_98 ?_
            refine R_ildY dX8_add_99 rfl rfl (ck_in c11) (j := tn (48 + x1)) rfl (x := h16 55 (tn (48 + x1))) rfl ?_
            obtain ⟨rfl, rfl⟩ := so2 H
            exact R_retI dX8_add_100 rfl (Or.inl rfl)
        · refine R_if_eq_f dX8_add_31 (tgt := 47) (by decide) c10 ?_
          refine R_aload_n dX8_add_34 rfl rfl ?_
          refine R_getF dX8_add_35 lfX8_7 rfl rfl (q := 55) rfl ?_
          refine R_bipush dX8_add_38 (v := 52) (by decide) ?_
          refine R_ildY dX8_add_40 rfl rfl (ck_in (by decide)) (j := 52) (by decide) (x := h 55 52) rfl ?_
          rcases it_split H with ⟨c17, H⟩ | ⟨c17, H⟩
          · refine R_if_ge_t dX8_add_41 (tgt := 47) (by decide) c17 ?_
            refine R_aload_n dX8_add_47 rfl rfl ?_
            refine R_getF dX8_add_48 lfX8_7 rfl rfl (q := 55) rfl ?_
            refine R_bipush dX8_add_51 (v := 48) (by decide) ?_
            refine R_iload_n dX8_add_53 rfl rfl ?_
            refine R_iadd dX8_add_54 ?_
            obtain ⟨c18, H⟩ := it_some H
            refine R_ildY dX8_add_55 rfl rfl (ck_in c18) (j := tn (48 + x1)) rfl (x := h 55 (tn (48 + x1))) rfl ?_
            refine R_bipush dX8_add_56 (v := 12) (by decide) ?_
            rcases it_split H with ⟨c19, H⟩ | ⟨c19, H⟩
            · refine R_icmp_ne_f dX8_add_58 (tgt := 64) (by decide) c19 ?_
              refine R_ldc dX8_add_61 lcX8_79 ?_
              obtain ⟨rfl, rfl⟩ := so2 H
              exact R_retI dX8_add_63 rfl (Or.inl rfl)
            · refine R_icmp_ne_t dX8_add_58 (tgt := 64) (by decide) c19 ?_
              refine R_aload_n dX8_add_64 rfl rfl ?_
              obtain ⟨h21, e20, H⟩ := bn_some H
              refine R_cV dX8_add_65 lvX8_229 ⟨Nat.le_of_ble_eq_true rfl, Nat.le_of_ble_eq_true rfl⟩ (r := 54) rfl (av := []) (st := []) rfl rfl (Nat.le_of_ble_eq_true rfl) (tX8_remember e20) ?_
              refine R_aload_n dX8_add_68 rfl rfl ?_
              refine R_iload_n dX8_add_69 rfl rfl ?_
              refine R_iload_n dX8_add_70 rfl rfl ?_
              refine R_iload_n dX8_add_71 rfl rfl ?_
              refine R_iload dX8_add_72 rfl ?_
              refine R_if_eq_f dX8_add_74 (tgt := 87) (by decide) c10 ?_
              refine R_aload_n dX8_add_77 rfl rfl ?_
              refine R_getF dX8_add_78 lfX8_7 rfl rfl (q := 55) rfl ?_
              refine R_bipush dX8_add_81 (v := 52) (by decide) ?_
              refine R_ildY dX8_add_83 rfl rfl (ck_in (by decide)) (j := 52) (by decide) (x := h21 55 52) rfl ?_
              refine R_goto dX8_add_84 (tgt := 88) (by decide) ?_
              obtain ⟨h23, e22, H⟩ := bn_some H
              refine R_cV dX8_add_88 lvX8_156 ⟨Nat.le_of_ble_eq_true rfl, Nat.le_of_ble_eq_true rfl⟩ (r := 54) rfl (av := [.int x1, .int x3, .int x2, .int (h21 55 52)]) (st := []) rfl rfl (Nat.le_of_ble_eq_true rfl) (tX8_put e22) ?_
              refine R_aload_n dX8_add_91 rfl rfl ?_
              refine R_getF dX8_add_92 lfX8_7 rfl rfl (q := 55) rfl ?_
              refine R_bipush dX8_add_95 (v := 48) (by decide) ?_
              refine R_iload_n dX8_add_97 rfl rfl ?_
              refine R_iadd dX8_add_98 ?_
              refine R_ildY dX8_add_99 rfl rfl (ck_in c18) (j := tn (48 + x1)) rfl (x := h23 55 (tn (48 + x1))) rfl ?_
              obtain ⟨rfl, rfl⟩ := so2 H
              exact R_retI dX8_add_100 rfl (Or.inl rfl)
          · refine R_if_ge_f dX8_add_41 (tgt := 47) (by decide) c17 ?_
            refine R_ldc dX8_add_44 lcX8_184 ?_
            obtain ⟨rfl, rfl⟩ := so2 H
            exact R_retI dX8_add_46 rfl (Or.inl rfl)

set_option maxRecDepth 100000 in
set_option maxHeartbeats 4000000 in
theorem tX8_blot {h : aH} {x1 : Int32} {r : Int32} {h2 : aH} (H : fX8_blot h x1 = some (r, h2)) : Ev mX8_blot [.ref 54, .int x1] h (some (.int r)) h2 := by
  unfold fX8_blot at H
  refine Ev_of (sp := (0, fun _ => 0)) oX8_blot nlX8 (Nat.le_of_ble_eq_true rfl) (ls0 := [.ref 54, .int x1]) rfl ?_
  refine R_aload_n dX8_blot_0 rfl rfl ?_
  refine R_iload_n dX8_blot_1 rfl rfl ?_
  obtain ⟨r2, e1, H⟩ := bn_some H
  refine R_cV dX8_blot_2 lvX8_166 ⟨Nat.le_of_ble_eq_true rfl, Nat.le_of_ble_eq_true rfl⟩ (r := 54) rfl (av := [.int x1]) (st := []) rfl rfl (Nat.le_of_ble_eq_true rfl) (tX8_isPaper e1) ?_
  rcases it_split H with ⟨c3, H⟩ | ⟨c3, H⟩
  · refine R_if_ne_f dX8_blot_5 (tgt := 11) (by decide) c3 ?_
    refine R_ldc dX8_blot_8 lcX8_198 ?_
    obtain ⟨rfl, rfl⟩ := so2 H
    exact R_retI dX8_blot_10 rfl (Or.inl rfl)
  · refine R_if_ne_t dX8_blot_5 (tgt := 11) (by decide) c3 ?_
    refine R_aload_n dX8_blot_11 rfl rfl ?_
    refine R_getF dX8_blot_12 lfX8_7 rfl rfl (q := 55) rfl ?_
    refine R_bipush dX8_blot_15 (v := 48) (by decide) ?_
    refine R_iload_n dX8_blot_17 rfl rfl ?_
    refine R_iadd dX8_blot_18 ?_
    obtain ⟨c4, H⟩ := it_some H
    refine R_ildY dX8_blot_19 rfl rfl (ck_in c4) (j := tn (48 + x1)) rfl (x := h 55 (tn (48 + x1))) rfl ?_
    rcases it_split H with ⟨c5, H⟩ | ⟨c5, H⟩
    · refine R_if_ne_f dX8_blot_20 (tgt := 26) (by decide) c5 ?_
      refine R_ldc dX8_blot_23 lcX8_184 ?_
      obtain ⟨rfl, rfl⟩ := so2 H
      exact R_retI dX8_blot_25 rfl (Or.inl rfl)
    · refine R_if_ne_t dX8_blot_20 (tgt := 26) (by decide) c5 ?_
      refine R_aload_n dX8_blot_26 rfl rfl ?_
      obtain ⟨h7, e6, H⟩ := bn_some H
      refine R_cV dX8_blot_27 lvX8_229 ⟨Nat.le_of_ble_eq_true rfl, Nat.le_of_ble_eq_true rfl⟩ (r := 54) rfl (av := []) (st := []) rfl rfl (Nat.le_of_ble_eq_true rfl) (tX8_remember e6) ?_
      refine R_aload_n dX8_blot_30 rfl rfl ?_
      refine R_getF dX8_blot_31 lfX8_7 rfl rfl (q := 55) rfl ?_
      refine R_bipush dX8_blot_34 (v := 48) (by decide) ?_
      refine R_iload_n dX8_blot_36 rfl rfl ?_
      refine R_iadd dX8_blot_37 ?_
      refine R_dup2 dX8_blot_38 rfl rfl ?_
      refine R_ildY dX8_blot_39 rfl rfl (ck_in c4) (j := tn (48 + x1)) rfl (x := h7 55 (tn (48 + x1))) rfl ?_
      refine R_iconst dX8_blot_40 (v := 1) (by decide) ?_
      refine R_isub dX8_blot_41 ?_
      refine R_iastX dX8_blot_42 rfl rfl (ck_in c4) (j := tn (48 + x1)) rfl ?_
      refine R_aload_n dX8_blot_43 rfl rfl ?_
      refine R_iload_n dX8_blot_44 rfl rfl ?_
      refine R_aload_n dX8_blot_45 rfl rfl ?_
      refine R_getF dX8_blot_46 lfX8_7 rfl rfl (q := 55) rfl ?_
      refine R_bipush dX8_blot_49 (v := 48) (by decide) ?_
      refine R_iload_n dX8_blot_51 rfl rfl ?_
      refine R_iadd dX8_blot_52 ?_
      refine R_ildY dX8_blot_53 rfl rfl (ck_in c4) (j := tn (48 + x1)) rfl (x := (h7 55 (tn (48 + x1))) - 1) (by simp [aU, upd]) ?_
      obtain ⟨r9, e8, H⟩ := bn_some H
      refine R_cV dX8_blot_54 lvX8_222 ⟨Nat.le_of_ble_eq_true rfl, Nat.le_of_ble_eq_true rfl⟩ (r := 54) rfl (av := [.int x1, .int ((h7 55 (tn (48 + x1))) - 1)]) (st := []) rfl rfl (Nat.le_of_ble_eq_true rfl) (tX8_lookOf e8) ?_
      obtain ⟨rfl, rfl⟩ := so2 H
      exact R_retI dX8_blot_57 rfl (Or.inl rfl)

set_option maxRecDepth 100000 in
set_option maxHeartbeats 4000000 in
theorem tX8_bottle {h : aH} {x1 : Int32} {r : Int32} {h2 : aH} (H : fX8_bottle h x1 = some (r, h2)) : Ev mX8_bottle [.ref 54, .int x1] h (some (.int r)) h2 := by
  unfold fX8_bottle at H
  refine Ev_of (sp := (0, fun _ => 0)) oX8_bottle nlX8 (Nat.le_of_ble_eq_true rfl) (ls0 := [.ref 54, .int x1, .null]) rfl ?_
  refine R_iload_n dX8_bottle_0 rfl rfl ?_
  refine R_iconst dX8_bottle_1 (v := (-1)) (by decide) ?_
  rcases it_split H with ⟨c1, H⟩ | ⟨c1, H⟩
  · refine R_icmp_eq_t dX8_bottle_2 (tgt := 15) (by decide) c1 ?_
    refine R_aload_n dX8_bottle_15 rfl rfl ?_
    refine R_getX dX8_bottle_16 lfX8_144 rfl rfl (x := h 54 2) rfl ?_
    rcases it_split H with ⟨c2, H⟩ | ⟨c2, H⟩
    · refine R_if_ne_f dX8_bottle_19 (tgt := 25) (by decide) c2 ?_
      refine R_ldc dX8_bottle_22 lcX8_184 ?_
      obtain ⟨rfl, rfl⟩ := so2 H
      exact R_retI dX8_bottle_24 rfl (Or.inl rfl)
    · refine R_if_ne_t dX8_bottle_19 (tgt := 25) (by decide) c2 ?_
      refine R_aload_n dX8_bottle_25 rfl rfl ?_
      obtain ⟨h4, e3, H⟩ := bn_some H
      refine R_cV dX8_bottle_26 lvX8_229 ⟨Nat.le_of_ble_eq_true rfl, Nat.le_of_ble_eq_true rfl⟩ (r := 54) rfl (av := []) (st := []) rfl rfl (Nat.le_of_ble_eq_true rfl) (tX8_remember e3) ?_
      refine R_aload_n dX8_bottle_29 rfl rfl ?_
      refine R_getF dX8_bottle_30 lfX8_7 rfl rfl (q := 55) rfl ?_
      refine R_bipush dX8_bottle_33 (v := 52) (by decide) ?_
      refine R_ildY dX8_bottle_35 rfl rfl (ck_in (by decide)) (j := 52) (by decide) (x := h4 55 52) rfl ?_
      refine R_istoreN dX8_bottle_36 rfl (by decide) rfl (ls2 := [.ref 54, .int x1, .int (h4 55 52)]) rfl ?_
      refine R_aload_n dX8_bottle_37 rfl rfl ?_
      refine R_getF dX8_bottle_38 lfX8_7 rfl rfl (q := 55) rfl ?_
      refine R_bipush dX8_bottle_41 (v := 52) (by decide) ?_
      refine R_iload_n dX8_bottle_43 rfl rfl ?_
      refine R_iastX dX8_bottle_44 rfl rfl (ck_in (by decide)) (j := 52) (by decide) ?_
      refine R_iload_n dX8_bottle_45 rfl rfl ?_
      obtain ⟨rfl, rfl⟩ := so2 H
      exact R_retI dX8_bottle_46 rfl (Or.inl rfl)
  · refine R_icmp_eq_f dX8_bottle_2 (tgt := 15) (by decide) c1 ?_
    refine R_iload_n dX8_bottle_5 rfl rfl ?_
    obtain ⟨r6, e5, H⟩ := bn_some H
    refine R_cS dX8_bottle_6 lvX8_179 ⟨Nat.le_of_ble_eq_true rfl, Nat.le_of_ble_eq_true rfl⟩ (av := [.int x1]) (st := []) rfl rfl (Nat.le_of_ble_eq_true rfl) (tX8_isHour e5) ?_
    rcases it_split H with ⟨c7, H⟩ | ⟨c7, H⟩
    · refine R_if_ne_f dX8_bottle_9 (tgt := 15) (by decide) c7 ?_
      refine R_ldc dX8_bottle_12 lcX8_75 ?_
      obtain ⟨rfl, rfl⟩ := so2 H
      exact R_retI dX8_bottle_14 rfl (Or.inl rfl)
    · refine R_if_ne_t dX8_bottle_9 (tgt := 15) (by decide) c7 ?_
      refine R_aload_n dX8_bottle_15 rfl rfl ?_
      refine R_getX dX8_bottle_16 lfX8_144 rfl rfl (x := h 54 2) rfl ?_
      rcases it_split H with ⟨c8, H⟩ | ⟨c8, H⟩
      · refine R_if_ne_f dX8_bottle_19 (tgt := 25) (by decide) c8 ?_
        refine R_ldc dX8_bottle_22 lcX8_184 ?_
        obtain ⟨rfl, rfl⟩ := so2 H
        exact R_retI dX8_bottle_24 rfl (Or.inl rfl)
      · refine R_if_ne_t dX8_bottle_19 (tgt := 25) (by decide) c8 ?_
        refine R_aload_n dX8_bottle_25 rfl rfl ?_
        obtain ⟨h10, e9, H⟩ := bn_some H
        refine R_cV dX8_bottle_26 lvX8_229 ⟨Nat.le_of_ble_eq_true rfl, Nat.le_of_ble_eq_true rfl⟩ (r := 54) rfl (av := []) (st := []) rfl rfl (Nat.le_of_ble_eq_true rfl) (tX8_remember e9) ?_
        refine R_aload_n dX8_bottle_29 rfl rfl ?_
        refine R_getF dX8_bottle_30 lfX8_7 rfl rfl (q := 55) rfl ?_
        refine R_bipush dX8_bottle_33 (v := 52) (by decide) ?_
        refine R_ildY dX8_bottle_35 rfl rfl (ck_in (by decide)) (j := 52) (by decide) (x := h10 55 52) rfl ?_
        refine R_istoreN dX8_bottle_36 rfl (by decide) rfl (ls2 := [.ref 54, .int x1, .int (h10 55 52)]) rfl ?_
        refine R_aload_n dX8_bottle_37 rfl rfl ?_
        refine R_getF dX8_bottle_38 lfX8_7 rfl rfl (q := 55) rfl ?_
        refine R_bipush dX8_bottle_41 (v := 52) (by decide) ?_
        refine R_iload_n dX8_bottle_43 rfl rfl ?_
        refine R_iastX dX8_bottle_44 rfl rfl (ck_in (by decide)) (j := 52) (by decide) ?_
        refine R_iload_n dX8_bottle_45 rfl rfl ?_
        obtain ⟨rfl, rfl⟩ := so2 H
        exact R_retI dX8_bottle_46 rfl (Or.inl rfl)

set_option maxRecDepth 100000 in
set_option maxHeartbeats 4000000 in
theorem tX8_draw {h : aH} {x1 : Int32} {r : Int32} {h2 : aH} (H : fX8_draw h x1 = some (r, h2)) : Ev mX8_draw [.ref 54, .int x1] h (some (.int r)) h2 := by
  unfold fX8_draw at H
  refine Ev_of (sp := (0, fun _ => 0)) oX8_draw nlX8 (Nat.le_of_ble_eq_true rfl) (ls0 := [.ref 54, .int x1]) rfl ?_
  refine R_aload_n dX8_draw_0 rfl rfl ?_
  refine R_getF dX8_draw_1 lfX8_7 rfl rfl (q := 55) rfl ?_
  refine R_bipush dX8_draw_4 (v := 53) (by decide) ?_
  refine R_aload_n dX8_draw_6 rfl rfl ?_
  refine R_getF dX8_draw_7 lfX8_7 rfl rfl (q := 55) rfl ?_
  refine R_bipush dX8_draw_10 (v := 53) (by decide) ?_
  refine R_ildY dX8_draw_12 rfl rfl (ck_in (by decide)) (j := 53) (by decide) (x := h 55 53) rfl ?_
  refine R_i2l dX8_draw_13 ?_
  refine R_ldc2 dX8_draw_14 llX8_232 ?_
  refine R_lmul dX8_draw_17 ?_
  refine R_ldc2 dX8_draw_18 llX8_234 ?_
  refine R_ladd dX8_draw_21 ?_
  refine R_ldc2 dX8_draw_22 llX8_236 ?_
  refine R_lremX dX8_draw_25 (by decide) ?_
  refine R_l2i dX8_draw_26 ?_
  refine R_iastX dX8_draw_27 rfl rfl (ck_in (by decide)) (j := 53) (by decide) ?_
  refine R_aload_n dX8_draw_28 rfl rfl ?_
  refine R_getF dX8_draw_29 lfX8_7 rfl rfl (q := 55) rfl ?_
  refine R_bipush dX8_draw_32 (v := 53) (by decide) ?_
  refine R_ildY dX8_draw_34 rfl rfl (ck_in (by decide)) (j := 53) (by decide) (x := Int64.toInt32 (rmdL (((Int32.toInt64 (h 55 53)) * 1103515245) + 12345) 2147483648)) rfl ?_
  refine R_ldc dX8_draw_35 lcX8_238 ?_
  refine R_idiv dX8_draw_37 (by decide) ?_
  refine R_iload_n dX8_draw_38 rfl rfl ?_
  obtain ⟨c1, H⟩ := it_some H
  refine R_iremX dX8_draw_39 c1 ?_
  obtain ⟨rfl, rfl⟩ := so2 H
  exact R_retI dX8_draw_40 rfl (Or.inl rfl)

set_option maxRecDepth 100000 in
set_option maxHeartbeats 4000000 in
theorem tX8_drift_L34 {sp : Nat × (Nat → Int32)} {K : aH → Option (Int32 × aH)} {x1 : Int32} (hK : ∀ (hk : aH) (r : Int32) (h2 : aH), K hk = some (r, h2) → Rn sp mX8_drift 111 [.ref 54, .null, .null, .null, .null, .null, .null] [] hk (some (.int r)) h2) : ∀ (n : Nat) (h : aH) (x2 : Int32) (r : Int32) (h2 : aH), fX8_drift_L34 K x1 n h x2 = some (r, h2) → Rn sp mX8_drift 34 [.ref 54, .int x1, .int x2, .null, .null, .null, .null] [] h (some (.int r)) h2 := by
  intro n
  induction n with
  | zero =>
    intro h x2 r h2 H
    rw [fX8_drift_L34] at H
    cases H
  | succ n ih =>
    intro h x2 r h2 H
    rw [fX8_drift_L34] at H
    refine R_iload_n dX8_drift_34 rfl rfl ?_
    refine R_iload_n dX8_drift_35 rfl rfl ?_
    rcases it_split H with ⟨c6, H⟩ | ⟨c6, H⟩
    · refine R_icmp_ge_t dX8_drift_36 (tgt := 111) (by decide) c6 ?_
      refine R_null (i := 1) (ls2 := [.ref 54, .null, .int x2, .null, .null, .null, .null]) rfl ?_
      refine R_null (i := 2) (ls2 := [.ref 54, .null, .null, .null, .null, .null, .null]) rfl ?_
      exact hK _ _ _ H
    · refine R_icmp_ge_f dX8_drift_36 (tgt := 111) (by decide) c6 ?_
      refine R_aload_n dX8_drift_39 rfl rfl ?_
      refine R_getF dX8_drift_40 lfX8_7 rfl rfl (q := 55) rfl ?_
      refine R_bipush dX8_drift_43 (v := 53) (by decide) ?_
      refine R_ildY dX8_drift_45 rfl rfl (ck_in (by decide)) (j := 53) (by decide) (x := h 55 53) rfl ?_
      refine R_istoreN dX8_drift_46 rfl (by decide) rfl (ls2 := [.ref 54, .int x1, .int x2, .int (h 55 53), .null, .null, .null]) rfl ?_
      refine R_aload_n dX8_drift_47 rfl rfl ?_
      refine R_aload_n dX8_drift_48 rfl rfl ?_
      refine R_getX dX8_drift_49 lfX8_141 rfl rfl (x := h 54 16) rfl ?_
      obtain ⟨r9, h8, e7, H⟩ := bn2_some H
      refine R_cV dX8_drift_52 lvX8_241 ⟨Nat.le_of_ble_eq_true rfl, Nat.le_of_ble_eq_true rfl⟩ (r := 54) rfl (av := [.int (h 54 16)]) (st := []) rfl rfl (Nat.le_of_ble_eq_true rfl) (tX8_draw e7) ?_
      refine R_istoreW dX8_drift_55 (by decide) rfl (ls2 := [.ref 54, .int x1, .int x2, .int (h 55 53), .int r9, .null, .null]) rfl ?_
      refine R_aload_n dX8_drift_57 rfl rfl ?_
      refine R_aload_n dX8_drift_58 rfl rfl ?_
      refine R_getX dX8_drift_59 lfX8_150 rfl rfl (x := h8 54 11) rfl ?_
      obtain ⟨r12, h11, e10, H⟩ := bn2_some H
      refine R_cV dX8_drift_62 lvX8_241 ⟨Nat.le_of_ble_eq_true rfl, Nat.le_of_ble_eq_true rfl⟩ (r := 54) rfl (av := [.int (h8 54 11)]) (st := []) rfl rfl (Nat.le_of_ble_eq_true rfl) (tX8_draw e10) ?_
      refine R_istoreW dX8_drift_65 (by decide) rfl (ls2 := [.ref 54, .int x1, .int x2, .int (h 55 53), .int r9, .int r12, .null]) rfl ?_
      refine R_aload_n dX8_drift_67 rfl rfl ?_
      refine R_bipush dX8_drift_68 (v := 96) (by decide) ?_
      obtain ⟨r15, h14, e13, H⟩ := bn2_some H
      refine R_cV dX8_drift_70 lvX8_241 ⟨Nat.le_of_ble_eq_true rfl, Nat.le_of_ble_eq_true rfl⟩ (r := 54) rfl (av := [.int 96]) (st := []) rfl rfl (Nat.le_of_ble_eq_true rfl) (tX8_draw e13) ?_
      refine R_istoreW dX8_drift_73 (by decide) rfl (ls2 := [.ref 54, .int x1, .int x2, .int (h 55 53), .int r9, .int r12, .int r15]) rfl ?_
      refine R_aload_n dX8_drift_75 rfl rfl ?_
      refine R_getF dX8_drift_76 lfX8_7 rfl rfl (q := 55) rfl ?_
      refine R_bipush dX8_drift_79 (v := 48) (by decide) ?_
      refine R_iload dX8_drift_81 rfl ?_
      refine R_iadd dX8_drift_83 ?_
      obtain ⟨c16, H⟩ := it_some H
      refine R_ildY dX8_drift_84 rfl rfl (ck_in c16) (j := tn (48 + r9)) rfl (x := h14 55 (tn (48 + r9))) rfl ?_
      refine R_bipush dX8_drift_85 (v := 12) (by decide) ?_
      rcases it_split H with ⟨c17, H⟩ | ⟨c17, H⟩
      · refine R_icmp_ge_t dX8_drift_87 (tgt := 105) (by decide) c17 ?_
        refine R_iincW dX8_drift_105 rfl (v := x2 + 1) rfl (by decide) rfl (ls2 := [.ref 54, .int x1, .int (x2 + 1), .int (h 55 53), .int r9, .int r12, .int r15]) rfl ?_
        refine R_goto dX8_drift_108 (tgt := 34) (by decide) ?_
        refine R_null (i := 3) (ls2 := [.ref 54, .int x1, .int (x2 + 1), .null, .int r9, .int r12, .int r15]) rfl ?_
        refine R_null (i := 4) (ls2 := [.ref 54, .int x1, .int (x2 + 1), .null, .null, .int r12, .int r15]) rfl ?_
        refine R_null (i := 5) (ls2 := [.ref 54, .int x1, .int (x2 + 1), .null, .null, .null, .int r15]) rfl ?_
        refine R_null (i := 6) (ls2 := [.ref 54, .int x1, .int (x2 + 1), .null, .null, .null, .null]) rfl ?_
        exact ih _ _ _ _ H
      · refine R_icmp_ge_f dX8_drift_87 (tgt := 105) (by decide) c17 ?_
        refine R_aload_n dX8_drift_90 rfl rfl ?_
        obtain ⟨h19, e18, H⟩ := bn_some H
        refine R_cV dX8_drift_91 lvX8_229 ⟨Nat.le_of_ble_eq_true rfl, Nat.le_of_ble_eq_true rfl⟩ (r := 54) rfl (av := []) (st := []) rfl rfl (Nat.le_of_ble_eq_true rfl) (tX8_remember e18) ?_
        refine R_aload_n dX8_drift_94 rfl rfl ?_
        refine R_iload dX8_drift_95 rfl ?_
        refine R_iload dX8_drift_97 rfl ?_
        refine R_iload dX8_drift_99 rfl ?_
        refine R_iconst dX8_drift_101 (v := (-1)) (by decide) ?_
        obtain ⟨h21, e20, H⟩ := bn_some H
        refine R_cV dX8_drift_102 lvX8_156 ⟨Nat.le_of_ble_eq_true rfl, Nat.le_of_ble_eq_true rfl⟩ (r := 54) rfl (av := [.int r9, .int r15, .int r12, .int (-1)]) (st := []) rfl rfl (Nat.le_of_ble_eq_true rfl) (tX8_put e20) ?_
        refine R_iincW dX8_drift_105 rfl (v := x2 + 1) rfl (by decide) rfl (ls2 := [.ref 54, .int x1, .int (x2 + 1), .int (h 55 53), .int r9, .int r12, .int r15]) rfl ?_
        refine R_goto dX8_drift_108 (tgt := 34) (by decide) ?_
        refine R_null (i := 3) (ls2 := [.ref 54, .int x1, .int (x2 + 1), .null, .int r9, .int r12, .int r15]) rfl ?_
        refine R_null (i := 4) (ls2 := [.ref 54, .int x1, .int (x2 + 1), .null, .null, .int r12, .int r15]) rfl ?_
        refine R_null (i := 5) (ls2 := [.ref 54, .int x1, .int (x2 + 1), .null, .null, .null, .int r15]) rfl ?_
        refine R_null (i := 6) (ls2 := [.ref 54, .int x1, .int (x2 + 1), .null, .null, .null, .null]) rfl ?_
        exact ih _ _ _ _ H

set_option maxRecDepth 100000 in
set_option maxHeartbeats 4000000 in
theorem tX8_drift {h : aH} {x1 : Int32} {r : Int32} {h2 : aH} (H : fX8_drift h x1 = some (r, h2)) : Ev mX8_drift [.ref 54, .int x1] h (some (.int r)) h2 := by
  unfold fX8_drift at H
  refine Ev_of (sp := (0, fun _ => 0)) oX8_drift nlX8 (Nat.le_of_ble_eq_true rfl) (ls0 := [.ref 54, .int x1, .null, .null, .null, .null, .null]) rfl ?_
  refine R_iload_n dX8_drift_0 rfl rfl ?_
  refine R_i2l dX8_drift_1 ?_
  refine R_lconst dX8_drift_2 (v := 1) rfl ?_
  refine R_ldc2 dX8_drift_3 llX8_239 ?_
  obtain ⟨r2, e1, H⟩ := bn_some H
  refine R_cS dX8_drift_6 lvX8_71 ⟨Nat.le_of_ble_eq_true rfl, Nat.le_of_ble_eq_true rfl⟩ (av := [.long (Int32.toInt64 x1), .long 1, .long 30]) (st := []) rfl rfl (Nat.le_of_ble_eq_true rfl) (tX8_in e1) ?_
  rcases it_split H with ⟨c3, H⟩ | ⟨c3, H⟩
  · refine R_if_ne_f dX8_drift_9 (tgt := 15) (by decide) c3 ?_
    refine R_ldc dX8_drift_12 lcX8_75 ?_
    obtain ⟨rfl, rfl⟩ := so2 H
    exact R_retI dX8_drift_14 rfl (Or.inl rfl)
  · refine R_if_ne_t dX8_drift_9 (tgt := 15) (by decide) c3 ?_
    refine R_aload_n dX8_drift_15 rfl rfl ?_
    refine R_getX dX8_drift_16 lfX8_150 rfl rfl (x := h 54 11) rfl ?_
    rcases it_split H with ⟨c4, H⟩ | ⟨c4, H⟩
    · refine R_if_eq_t dX8_drift_19 (tgt := 29) (by decide) c4 ?_
      refine R_ldc dX8_drift_29 lcX8_184 ?_
      obtain ⟨rfl, rfl⟩ := so2 H
      exact R_retI dX8_drift_31 rfl (Or.inl rfl)
    · refine R_if_eq_f dX8_drift_19 (tgt := 29) (by decide) c4 ?_
      refine R_aload_n dX8_drift_22 rfl rfl ?_
      refine R_getX dX8_drift_23 lfX8_141 rfl rfl (x := h 54 16) rfl ?_
      rcases it_split H with ⟨c5, H⟩ | ⟨c5, H⟩
      · refine R_if_ne_f dX8_drift_26 (tgt := 32) (by decide) c5 ?_
        refine R_ldc dX8_drift_29 lcX8_184 ?_
        obtain ⟨rfl, rfl⟩ := so2 H
        exact R_retI dX8_drift_31 rfl (Or.inl rfl)
      · refine R_if_ne_t dX8_drift_26 (tgt := 32) (by decide) c5 ?_
        refine R_iconst dX8_drift_32 (v := 0) (by decide) ?_
        refine R_istoreN dX8_drift_33 rfl (by decide) rfl (ls2 := [.ref 54, .int x1, .int 0, .null, .null, .null, .null]) rfl ?_
        refine tX8_drift_L34 (fun h22 r h2 H => ?_) _ _ _ _ _ H
        refine R_aload_n dX8_drift_111 rfl rfl ?_
        obtain ⟨r24, e23, H⟩ := bn_some H
        refine R_cV dX8_drift_112 lvX8_176 ⟨Nat.le_of_ble_eq_true rfl, Nat.le_of_ble_eq_true rfl⟩ (r := 54) rfl (av := []) (st := []) rfl rfl (Nat.le_of_ble_eq_true rfl) (tX8_allLetters e23) ?_
        obtain ⟨rfl, rfl⟩ := so2 H
        exact R_retI dX8_drift_115 rfl (Or.inl rfl)

set_option maxRecDepth 100000 in
set_option maxHeartbeats 4000000 in
theorem tX8_undo {h : aH} {x1 : Int32} {r : Int32} {h2 : aH} (H : fX8_undo h x1 = some (r, h2)) : Ev mX8_undo [.ref 54, .int x1] h (some (.int r)) h2 := by
  unfold fX8_undo at H
  refine Ev_of (sp := (0, fun _ => 0)) oX8_undo nlX8 (Nat.le_of_ble_eq_true rfl) (ls0 := [.ref 54, .int x1, .null]) rfl ?_
  refine R_iload_n dX8_undo_0 rfl rfl ?_
  refine R_i2l dX8_undo_1 ?_
  refine R_lconst dX8_undo_2 (v := 1) rfl ?_
  refine R_ldc2 dX8_undo_3 llX8_239 ?_
  obtain ⟨r2, e1, H⟩ := bn_some H
  refine R_cS dX8_undo_6 lvX8_71 ⟨Nat.le_of_ble_eq_true rfl, Nat.le_of_ble_eq_true rfl⟩ (av := [.long (Int32.toInt64 x1), .long 1, .long 30]) (st := []) rfl rfl (Nat.le_of_ble_eq_true rfl) (tX8_in e1) ?_
  rcases it_split H with ⟨c3, H⟩ | ⟨c3, H⟩
  · refine R_if_ne_f dX8_undo_9 (tgt := 15) (by decide) c3 ?_
    refine R_ldc dX8_undo_12 lcX8_75 ?_
    obtain ⟨rfl, rfl⟩ := so2 H
    exact R_retI dX8_undo_14 rfl (Or.inl rfl)
  · refine R_if_ne_t dX8_undo_9 (tgt := 15) (by decide) c3 ?_
    refine R_iload_n dX8_undo_15 rfl rfl ?_
    refine R_aload_n dX8_undo_16 rfl rfl ?_
    refine R_getX dX8_undo_17 lfX8_163 rfl rfl (x := h 54 25) rfl ?_
    rcases it_split H with ⟨c4, H⟩ | ⟨c4, H⟩
    · refine R_icmp_le_t dX8_undo_20 (tgt := 26) (by decide) c4 ?_
      refine R_aload_n dX8_undo_26 rfl rfl ?_
      refine R_dup dX8_undo_27 rfl ?_
      refine R_getX dX8_undo_28 lfX8_163 rfl rfl (x := h 54 25) rfl ?_
      refine R_iload_n dX8_undo_31 rfl rfl ?_
      refine R_isub dX8_undo_32 ?_
      refine R_putI dX8_undo_33 lfX8_163 rfl rfl ?_
      refine R_aload_n dX8_undo_36 rfl rfl ?_
      refine R_getF dX8_undo_37 lfX8_7 rfl rfl (q := 55) rfl ?_
      refine R_bipush dX8_undo_40 (v := 53) (by decide) ?_
      refine R_ildY dX8_undo_42 rfl rfl (ck_in (by decide)) (j := 53) (by decide) (x := h 55 53) rfl ?_
      refine R_istoreN dX8_undo_43 rfl (by decide) rfl (ls2 := [.ref 54, .int x1, .int (h 55 53)]) rfl ?_
      refine R_aload_n dX8_undo_44 rfl rfl ?_
      refine R_sipush dX8_undo_45 (v := 162) (by decide) ?_
      refine R_bipush dX8_undo_48 (v := 54) (by decide) ?_
      refine R_aload_n dX8_undo_50 rfl rfl ?_
      refine R_getX dX8_undo_51 lfX8_163 rfl rfl (x := (h 54 25) - x1) rfl ?_
      refine R_imul dX8_undo_54 ?_
      refine R_iadd dX8_undo_55 ?_
      refine R_iconst dX8_undo_56 (v := 0) (by decide) ?_
      obtain ⟨h6, e5, H⟩ := bn_some H
      refine R_cV dX8_undo_57 lvX8_225 ⟨Nat.le_of_ble_eq_true rfl, Nat.le_of_ble_eq_true rfl⟩ (r := 54) rfl (av := [.int (162 + (54 * ((h 54 25) - x1))), .int 0]) (st := []) rfl rfl (Nat.le_of_ble_eq_true rfl) (tX8_copy e5) ?_
      refine R_aload_n dX8_undo_60 rfl rfl ?_
      refine R_getF dX8_undo_61 lfX8_7 rfl rfl (q := 55) rfl ?_
      refine R_bipush dX8_undo_64 (v := 53) (by decide) ?_
      refine R_iload_n dX8_undo_66 rfl rfl ?_
      refine R_iastX dX8_undo_67 rfl rfl (ck_in (by decide)) (j := 53) (by decide) ?_
      refine R_aload_n dX8_undo_68 rfl rfl ?_
      obtain ⟨r8, e7, H⟩ := bn_some H
      refine R_cV dX8_undo_69 lvX8_176 ⟨Nat.le_of_ble_eq_true rfl, Nat.le_of_ble_eq_true rfl⟩ (r := 54) rfl (av := []) (st := []) rfl rfl (Nat.le_of_ble_eq_true rfl) (tX8_allLetters e7) ?_
      obtain ⟨rfl, rfl⟩ := so2 H
      exact R_retI dX8_undo_72 rfl (Or.inl rfl)
    · refine R_icmp_le_f dX8_undo_20 (tgt := 26) (by decide) c4 ?_
      refine R_ldc dX8_undo_23 lcX8_184 ?_
      obtain ⟨rfl, rfl⟩ := so2 H
      exact R_retI dX8_undo_25 rfl (Or.inl rfl)

set_option maxRecDepth 100000 in
set_option maxHeartbeats 4000000 in
theorem tX8_look {h : aH} {x1 : Int32} {x2 : Int32} {r : Int32} (H : fX8_look h x1 x2 = some r) : Ev mX8_look [.ref 54, .int x1, .int x2] h (some (.int r)) h := by
  unfold fX8_look at H
  refine Ev_of (sp := (0, fun _ => 0)) oX8_look nlX8 (Nat.le_of_ble_eq_true rfl) (ls0 := [.ref 54, .int x1, .int x2]) rfl ?_
  refine R_aload_n dX8_look_0 rfl rfl ?_
  refine R_iload_n dX8_look_1 rfl rfl ?_
  obtain ⟨r2, e1, H⟩ := bn_some H
  refine R_cV dX8_look_2 lvX8_195 ⟨Nat.le_of_ble_eq_true rfl, Nat.le_of_ble_eq_true rfl⟩ (r := 54) rfl (av := [.int x1]) (st := []) rfl rfl (Nat.le_of_ble_eq_true rfl) (tX8_isHand e1) ?_
  rcases it_split H with ⟨c3, H⟩ | ⟨c3, H⟩
  · refine R_if_ne_f dX8_look_5 (tgt := 11) (by decide) c3 ?_
    refine R_ldc dX8_look_8 lcX8_198 ?_
    obtain rfl := Option.some.inj H
    exact R_retI dX8_look_10 rfl (Or.inl rfl)
  · refine R_if_ne_t dX8_look_5 (tgt := 11) (by decide) c3 ?_
    refine R_iload_n dX8_look_11 rfl rfl ?_
    obtain ⟨r5, e4, H⟩ := bn_some H
    refine R_cS dX8_look_12 lvX8_179 ⟨Nat.le_of_ble_eq_true rfl, Nat.le_of_ble_eq_true rfl⟩ (av := [.int x2]) (st := []) rfl rfl (Nat.le_of_ble_eq_true rfl) (tX8_isHour e4) ?_
    rcases it_split H with ⟨c6, H⟩ | ⟨c6, H⟩
    · refine R_if_eq_t dX8_look_15 (tgt := 27) (by decide) c6 ?_
      refine R_ldc dX8_look_27 lcX8_75 ?_
      obtain rfl := Option.some.inj H
      exact R_retI dX8_look_29 rfl (Or.inl rfl)
    · refine R_if_eq_f dX8_look_15 (tgt := 27) (by decide) c6 ?_
      refine R_aload_n dX8_look_18 rfl rfl ?_
      refine R_iload_n dX8_look_19 rfl rfl ?_
      refine R_iload_n dX8_look_20 rfl rfl ?_
      obtain ⟨r8, e7, H⟩ := bn_some H
      refine R_cV dX8_look_21 lvX8_212 ⟨Nat.le_of_ble_eq_true rfl, Nat.le_of_ble_eq_true rfl⟩ (r := 54) rfl (av := [.int x1, .int x2]) (st := []) rfl rfl (Nat.le_of_ble_eq_true rfl) (tX8_lookAt e7) ?_
      refine R_goto dX8_look_24 (tgt := 29) (by decide) ?_
      obtain rfl := Option.some.inj H
      exact R_retI dX8_look_29 rfl (Or.inl rfl)

set_option maxRecDepth 100000 in
set_option maxHeartbeats 4000000 in
theorem tX8_hoursOf_L9 {sp : Nat × (Nat → Int32)} {K : Int32 → Int32 → Option Int32} {h : aH} {x1 : Int32} {x2 : Int32} {x3 : Int32} (hK : ∀ (y4 y5 : Int32) (r : Int32), K y4 y5 = some r → Rn sp mX8_hoursOf 51 [.null, .null, .null, .int x3, .int y4, .int y5, .null] [] h (some (.int r)) h) : ∀ (n : Nat) (x4 x5 x6 : Int32) (r : Int32), fX8_hoursOf_L9 K h x1 x2 x3 n x4 x5 x6 = some r → Rn sp mX8_hoursOf 9 [.ref 54, .int x1, .int x2, .int x3, .int x4, .int x5, .int x6] [] h (some (.int r)) h := by
  intro n
  induction n with
  | zero =>
    intro x4 x5 x6 r H
    rw [fX8_hoursOf_L9] at H
    cases H
  | succ n ih =>
    intro x4 x5 x6 r H
    rw [fX8_hoursOf_L9] at H
    refine R_iload dX8_hoursOf_9 rfl ?_
    refine R_bipush dX8_hoursOf_11 (v := 96) (by decide) ?_
    rcases it_split H with ⟨c1, H⟩ | ⟨c1, H⟩
    · refine R_icmp_ge_t dX8_hoursOf_13 (tgt := 51) (by decide) c1 ?_
      refine R_null (i := 0) (ls2 := [.null, .int x1, .int x2, .int x3, .int x4, .int x5, .int x6]) rfl ?_
      refine R_null (i := 1) (ls2 := [.null, .null, .int x2, .int x3, .int x4, .int x5, .int x6]) rfl ?_
      refine R_null (i := 2) (ls2 := [.null, .null, .null, .int x3, .int x4, .int x5, .int x6]) rfl ?_
      refine R_null (i := 6) (ls2 := [.null, .null, .null, .int x3, .int x4, .int x5, .null]) rfl ?_
      exact hK _ _ _ H
    · refine R_icmp_ge_f dX8_hoursOf_13 (tgt := 51) (by decide) c1 ?_
      refine R_aload_n dX8_hoursOf_16 rfl rfl ?_
      refine R_iload_n dX8_hoursOf_17 rfl rfl ?_
      refine R_iload dX8_hoursOf_18 rfl ?_
      obtain ⟨r3, e2, H⟩ := bn_some H
      refine R_cV dX8_hoursOf_20 lvX8_212 ⟨Nat.le_of_ble_eq_true rfl, Nat.le_of_ble_eq_true rfl⟩ (r := 54) rfl (av := [.int x1, .int x6]) (st := []) rfl rfl (Nat.le_of_ble_eq_true rfl) (tX8_lookAt e2) ?_
      refine R_iload_n dX8_hoursOf_23 rfl rfl ?_
      rcases it_split H with ⟨c4, H⟩ | ⟨c4, H⟩
      · refine R_icmp_ne_f dX8_hoursOf_24 (tgt := 45) (by decide) c4 ?_
        refine R_iload dX8_hoursOf_27 rfl ?_
        refine R_iload_n dX8_hoursOf_29 rfl rfl ?_
        rcases it_split H with ⟨c5, H⟩ | ⟨c5, H⟩
        · refine R_icmp_ne_f dX8_hoursOf_30 (tgt := 38) (by decide) c5 ?_
          refine R_iload dX8_hoursOf_33 rfl ?_
          refine R_goto dX8_hoursOf_35 (tgt := 40) (by decide) ?_
          refine R_istoreW dX8_hoursOf_40 (by decide) rfl (ls2 := [.ref 54, .int x1, .int x2, .int x3, .int x4, .int x6, .int x6]) rfl ?_
          refine R_iincW dX8_hoursOf_42 rfl (v := x4 + 1) rfl (by decide) rfl (ls2 := [.ref 54, .int x1, .int x2, .int x3, .int (x4 + 1), .int x6, .int x6]) rfl ?_
          refine R_iincW dX8_hoursOf_45 rfl (v := x6 + 1) rfl (by decide) rfl (ls2 := [.ref 54, .int x1, .int x2, .int x3, .int (x4 + 1), .int x6, .int (x6 + 1)]) rfl ?_
          refine R_goto dX8_hoursOf_48 (tgt := 9) (by decide) ?_
          exact ih _ _ _ _ H
        · refine R_icmp_ne_t dX8_hoursOf_30 (tgt := 38) (by decide) c5 ?_
          refine R_iload dX8_hoursOf_38 rfl ?_
          refine R_istoreW dX8_hoursOf_40 (by decide) rfl (ls2 := [.ref 54, .int x1, .int x2, .int x3, .int x4, .int x5, .int x6]) rfl ?_
          refine R_iincW dX8_hoursOf_42 rfl (v := x4 + 1) rfl (by decide) rfl (ls2 := [.ref 54, .int x1, .int x2, .int x3, .int (x4 + 1), .int x5, .int x6]) rfl ?_
          refine R_iincW dX8_hoursOf_45 rfl (v := x6 + 1) rfl (by decide) rfl (ls2 := [.ref 54, .int x1, .int x2, .int x3, .int (x4 + 1), .int x5, .int (x6 + 1)]) rfl ?_
          refine R_goto dX8_hoursOf_48 (tgt := 9) (by decide) ?_
          exact ih _ _ _ _ H
      · refine R_icmp_ne_t dX8_hoursOf_24 (tgt := 45) (by decide) c4 ?_
        refine R_iincW dX8_hoursOf_45 rfl (v := x6 + 1) rfl (by decide) rfl (ls2 := [.ref 54, .int x1, .int x2, .int x3, .int x4, .int x5, .int (x6 + 1)]) rfl ?_
        refine R_goto dX8_hoursOf_48 (tgt := 9) (by decide) ?_
        exact ih _ _ _ _ H

set_option maxRecDepth 100000 in
set_option maxHeartbeats 4000000 in
theorem tX8_hoursOf {h : aH} {x1 : Int32} {x2 : Int32} {x3 : Int32} {r : Int32} (H : fX8_hoursOf h x1 x2 x3 = some r) : Ev mX8_hoursOf [.ref 54, .int x1, .int x2, .int x3] h (some (.int r)) h := by
  unfold fX8_hoursOf at H
  refine Ev_of (sp := (0, fun _ => 0)) oX8_hoursOf nlX8 (Nat.le_of_ble_eq_true rfl) (ls0 := [.ref 54, .int x1, .int x2, .int x3, .null, .null, .null]) rfl ?_
  refine R_iconst dX8_hoursOf_0 (v := 0) (by decide) ?_
  refine R_istoreW dX8_hoursOf_1 (by decide) rfl (ls2 := [.ref 54, .int x1, .int x2, .int x3, .int 0, .null, .null]) rfl ?_
  refine R_iconst dX8_hoursOf_3 (v := (-1)) (by decide) ?_
  refine R_istoreW dX8_hoursOf_4 (by decide) rfl (ls2 := [.ref 54, .int x1, .int x2, .int x3, .int 0, .int (-1), .null]) rfl ?_
  refine R_iconst dX8_hoursOf_6 (v := 0) (by decide) ?_
  refine R_istoreW dX8_hoursOf_7 (by decide) rfl (ls2 := [.ref 54, .int x1, .int x2, .int x3, .int 0, .int (-1), .int 0]) rfl ?_
  refine tX8_hoursOf_L9 (fun z6 z7 r H => ?_) _ _ _ _ _ H
  refine R_iload_n dX8_hoursOf_51 rfl rfl ?_
  refine R_iconst dX8_hoursOf_52 (v := (-1)) (by decide) ?_
  rcases it_split H with ⟨c8, H⟩ | ⟨c8, H⟩
  · refine R_icmp_ne_f dX8_hoursOf_53 (tgt := 61) (by decide) c8 ?_
    refine R_iload dX8_hoursOf_56 rfl ?_
    refine R_goto dX8_hoursOf_58 (tgt := 63) (by decide) ?_
    obtain rfl := Option.some.inj H
    exact R_retI dX8_hoursOf_63 rfl (Or.inl rfl)
  · refine R_icmp_ne_t dX8_hoursOf_53 (tgt := 61) (by decide) c8 ?_
    refine R_iload dX8_hoursOf_61 rfl ?_
    obtain rfl := Option.some.inj H
    exact R_retI dX8_hoursOf_63 rfl (Or.inl rfl)

set_option maxRecDepth 100000 in
set_option maxHeartbeats 4000000 in
theorem tX8_written {h : aH} {x1 : Int32} {x2 : Int32} {x3 : Int32} {x4 : Int32} {r : Int32} (H : fX8_written h x1 x2 x3 x4 = some r) : Ev mX8_written [.ref 54, .int x1, .int x2, .int x3, .int x4] h (some (.int r)) h := by
  unfold fX8_written at H
  refine Ev_of (sp := (0, fun _ => 0)) oX8_written nlX8 (Nat.le_of_ble_eq_true rfl) (ls0 := [.ref 54, .int x1, .int x2, .int x3, .int x4]) rfl ?_
  refine R_aload_n dX8_written_0 rfl rfl ?_
  refine R_iload_n dX8_written_1 rfl rfl ?_
  refine R_iload_n dX8_written_2 rfl rfl ?_
  obtain ⟨r2, e1, H⟩ := bn_some H
  refine R_cV dX8_written_3 lvX8_215 ⟨Nat.le_of_ble_eq_true rfl, Nat.le_of_ble_eq_true rfl⟩ (r := 54) rfl (av := [.int x1, .int x2]) (st := []) rfl rfl (Nat.le_of_ble_eq_true rfl) (tX8_isLetter e1) ?_
  rcases it_split H with ⟨c3, H⟩ | ⟨c3, H⟩
  · refine R_if_eq_t dX8_written_6 (tgt := 17) (by decide) c3 ?_
    refine R_ldc dX8_written_17 lcX8_198 ?_
    obtain rfl := Option.some.inj H
    exact R_retI dX8_written_19 rfl (Or.inl rfl)
  · refine R_if_eq_f dX8_written_6 (tgt := 17) (by decide) c3 ?_
    refine R_aload_n dX8_written_9 rfl rfl ?_
    refine R_iload_n dX8_written_10 rfl rfl ?_
    obtain ⟨r5, e4, H⟩ := bn_some H
    refine R_cV dX8_written_11 lvX8_195 ⟨Nat.le_of_ble_eq_true rfl, Nat.le_of_ble_eq_true rfl⟩ (r := 54) rfl (av := [.int x3]) (st := []) rfl rfl (Nat.le_of_ble_eq_true rfl) (tX8_isHand e4) ?_
    rcases it_split H with ⟨c6, H⟩ | ⟨c6, H⟩
    · refine R_if_ne_f dX8_written_14 (tgt := 20) (by decide) c6 ?_
      refine R_ldc dX8_written_17 lcX8_198 ?_
      obtain rfl := Option.some.inj H
      exact R_retI dX8_written_19 rfl (Or.inl rfl)
    · refine R_if_ne_t dX8_written_14 (tgt := 20) (by decide) c6 ?_
      refine R_aload_n dX8_written_20 rfl rfl ?_
      refine R_iload_n dX8_written_21 rfl rfl ?_
      refine R_aload_n dX8_written_22 rfl rfl ?_
      refine R_iload_n dX8_written_23 rfl rfl ?_
      refine R_iload_n dX8_written_24 rfl rfl ?_
      obtain ⟨r8, e7, H⟩ := bn_some H
      refine R_cV dX8_written_25 lvX8_222 ⟨Nat.le_of_ble_eq_true rfl, Nat.le_of_ble_eq_true rfl⟩ (r := 54) rfl (av := [.int x1, .int x2]) (st := [.int x3, .ref 54]) rfl rfl (Nat.le_of_ble_eq_true rfl) (tX8_lookOf e7) ?_
      refine R_iload dX8_written_28 rfl ?_
      obtain ⟨r10, e9, H⟩ := bn_some H
      refine R_cV dX8_written_30 lvX8_244 ⟨Nat.le_of_ble_eq_true rfl, Nat.le_of_ble_eq_true rfl⟩ (r := 54) rfl (av := [.int x3, .int r8, .int x4]) (st := []) rfl rfl (Nat.le_of_ble_eq_true rfl) (tX8_hoursOf e9) ?_
      obtain rfl := Option.some.inj H
      exact R_retI dX8_written_33 rfl (Or.inl rfl)

set_option maxRecDepth 100000 in
set_option maxHeartbeats 4000000 in
theorem tX8_who_L17 {sp : Nat × (Nat → Int32)} {K : Int32 → Option Int32} {h : aH} {x1 : Int32} {x2 : Int32} (hK : ∀ (y3 : Int32) (r : Int32), K y3 = some r → Rn sp mX8_who 62 [.null, .null, .null, .int y3, .null] [] h (some (.int r)) h) : ∀ (n : Nat) (x3 x4 : Int32) (r : Int32), fX8_who_L17 K h x1 x2 n x3 x4 = some r → Rn sp mX8_who 17 [.ref 54, .int x1, .int x2, .int x3, .int x4] [] h (some (.int r)) h := by
  intro n
  induction n with
  | zero =>
    intro x3 x4 r H
    rw [fX8_who_L17] at H
    cases H
  | succ n ih =>
    intro x3 x4 r H
    rw [fX8_who_L17] at H
    refine R_iload dX8_who_17 rfl ?_
    refine R_aload_n dX8_who_19 rfl rfl ?_
    refine R_getX dX8_who_20 lfX8_150 rfl rfl (x := h 54 11) rfl ?_
    rcases it_split H with ⟨c4, H⟩ | ⟨c4, H⟩
    · refine R_icmp_ge_t dX8_who_23 (tgt := 62) (by decide) c4 ?_
      refine R_null (i := 0) (ls2 := [.null, .int x1, .int x2, .int x3, .int x4]) rfl ?_
      refine R_null (i := 1) (ls2 := [.null, .null, .int x2, .int x3, .int x4]) rfl ?_
      refine R_null (i := 2) (ls2 := [.null, .null, .null, .int x3, .int x4]) rfl ?_
      refine R_null (i := 4) (ls2 := [.null, .null, .null, .int x3, .null]) rfl ?_
      exact hK _ _ H
    · refine R_icmp_ge_f dX8_who_23 (tgt := 62) (by decide) c4 ?_
      refine R_iload_n dX8_who_26 rfl rfl ?_
      refine R_aload_n dX8_who_27 rfl rfl ?_
      refine R_iload dX8_who_28 rfl ?_
      refine R_aload_n dX8_who_30 rfl rfl ?_
      refine R_iload_n dX8_who_31 rfl rfl ?_
      refine R_iload_n dX8_who_32 rfl rfl ?_
      obtain ⟨r6, e5, H⟩ := bn_some H
      refine R_cV dX8_who_33 lvX8_222 ⟨Nat.le_of_ble_eq_true rfl, Nat.le_of_ble_eq_true rfl⟩ (r := 54) rfl (av := [.int x1, .int x2]) (st := [.int x4, .ref 54, .int x3]) rfl rfl (Nat.le_of_ble_eq_true rfl) (tX8_lookOf e5) ?_
      refine R_iconst dX8_who_36 (v := (-1)) (by decide) ?_
      obtain ⟨r8, e7, H⟩ := bn_some H
      refine R_cV dX8_who_37 lvX8_244 ⟨Nat.le_of_ble_eq_true rfl, Nat.le_of_ble_eq_true rfl⟩ (r := 54) rfl (av := [.int x4, .int r6, .int (-1)]) (st := [.int x3]) rfl rfl (Nat.le_of_ble_eq_true rfl) (tX8_hoursOf e7) ?_
      rcases it_split H with ⟨c9, H⟩ | ⟨c9, H⟩
      · refine R_if_le_t dX8_who_40 (tgt := 47) (by decide) c9 ?_
        refine R_iconst dX8_who_47 (v := 0) (by decide) ?_
        obtain ⟨r11, e10, H⟩ := bn_some H
        refine R_cS dX8_who_48 lvX8_172 ⟨Nat.le_of_ble_eq_true rfl, Nat.le_of_ble_eq_true rfl⟩ (av := [.int 0]) (st := [.int x3]) rfl rfl (Nat.le_of_ble_eq_true rfl) (tX8_one e10) ?_
        refine R_iload dX8_who_51 rfl ?_
        refine R_ishl dX8_who_53 ?_
        refine R_ior dX8_who_54 ?_
        refine R_istoreN dX8_who_55 rfl (by decide) rfl (ls2 := [.ref 54, .int x1, .int x2, .int (x3 ||| (r11 <<< (x4 &&& 31))), .int x4]) rfl ?_
        refine R_iincW dX8_who_56 rfl (v := x4 + 1) rfl (by decide) rfl (ls2 := [.ref 54, .int x1, .int x2, .int (x3 ||| (r11 <<< (x4 &&& 31))), .int (x4 + 1)]) rfl ?_
        refine R_goto dX8_who_59 (tgt := 17) (by decide) ?_
        exact ih _ _ _ H
      · refine R_if_le_f dX8_who_40 (tgt := 47) (by decide) c9 ?_
        refine R_iconst dX8_who_43 (v := 1) (by decide) ?_
        refine R_goto dX8_who_44 (tgt := 48) (by decide) ?_
        obtain ⟨r13, e12, H⟩ := bn_some H
        refine R_cS dX8_who_48 lvX8_172 ⟨Nat.le_of_ble_eq_true rfl, Nat.le_of_ble_eq_true rfl⟩ (av := [.int 1]) (st := [.int x3]) rfl rfl (Nat.le_of_ble_eq_true rfl) (tX8_one e12) ?_
        refine R_iload dX8_who_51 rfl ?_
        refine R_ishl dX8_who_53 ?_
        refine R_ior dX8_who_54 ?_
        refine R_istoreN dX8_who_55 rfl (by decide) rfl (ls2 := [.ref 54, .int x1, .int x2, .int (x3 ||| (r13 <<< (x4 &&& 31))), .int x4]) rfl ?_
        refine R_iincW dX8_who_56 rfl (v := x4 + 1) rfl (by decide) rfl (ls2 := [.ref 54, .int x1, .int x2, .int (x3 ||| (r13 <<< (x4 &&& 31))), .int (x4 + 1)]) rfl ?_
        refine R_goto dX8_who_59 (tgt := 17) (by decide) ?_
        exact ih _ _ _ H

set_option maxRecDepth 100000 in
set_option maxHeartbeats 4000000 in
theorem tX8_who {h : aH} {x1 : Int32} {x2 : Int32} {r : Int32} (H : fX8_who h x1 x2 = some r) : Ev mX8_who [.ref 54, .int x1, .int x2] h (some (.int r)) h := by
  unfold fX8_who at H
  refine Ev_of (sp := (0, fun _ => 0)) oX8_who nlX8 (Nat.le_of_ble_eq_true rfl) (ls0 := [.ref 54, .int x1, .int x2, .null, .null]) rfl ?_
  refine R_aload_n dX8_who_0 rfl rfl ?_
  refine R_iload_n dX8_who_1 rfl rfl ?_
  refine R_iload_n dX8_who_2 rfl rfl ?_
  obtain ⟨r2, e1, H⟩ := bn_some H
  refine R_cV dX8_who_3 lvX8_215 ⟨Nat.le_of_ble_eq_true rfl, Nat.le_of_ble_eq_true rfl⟩ (r := 54) rfl (av := [.int x1, .int x2]) (st := []) rfl rfl (Nat.le_of_ble_eq_true rfl) (tX8_isLetter e1) ?_
  rcases it_split H with ⟨c3, H⟩ | ⟨c3, H⟩
  · refine R_if_ne_f dX8_who_6 (tgt := 12) (by decide) c3 ?_
    refine R_ldc dX8_who_9 lcX8_198 ?_
    obtain rfl := Option.some.inj H
    exact R_retI dX8_who_11 rfl (Or.inl rfl)
  · refine R_if_ne_t dX8_who_6 (tgt := 12) (by decide) c3 ?_
    refine R_iconst dX8_who_12 (v := 0) (by decide) ?_
    refine R_istoreN dX8_who_13 rfl (by decide) rfl (ls2 := [.ref 54, .int x1, .int x2, .int 0, .null]) rfl ?_
    refine R_iconst dX8_who_14 (v := 0) (by decide) ?_
    refine R_istoreW dX8_who_15 (by decide) rfl (ls2 := [.ref 54, .int x1, .int x2, .int 0, .int 0]) rfl ?_
    refine tX8_who_L17 (fun z14 r H => ?_) _ _ _ _ H
    refine R_iload_n dX8_who_62 rfl rfl ?_
    obtain rfl := Option.some.inj H
    exact R_retI dX8_who_63 rfl (Or.inl rfl)

set_option maxRecDepth 100000 in
set_option maxHeartbeats 4000000 in
theorem tX8_runFrom_L3 {sp : Nat × (Nat → Int32)} {K : Int32 → Option Int32} {h : aH} {x1 : Int32} {x2 : Int32} {x3 : Int32} {x4 : Int32} (hK : ∀ (y5 : Int32) (r : Int32), K y5 = some r → Rn sp mX8_runFrom 57 [.null, .null, .null, .null, .null, .int y5] [] h (some (.int r)) h) : ∀ (n : Nat) (x5 : Int32) (r : Int32), fX8_runFrom_L3 K h x1 x2 x3 x4 n x5 = some r → Rn sp mX8_runFrom 3 [.ref 54, .int x1, .int x2, .int x3, .int x4, .int x5] [] h (some (.int r)) h := by
  intro n
  induction n with
  | zero =>
    intro x5 r H
    rw [fX8_runFrom_L3] at H
    cases H
  | succ n ih =>
    intro x5 r H
    rw [fX8_runFrom_L3] at H
    refine R_iload_n dX8_runFrom_3 rfl rfl ?_
    refine R_iload dX8_runFrom_4 rfl ?_
    refine R_iadd dX8_runFrom_6 ?_
    refine R_aload_n dX8_runFrom_7 rfl rfl ?_
    refine R_getF dX8_runFrom_8 lfX8_7 rfl rfl (q := 55) rfl ?_
    refine R_bipush dX8_runFrom_11 (v := 48) (by decide) ?_
    refine R_iload_n dX8_runFrom_13 rfl rfl ?_
    refine R_iadd dX8_runFrom_14 ?_
    obtain ⟨c1, H⟩ := it_some H
    refine R_ildY dX8_runFrom_15 rfl rfl (ck_in c1) (j := tn (48 + x1)) rfl (x := h 55 (tn (48 + x1))) rfl ?_
    rcases it_split H with ⟨c2, H⟩ | ⟨c2, H⟩
    · refine R_icmp_ge_t dX8_runFrom_16 (tgt := 57) (by decide) c2 ?_
      refine R_null (i := 0) (ls2 := [.null, .int x1, .int x2, .int x3, .int x4, .int x5]) rfl ?_
      refine R_null (i := 1) (ls2 := [.null, .null, .int x2, .int x3, .int x4, .int x5]) rfl ?_
      refine R_null (i := 2) (ls2 := [.null, .null, .null, .int x3, .int x4, .int x5]) rfl ?_
      refine R_null (i := 3) (ls2 := [.null, .null, .null, .null, .int x4, .int x5]) rfl ?_
      refine R_null (i := 4) (ls2 := [.null, .null, .null, .null, .null, .int x5]) rfl ?_
      exact hK _ _ H
    · refine R_icmp_ge_f dX8_runFrom_16 (tgt := 57) (by decide) c2 ?_
      refine R_iload dX8_runFrom_19 rfl ?_
      refine R_iload dX8_runFrom_21 rfl ?_
      refine R_iadd dX8_runFrom_23 ?_
      refine R_bipush dX8_runFrom_24 (v := 96) (by decide) ?_
      rcases it_split H with ⟨c3, H⟩ | ⟨c3, H⟩
      · refine R_icmp_ge_t dX8_runFrom_26 (tgt := 57) (by decide) c3 ?_
        refine R_null (i := 0) (ls2 := [.null, .int x1, .int x2, .int x3, .int x4, .int x5]) rfl ?_
        refine R_null (i := 1) (ls2 := [.null, .null, .int x2, .int x3, .int x4, .int x5]) rfl ?_
        refine R_null (i := 2) (ls2 := [.null, .null, .null, .int x3, .int x4, .int x5]) rfl ?_
        refine R_null (i := 3) (ls2 := [.null, .null, .null, .null, .int x4, .int x5]) rfl ?_
        refine R_null (i := 4) (ls2 := [.null, .null, .null, .null, .null, .int x5]) rfl ?_
        exact hK _ _ H
      · refine R_icmp_ge_f dX8_runFrom_26 (tgt := 57) (by decide) c3 ?_
        refine R_aload_n dX8_runFrom_29 rfl rfl ?_
        refine R_iload_n dX8_runFrom_30 rfl rfl ?_
        refine R_iload dX8_runFrom_31 rfl ?_
        refine R_iload dX8_runFrom_33 rfl ?_
        refine R_iadd dX8_runFrom_35 ?_
        obtain ⟨r5, e4, H⟩ := bn_some H
        refine R_cV dX8_runFrom_36 lvX8_212 ⟨Nat.le_of_ble_eq_true rfl, Nat.le_of_ble_eq_true rfl⟩ (r := 54) rfl (av := [.int x3, .int (x4 + x5)]) (st := []) rfl rfl (Nat.le_of_ble_eq_true rfl) (tX8_lookAt e4) ?_
        refine R_aload_n dX8_runFrom_39 rfl rfl ?_
        refine R_iload_n dX8_runFrom_40 rfl rfl ?_
        refine R_iload_n dX8_runFrom_41 rfl rfl ?_
        refine R_iload dX8_runFrom_42 rfl ?_
        refine R_iadd dX8_runFrom_44 ?_
        obtain ⟨r7, e6, H⟩ := bn_some H
        refine R_cV dX8_runFrom_45 lvX8_222 ⟨Nat.le_of_ble_eq_true rfl, Nat.le_of_ble_eq_true rfl⟩ (r := 54) rfl (av := [.int x1, .int (x2 + x5)]) (st := [.int r5]) rfl rfl (Nat.le_of_ble_eq_true rfl) (tX8_lookOf e6) ?_
        rcases it_split H with ⟨c8, H⟩ | ⟨c8, H⟩
        · refine R_icmp_ne_f dX8_runFrom_48 (tgt := 57) (by decide) c8 ?_
          refine R_iincW dX8_runFrom_51 rfl (v := x5 + 1) rfl (by decide) rfl (ls2 := [.ref 54, .int x1, .int x2, .int x3, .int x4, .int (x5 + 1)]) rfl ?_
          refine R_goto dX8_runFrom_54 (tgt := 3) (by decide) ?_
          exact ih _ _ H
        · refine R_icmp_ne_t dX8_runFrom_48 (tgt := 57) (by decide) c8 ?_
          refine R_null (i := 0) (ls2 := [.null, .int x1, .int x2, .int x3, .int x4, .int x5]) rfl ?_
          refine R_null (i := 1) (ls2 := [.null, .null, .int x2, .int x3, .int x4, .int x5]) rfl ?_
          refine R_null (i := 2) (ls2 := [.null, .null, .null, .int x3, .int x4, .int x5]) rfl ?_
          refine R_null (i := 3) (ls2 := [.null, .null, .null, .null, .int x4, .int x5]) rfl ?_
          refine R_null (i := 4) (ls2 := [.null, .null, .null, .null, .null, .int x5]) rfl ?_
          exact hK _ _ H

set_option maxRecDepth 100000 in
set_option maxHeartbeats 4000000 in
theorem tX8_runFrom {h : aH} {x1 : Int32} {x2 : Int32} {x3 : Int32} {x4 : Int32} {r : Int32} (H : fX8_runFrom h x1 x2 x3 x4 = some r) : Ev mX8_runFrom [.ref 54, .int x1, .int x2, .int x3, .int x4] h (some (.int r)) h := by
  unfold fX8_runFrom at H
  refine Ev_of (sp := (0, fun _ => 0)) oX8_runFrom nlX8 (Nat.le_of_ble_eq_true rfl) (ls0 := [.ref 54, .int x1, .int x2, .int x3, .int x4, .null]) rfl ?_
  refine R_iconst dX8_runFrom_0 (v := 0) (by decide) ?_
  refine R_istoreW dX8_runFrom_1 (by decide) rfl (ls2 := [.ref 54, .int x1, .int x2, .int x3, .int x4, .int 0]) rfl ?_
  refine tX8_runFrom_L3 (fun z9 r H => ?_) _ _ _ H
  refine R_iload dX8_runFrom_57 rfl ?_
  obtain rfl := Option.some.inj H
  exact R_retI dX8_runFrom_59 rfl (Or.inl rfl)

set_option maxRecDepth 100000 in
set_option maxHeartbeats 4000000 in
theorem tX8_dated_L46 {sp : Nat × (Nat → Int32)} {K : Int32 → Int32 → Int32 → Option Int32} {h : aH} {x1 : Int32} {x2 : Int32} {x3 : Int32} (hK : ∀ (y4 y5 y6 : Int32) (r : Int32), K y4 y5 y6 = some r → Rn sp mX8_dated 101 [.null, .null, .null, .int x3, .int y4, .int y5, .int y6, .null] [] h (some (.int r)) h) : ∀ (n : Nat) (x4 x5 x6 x7 : Int32) (r : Int32), fX8_dated_L46 K h x1 x2 x3 n x4 x5 x6 x7 = some r → Rn sp mX8_dated 46 [.ref 54, .int x1, .int x2, .int x3, .int x4, .int x5, .int x6, .int x7] [] h (some (.int r)) h := by
  intro n
  induction n with
  | zero =>
    intro x4 x5 x6 x7 r H
    rw [fX8_dated_L46] at H
    cases H
  | succ n ih =>
    intro x4 x5 x6 x7 r H
    rw [fX8_dated_L46] at H
    refine R_iload dX8_dated_46 rfl ?_
    refine R_bipush dX8_dated_48 (v := 96) (by decide) ?_
    rcases it_split H with ⟨c10, H⟩ | ⟨c10, H⟩
    · refine R_icmp_ge_t dX8_dated_50 (tgt := 101) (by decide) c10 ?_
      refine R_null (i := 0) (ls2 := [.null, .int x1, .int x2, .int x3, .int x4, .int x5, .int x6, .int x7]) rfl ?_
      refine R_null (i := 1) (ls2 := [.null, .null, .int x2, .int x3, .int x4, .int x5, .int x6, .int x7]) rfl ?_
      refine R_null (i := 2) (ls2 := [.null, .null, .null, .int x3, .int x4, .int x5, .int x6, .int x7]) rfl ?_
      refine R_null (i := 7) (ls2 := [.null, .null, .null, .int x3, .int x4, .int x5, .int x6, .null]) rfl ?_
      exact hK _ _ _ _ H
    · refine R_icmp_ge_f dX8_dated_50 (tgt := 101) (by decide) c10 ?_
      refine R_aload_n dX8_dated_53 rfl rfl ?_
      refine R_iload_n dX8_dated_54 rfl rfl ?_
      refine R_iconst dX8_dated_55 (v := 0) (by decide) ?_
      refine R_iload_n dX8_dated_56 rfl rfl ?_
      refine R_iload dX8_dated_57 rfl ?_
      obtain ⟨r12, e11, H⟩ := bn_some H
      refine R_cV dX8_dated_59 lvX8_247 ⟨Nat.le_of_ble_eq_true rfl, Nat.le_of_ble_eq_true rfl⟩ (r := 54) rfl (av := [.int x1, .int 0, .int x2, .int x7]) (st := []) rfl rfl (Nat.le_of_ble_eq_true rfl) (tX8_runFrom e11) ?_
      refine R_aload_n dX8_dated_62 rfl rfl ?_
      refine R_getF dX8_dated_63 lfX8_7 rfl rfl (q := 55) rfl ?_
      refine R_bipush dX8_dated_66 (v := 48) (by decide) ?_
      refine R_iload_n dX8_dated_68 rfl rfl ?_
      refine R_iadd dX8_dated_69 ?_
      obtain ⟨c13, H⟩ := it_some H
      refine R_ildY dX8_dated_70 rfl rfl (ck_in c13) (j := tn (48 + x1)) rfl (x := h 55 (tn (48 + x1))) rfl ?_
      rcases it_split H with ⟨c14, H⟩ | ⟨c14, H⟩
      · refine R_icmp_ne_f dX8_dated_71 (tgt := 95) (by decide) c14 ?_
        refine R_iload dX8_dated_74 rfl ?_
        rcases it_split H with ⟨c15, H⟩ | ⟨c15, H⟩
        · refine R_if_ne_f dX8_dated_76 (tgt := 84) (by decide) c15 ?_
          refine R_iload dX8_dated_79 rfl ?_
          refine R_goto dX8_dated_81 (tgt := 86) (by decide) ?_
          refine R_istoreW dX8_dated_86 (by decide) rfl (ls2 := [.ref 54, .int x1, .int x2, .int x3, .int x4, .int x7, .int x6, .int x7]) rfl ?_
          refine R_iload dX8_dated_88 rfl ?_
          refine R_istoreW dX8_dated_90 (by decide) rfl (ls2 := [.ref 54, .int x1, .int x2, .int x3, .int x4, .int x7, .int x7, .int x7]) rfl ?_
          refine R_iincW dX8_dated_92 rfl (v := x4 + 1) rfl (by decide) rfl (ls2 := [.ref 54, .int x1, .int x2, .int x3, .int (x4 + 1), .int x7, .int x7, .int x7]) rfl ?_
          refine R_iincW dX8_dated_95 rfl (v := x7 + 1) rfl (by decide) rfl (ls2 := [.ref 54, .int x1, .int x2, .int x3, .int (x4 + 1), .int x7, .int x7, .int (x7 + 1)]) rfl ?_
          refine R_goto dX8_dated_98 (tgt := 46) (by decide) ?_
          exact ih _ _ _ _ _ H
        · refine R_if_ne_t dX8_dated_76 (tgt := 84) (by decide) c15 ?_
          refine R_iload dX8_dated_84 rfl ?_
          refine R_istoreW dX8_dated_86 (by decide) rfl (ls2 := [.ref 54, .int x1, .int x2, .int x3, .int x4, .int x5, .int x6, .int x7]) rfl ?_
          refine R_iload dX8_dated_88 rfl ?_
          refine R_istoreW dX8_dated_90 (by decide) rfl (ls2 := [.ref 54, .int x1, .int x2, .int x3, .int x4, .int x5, .int x7, .int x7]) rfl ?_
          refine R_iincW dX8_dated_92 rfl (v := x4 + 1) rfl (by decide) rfl (ls2 := [.ref 54, .int x1, .int x2, .int x3, .int (x4 + 1), .int x5, .int x7, .int x7]) rfl ?_
          refine R_iincW dX8_dated_95 rfl (v := x7 + 1) rfl (by decide) rfl (ls2 := [.ref 54, .int x1, .int x2, .int x3, .int (x4 + 1), .int x5, .int x7, .int (x7 + 1)]) rfl ?_
          refine R_goto dX8_dated_98 (tgt := 46) (by decide) ?_
          exact ih _ _ _ _ _ H
      · refine R_icmp_ne_t dX8_dated_71 (tgt := 95) (by decide) c14 ?_
        refine R_iincW dX8_dated_95 rfl (v := x7 + 1) rfl (by decide) rfl (ls2 := [.ref 54, .int x1, .int x2, .int x3, .int x4, .int x5, .int x6, .int (x7 + 1)]) rfl ?_
        refine R_goto dX8_dated_98 (tgt := 46) (by decide) ?_
        exact ih _ _ _ _ _ H

set_option maxRecDepth 100000 in
set_option maxHeartbeats 4000000 in
theorem tX8_dated {h : aH} {x1 : Int32} {x2 : Int32} {x3 : Int32} {r : Int32} (H : fX8_dated h x1 x2 x3 = some r) : Ev mX8_dated [.ref 54, .int x1, .int x2, .int x3] h (some (.int r)) h := by
  unfold fX8_dated at H
  refine Ev_of (sp := (0, fun _ => 0)) oX8_dated nlX8 (Nat.le_of_ble_eq_true rfl) (ls0 := [.ref 54, .int x1, .int x2, .int x3, .null, .null, .null, .null]) rfl ?_
  refine R_aload_n dX8_dated_0 rfl rfl ?_
  refine R_iload_n dX8_dated_1 rfl rfl ?_
  obtain ⟨r2, e1, H⟩ := bn_some H
  refine R_cV dX8_dated_2 lvX8_166 ⟨Nat.le_of_ble_eq_true rfl, Nat.le_of_ble_eq_true rfl⟩ (r := 54) rfl (av := [.int x1]) (st := []) rfl rfl (Nat.le_of_ble_eq_true rfl) (tX8_isPaper e1) ?_
  rcases it_split H with ⟨c3, H⟩ | ⟨c3, H⟩
  · refine R_if_eq_t dX8_dated_5 (tgt := 16) (by decide) c3 ?_
    refine R_ldc dX8_dated_16 lcX8_198 ?_
    obtain rfl := Option.some.inj H
    exact R_retI dX8_dated_18 rfl (Or.inl rfl)
  · refine R_if_eq_f dX8_dated_5 (tgt := 16) (by decide) c3 ?_
    refine R_aload_n dX8_dated_8 rfl rfl ?_
    refine R_iload_n dX8_dated_9 rfl rfl ?_
    obtain ⟨r5, e4, H⟩ := bn_some H
    refine R_cV dX8_dated_10 lvX8_195 ⟨Nat.le_of_ble_eq_true rfl, Nat.le_of_ble_eq_true rfl⟩ (r := 54) rfl (av := [.int x2]) (st := []) rfl rfl (Nat.le_of_ble_eq_true rfl) (tX8_isHand e4) ?_
    rcases it_split H with ⟨c6, H⟩ | ⟨c6, H⟩
    · refine R_if_ne_f dX8_dated_13 (tgt := 19) (by decide) c6 ?_
      refine R_ldc dX8_dated_16 lcX8_198 ?_
      obtain rfl := Option.some.inj H
      exact R_retI dX8_dated_18 rfl (Or.inl rfl)
    · refine R_if_ne_t dX8_dated_13 (tgt := 19) (by decide) c6 ?_
      refine R_iload_n dX8_dated_19 rfl rfl ?_
      refine R_i2l dX8_dated_20 ?_
      refine R_lconst dX8_dated_21 (v := 0) rfl ?_
      refine R_ldc2 dX8_dated_22 llX8_182 ?_
      obtain ⟨r8, e7, H⟩ := bn_some H
      refine R_cS dX8_dated_25 lvX8_71 ⟨Nat.le_of_ble_eq_true rfl, Nat.le_of_ble_eq_true rfl⟩ (av := [.long (Int32.toInt64 x3), .long 0, .long 2]) (st := []) rfl rfl (Nat.le_of_ble_eq_true rfl) (tX8_in e7) ?_
      rcases it_split H with ⟨c9, H⟩ | ⟨c9, H⟩
      · refine R_if_ne_f dX8_dated_28 (tgt := 34) (by decide) c9 ?_
        refine R_ldc dX8_dated_31 lcX8_75 ?_
        obtain rfl := Option.some.inj H
        exact R_retI dX8_dated_33 rfl (Or.inl rfl)
      · refine R_if_ne_t dX8_dated_28 (tgt := 34) (by decide) c9 ?_
        refine R_iconst dX8_dated_34 (v := 0) (by decide) ?_
        refine R_istoreW dX8_dated_35 (by decide) rfl (ls2 := [.ref 54, .int x1, .int x2, .int x3, .int 0, .null, .null, .null]) rfl ?_
        refine R_iconst dX8_dated_37 (v := (-1)) (by decide) ?_
        refine R_istoreW dX8_dated_38 (by decide) rfl (ls2 := [.ref 54, .int x1, .int x2, .int x3, .int 0, .int (-1), .null, .null]) rfl ?_
        refine R_iconst dX8_dated_40 (v := (-1)) (by decide) ?_
        refine R_istoreW dX8_dated_41 (by decide) rfl (ls2 := [.ref 54, .int x1, .int x2, .int x3, .int 0, .int (-1), .int (-1), .null]) rfl ?_
        refine R_iconst dX8_dated_43 (v := 0) (by decide) ?_
        refine R_istoreW dX8_dated_44 (by decide) rfl (ls2 := [.ref 54, .int x1, .int x2, .int x3, .int 0, .int (-1), .int (-1), .int 0]) rfl ?_
        refine tX8_dated_L46 (fun z16 z17 z18 r H => ?_) _ _ _ _ _ _ H
        refine R_iload_n dX8_dated_101 rfl rfl ?_
        rcases it_split H with ⟨c19, H⟩ | ⟨c19, H⟩
        · refine R_if_ne_f dX8_dated_102 (tgt := 110) (by decide) c19 ?_
          refine R_iload dX8_dated_105 rfl ?_
          refine R_goto dX8_dated_107 (tgt := 122) (by decide) ?_
          obtain rfl := Option.some.inj H
          exact R_retI dX8_dated_122 rfl (Or.inl rfl)
        · refine R_if_ne_t dX8_dated_102 (tgt := 110) (by decide) c19 ?_
          refine R_iload_n dX8_dated_110 rfl rfl ?_
          refine R_iconst dX8_dated_111 (v := 1) (by decide) ?_
          rcases it_split H with ⟨c20, H⟩ | ⟨c20, H⟩
          · refine R_icmp_ne_f dX8_dated_112 (tgt := 120) (by decide) c20 ?_
            refine R_iload dX8_dated_115 rfl ?_
            refine R_goto dX8_dated_117 (tgt := 122) (by decide) ?_
            obtain rfl := Option.some.inj H
            exact R_retI dX8_dated_122 rfl (Or.inl rfl)
          · refine R_icmp_ne_t dX8_dated_112 (tgt := 120) (by decide) c20 ?_
            refine R_iload dX8_dated_120 rfl ?_
            obtain rfl := Option.some.inj H
            exact R_retI dX8_dated_122 rfl (Or.inl rfl)

set_option maxRecDepth 100000 in
set_option maxHeartbeats 4000000 in
theorem tX8_longestRun_L6 {sp : Nat × (Nat → Int32)} {K : Int32 → Option Int32} {h : aH} {x1 : Int32} {x2 : Int32} {x3 : Int32} (hK : ∀ (y4 : Int32) (r : Int32), K y4 = some r → Rn sp mX8_longestRun 46 [.null, .null, .null, .null, .int y4, .null, .null] [] h (some (.int r)) h) : ∀ (n : Nat) (x4 x5 : Int32) (r : Int32), fX8_longestRun_L6 K h x1 x2 x3 n x4 x5 = some r → Rn sp mX8_longestRun 6 [.ref 54, .int x1, .int x2, .int x3, .int x4, .int x5, .null] [] h (some (.int r)) h := by
  intro n
  induction n with
  | zero =>
    intro x4 x5 r H
    rw [fX8_longestRun_L6] at H
    cases H
  | succ n ih =>
    intro x4 x5 r H
    rw [fX8_longestRun_L6] at H
    refine R_iload dX8_longestRun_6 rfl ?_
    refine R_bipush dX8_longestRun_8 (v := 96) (by decide) ?_
    rcases it_split H with ⟨c1, H⟩ | ⟨c1, H⟩
    · refine R_icmp_ge_t dX8_longestRun_10 (tgt := 46) (by decide) c1 ?_
      refine R_null (i := 0) (ls2 := [.null, .int x1, .int x2, .int x3, .int x4, .int x5, .null]) rfl ?_
      refine R_null (i := 1) (ls2 := [.null, .null, .int x2, .int x3, .int x4, .int x5, .null]) rfl ?_
      refine R_null (i := 2) (ls2 := [.null, .null, .null, .int x3, .int x4, .int x5, .null]) rfl ?_
      refine R_null (i := 3) (ls2 := [.null, .null, .null, .null, .int x4, .int x5, .null]) rfl ?_
      refine R_null (i := 5) (ls2 := [.null, .null, .null, .null, .int x4, .null, .null]) rfl ?_
      exact hK _ _ H
    · refine R_icmp_ge_f dX8_longestRun_10 (tgt := 46) (by decide) c1 ?_
      refine R_aload_n dX8_longestRun_13 rfl rfl ?_
      refine R_iload_n dX8_longestRun_14 rfl rfl ?_
      refine R_iload_n dX8_longestRun_15 rfl rfl ?_
      refine R_iload_n dX8_longestRun_16 rfl rfl ?_
      refine R_iload dX8_longestRun_17 rfl ?_
      obtain ⟨r3, e2, H⟩ := bn_some H
      refine R_cV dX8_longestRun_19 lvX8_247 ⟨Nat.le_of_ble_eq_true rfl, Nat.le_of_ble_eq_true rfl⟩ (r := 54) rfl (av := [.int x1, .int x2, .int x3, .int x5]) (st := []) rfl rfl (Nat.le_of_ble_eq_true rfl) (tX8_runFrom e2) ?_
      refine R_istoreW dX8_longestRun_22 (by decide) rfl (ls2 := [.ref 54, .int x1, .int x2, .int x3, .int x4, .int x5, .int r3]) rfl ?_
      refine R_iload dX8_longestRun_24 rfl ?_
      refine R_iload dX8_longestRun_26 rfl ?_
      rcases it_split H with ⟨c4, H⟩ | ⟨c4, H⟩
      · refine R_icmp_le_t dX8_longestRun_28 (tgt := 36) (by decide) c4 ?_
        refine R_iload dX8_longestRun_36 rfl ?_
        refine R_istoreW dX8_longestRun_38 (by decide) rfl (ls2 := [.ref 54, .int x1, .int x2, .int x3, .int x4, .int x5, .int r3]) rfl ?_
        refine R_iincW dX8_longestRun_40 rfl (v := x5 + 1) rfl (by decide) rfl (ls2 := [.ref 54, .int x1, .int x2, .int x3, .int x4, .int (x5 + 1), .int r3]) rfl ?_
        refine R_goto dX8_longestRun_43 (tgt := 6) (by decide) ?_
        refine R_null (i := 6) (ls2 := [.ref 54, .int x1, .int x2, .int x3, .int x4, .int (x5 + 1), .null]) rfl ?_
        exact ih _ _ _ H
      · refine R_icmp_le_f dX8_longestRun_28 (tgt := 36) (by decide) c4 ?_
        refine R_iload dX8_longestRun_31 rfl ?_
        refine R_goto dX8_longestRun_33 (tgt := 38) (by decide) ?_
        refine R_istoreW dX8_longestRun_38 (by decide) rfl (ls2 := [.ref 54, .int x1, .int x2, .int x3, .int r3, .int x5, .int r3]) rfl ?_
        refine R_iincW dX8_longestRun_40 rfl (v := x5 + 1) rfl (by decide) rfl (ls2 := [.ref 54, .int x1, .int x2, .int x3, .int r3, .int (x5 + 1), .int r3]) rfl ?_
        refine R_goto dX8_longestRun_43 (tgt := 6) (by decide) ?_
        refine R_null (i := 6) (ls2 := [.ref 54, .int x1, .int x2, .int x3, .int r3, .int (x5 + 1), .null]) rfl ?_
        exact ih _ _ _ H

set_option maxRecDepth 100000 in
set_option maxHeartbeats 4000000 in
theorem tX8_longestRun {h : aH} {x1 : Int32} {x2 : Int32} {x3 : Int32} {r : Int32} (H : fX8_longestRun h x1 x2 x3 = some r) : Ev mX8_longestRun [.ref 54, .int x1, .int x2, .int x3] h (some (.int r)) h := by
  unfold fX8_longestRun at H
  refine Ev_of (sp := (0, fun _ => 0)) oX8_longestRun nlX8 (Nat.le_of_ble_eq_true rfl) (ls0 := [.ref 54, .int x1, .int x2, .int x3, .null, .null, .null]) rfl ?_
  refine R_iconst dX8_longestRun_0 (v := 0) (by decide) ?_
  refine R_istoreW dX8_longestRun_1 (by decide) rfl (ls2 := [.ref 54, .int x1, .int x2, .int x3, .int 0, .null, .null]) rfl ?_
  refine R_iconst dX8_longestRun_3 (v := 0) (by decide) ?_
  refine R_istoreW dX8_longestRun_4 (by decide) rfl (ls2 := [.ref 54, .int x1, .int x2, .int x3, .int 0, .int 0, .null]) rfl ?_
  refine tX8_longestRun_L6 (fun z5 r H => ?_) _ _ _ _ H
  refine R_iload dX8_longestRun_46 rfl ?_
  obtain rfl := Option.some.inj H
  exact R_retI dX8_longestRun_48 rfl (Or.inl rfl)

set_option maxRecDepth 100000 in
set_option maxHeartbeats 4000000 in
theorem tX8_addedAt_L50 {sp : Nat × (Nat → Int32)} {K : Int32 → Option Int32} {h : aH} {x1 : Int32} {x2 : Int32} (hK : ∀ (y4 : Int32) (r : Int32), K y4 = some r → Rn sp mX8_addedAt 94 [.null, .null, .null, .null, .int y4, .null, .null] [] h (some (.int r)) h) : ∀ (n : Nat) (x4 x5 : Int32) (r : Int32), fX8_addedAt_L50 K h x1 x2 n x4 x5 = some r → Rn sp mX8_addedAt 50 [.ref 54, .int x1, .int x2, .null, .int x4, .int x5, .null] [] h (some (.int r)) h := by
  intro n
  induction n with
  | zero =>
    intro x4 x5 r H
    rw [fX8_addedAt_L50] at H
    cases H
  | succ n ih =>
    intro x4 x5 r H
    rw [fX8_addedAt_L50] at H
    refine R_iload dX8_addedAt_50 rfl ?_
    refine R_aload_n dX8_addedAt_52 rfl rfl ?_
    refine R_getF dX8_addedAt_53 lfX8_7 rfl rfl (q := 55) rfl ?_
    refine R_bipush dX8_addedAt_56 (v := 48) (by decide) ?_
    refine R_iload_n dX8_addedAt_58 rfl rfl ?_
    refine R_iadd dX8_addedAt_59 ?_
    obtain ⟨c13, H⟩ := it_some H
    refine R_ildY dX8_addedAt_60 rfl rfl (ck_in c13) (j := tn (48 + x1)) rfl (x := h 55 (tn (48 + x1))) rfl ?_
    rcases it_split H with ⟨c14, H⟩ | ⟨c14, H⟩
    · refine R_icmp_ge_t dX8_addedAt_61 (tgt := 94) (by decide) c14 ?_
      refine R_null (i := 0) (ls2 := [.null, .int x1, .int x2, .null, .int x4, .int x5, .null]) rfl ?_
      refine R_null (i := 1) (ls2 := [.null, .null, .int x2, .null, .int x4, .int x5, .null]) rfl ?_
      refine R_null (i := 2) (ls2 := [.null, .null, .null, .null, .int x4, .int x5, .null]) rfl ?_
      refine R_null (i := 5) (ls2 := [.null, .null, .null, .null, .int x4, .null, .null]) rfl ?_
      exact hK _ _ H
    · refine R_icmp_ge_f dX8_addedAt_61 (tgt := 94) (by decide) c14 ?_
      refine R_aload_n dX8_addedAt_64 rfl rfl ?_
      refine R_iload_n dX8_addedAt_65 rfl rfl ?_
      refine R_iload dX8_addedAt_66 rfl ?_
      refine R_iload_n dX8_addedAt_68 rfl rfl ?_
      obtain ⟨r16, e15, H⟩ := bn_some H
      refine R_cV dX8_addedAt_69 lvX8_251 ⟨Nat.le_of_ble_eq_true rfl, Nat.le_of_ble_eq_true rfl⟩ (r := 54) rfl (av := [.int x1, .int x5, .int x2]) (st := []) rfl rfl (Nat.le_of_ble_eq_true rfl) (tX8_longestRun e15) ?_
      refine R_istoreW dX8_addedAt_72 (by decide) rfl (ls2 := [.ref 54, .int x1, .int x2, .null, .int x4, .int x5, .int r16]) rfl ?_
      refine R_iload dX8_addedAt_74 rfl ?_
      rcases it_split H with ⟨c17, H⟩ | ⟨c17, H⟩
      · refine R_if_ne_f dX8_addedAt_76 (tgt := 81) (by decide) c17 ?_
        refine R_iconst dX8_addedAt_79 (v := (-1)) (by decide) ?_
        obtain rfl := Option.some.inj H
        exact R_retI dX8_addedAt_80 rfl (Or.inl rfl)
      · refine R_if_ne_t dX8_addedAt_76 (tgt := 81) (by decide) c17 ?_
        refine R_iload dX8_addedAt_81 rfl ?_
        refine R_iload dX8_addedAt_83 rfl ?_
        refine R_iadd dX8_addedAt_85 ?_
        refine R_istoreW dX8_addedAt_86 (by decide) rfl (ls2 := [.ref 54, .int x1, .int x2, .null, .int x4, .int (x5 + r16), .int r16]) rfl ?_
        refine R_iincW dX8_addedAt_88 rfl (v := x4 + 1) rfl (by decide) rfl (ls2 := [.ref 54, .int x1, .int x2, .null, .int (x4 + 1), .int (x5 + r16), .int r16]) rfl ?_
        refine R_goto dX8_addedAt_91 (tgt := 50) (by decide) ?_
        refine R_null (i := 6) (ls2 := [.ref 54, .int x1, .int x2, .null, .int (x4 + 1), .int (x5 + r16), .null]) rfl ?_
        exact ih _ _ _ H

set_option maxRecDepth 100000 in
set_option maxHeartbeats 4000000 in
theorem tX8_addedAt {h : aH} {x1 : Int32} {x2 : Int32} {x3 : Int32} {r : Int32} (H : fX8_addedAt h x1 x2 x3 = some r) : Ev mX8_addedAt [.ref 54, .int x1, .int x2, .int x3] h (some (.int r)) h := by
  unfold fX8_addedAt at H
  refine Ev_of (sp := (0, fun _ => 0)) oX8_addedAt nlX8 (Nat.le_of_ble_eq_true rfl) (ls0 := [.ref 54, .int x1, .int x2, .int x3, .null, .null, .null]) rfl ?_
  refine R_aload_n dX8_addedAt_0 rfl rfl ?_
  refine R_iload_n dX8_addedAt_1 rfl rfl ?_
  obtain ⟨r2, e1, H⟩ := bn_some H
  refine R_cV dX8_addedAt_2 lvX8_166 ⟨Nat.le_of_ble_eq_true rfl, Nat.le_of_ble_eq_true rfl⟩ (r := 54) rfl (av := [.int x1]) (st := []) rfl rfl (Nat.le_of_ble_eq_true rfl) (tX8_isPaper e1) ?_
  rcases it_split H with ⟨c3, H⟩ | ⟨c3, H⟩
  · refine R_if_eq_t dX8_addedAt_5 (tgt := 16) (by decide) c3 ?_
    refine R_ldc dX8_addedAt_16 lcX8_198 ?_
    obtain rfl := Option.some.inj H
    exact R_retI dX8_addedAt_18 rfl (Or.inl rfl)
  · refine R_if_eq_f dX8_addedAt_5 (tgt := 16) (by decide) c3 ?_
    refine R_aload_n dX8_addedAt_8 rfl rfl ?_
    refine R_iload_n dX8_addedAt_9 rfl rfl ?_
    obtain ⟨r5, e4, H⟩ := bn_some H
    refine R_cV dX8_addedAt_10 lvX8_195 ⟨Nat.le_of_ble_eq_true rfl, Nat.le_of_ble_eq_true rfl⟩ (r := 54) rfl (av := [.int x2]) (st := []) rfl rfl (Nat.le_of_ble_eq_true rfl) (tX8_isHand e4) ?_
    rcases it_split H with ⟨c6, H⟩ | ⟨c6, H⟩
    · refine R_if_ne_f dX8_addedAt_13 (tgt := 19) (by decide) c6 ?_
      refine R_ldc dX8_addedAt_16 lcX8_198 ?_
      obtain rfl := Option.some.inj H
      exact R_retI dX8_addedAt_18 rfl (Or.inl rfl)
    · refine R_if_ne_t dX8_addedAt_13 (tgt := 19) (by decide) c6 ?_
      refine R_iload_n dX8_addedAt_19 rfl rfl ?_
      refine R_i2l dX8_addedAt_20 ?_
      refine R_lconst dX8_addedAt_21 (v := 0) rfl ?_
      refine R_lconst dX8_addedAt_22 (v := 1) rfl ?_
      obtain ⟨r8, e7, H⟩ := bn_some H
      refine R_cS dX8_addedAt_23 lvX8_71 ⟨Nat.le_of_ble_eq_true rfl, Nat.le_of_ble_eq_true rfl⟩ (av := [.long (Int32.toInt64 x3), .long 0, .long 1]) (st := []) rfl rfl (Nat.le_of_ble_eq_true rfl) (tX8_in e7) ?_
      rcases it_split H with ⟨c9, H⟩ | ⟨c9, H⟩
      · refine R_if_ne_f dX8_addedAt_26 (tgt := 32) (by decide) c9 ?_
        refine R_ldc dX8_addedAt_29 lcX8_75 ?_
        obtain rfl := Option.some.inj H
        exact R_retI dX8_addedAt_31 rfl (Or.inl rfl)
      · refine R_if_ne_t dX8_addedAt_26 (tgt := 32) (by decide) c9 ?_
        refine R_iload_n dX8_addedAt_32 rfl rfl ?_
        rcases it_split H with ⟨c10, H⟩ | ⟨c10, H⟩
        · refine R_if_ne_f dX8_addedAt_33 (tgt := 44) (by decide) c10 ?_
          refine R_aload_n dX8_addedAt_36 rfl rfl ?_
          refine R_iload_n dX8_addedAt_37 rfl rfl ?_
          refine R_iconst dX8_addedAt_38 (v := 0) (by decide) ?_
          refine R_iload_n dX8_addedAt_39 rfl rfl ?_
          obtain ⟨r12, e11, H⟩ := bn_some H
          refine R_cV dX8_addedAt_40 lvX8_251 ⟨Nat.le_of_ble_eq_true rfl, Nat.le_of_ble_eq_true rfl⟩ (r := 54) rfl (av := [.int x1, .int 0, .int x2]) (st := []) rfl rfl (Nat.le_of_ble_eq_true rfl) (tX8_longestRun e11) ?_
          obtain rfl := Option.some.inj H
          exact R_retI dX8_addedAt_43 rfl (Or.inl rfl)
        · refine R_if_ne_t dX8_addedAt_33 (tgt := 44) (by decide) c10 ?_
          refine R_iconst dX8_addedAt_44 (v := 0) (by decide) ?_
          refine R_istoreW dX8_addedAt_45 (by decide) rfl (ls2 := [.ref 54, .int x1, .int x2, .int x3, .int 0, .null, .null]) rfl ?_
          refine R_iconst dX8_addedAt_47 (v := 0) (by decide) ?_
          refine R_istoreW dX8_addedAt_48 (by decide) rfl (ls2 := [.ref 54, .int x1, .int x2, .int x3, .int 0, .int 0, .null]) rfl ?_
          refine R_null (i := 3) (ls2 := [.ref 54, .int x1, .int x2, .null, .int 0, .int 0, .null]) rfl ?_
          refine tX8_addedAt_L50 (fun z18 r H => ?_) _ _ _ _ H
          refine R_iload dX8_addedAt_94 rfl ?_
          obtain rfl := Option.some.inj H
          exact R_retI dX8_addedAt_96 rfl (Or.inl rfl)

set_option maxRecDepth 100000 in
set_option maxHeartbeats 4000000 in
theorem tX8_couldBegin_L26 {sp : Nat × (Nat → Int32)} {K : Int32 → Option Bool} {h : aH} {x1 : Int32} {x2 : Int32} {x3 : Int32} (hK : ∀ (y4 : Int32) (r : Bool), K y4 = some r → Rn sp mX8_couldBegin 91 [.null, .null, .null, .null, .int y4, .null] [] h (some (.int (bi r))) h) : ∀ (n : Nat) (x4 x5 : Int32) (r : Bool), fX8_couldBegin_L26 K h x1 x2 x3 n x4 x5 = some r → Rn sp mX8_couldBegin 26 [.ref 54, .int x1, .int x2, .int x3, .int x4, .int x5] [] h (some (.int (bi r))) h := by
  intro n
  induction n with
  | zero =>
    intro x4 x5 r H
    rw [fX8_couldBegin_L26] at H
    cases H
  | succ n ih =>
    intro x4 x5 r H
    rw [fX8_couldBegin_L26] at H
    refine R_iload dX8_couldBegin_26 rfl ?_
    refine R_aload_n dX8_couldBegin_28 rfl rfl ?_
    refine R_getF dX8_couldBegin_29 lfX8_7 rfl rfl (q := 55) rfl ?_
    refine R_bipush dX8_couldBegin_32 (v := 48) (by decide) ?_
    refine R_iload_n dX8_couldBegin_34 rfl rfl ?_
    refine R_iadd dX8_couldBegin_35 ?_
    obtain ⟨c3, H⟩ := it_some H
    refine R_ildY dX8_couldBegin_36 rfl rfl (ck_in c3) (j := tn (48 + x1)) rfl (x := h 55 (tn (48 + x1))) rfl ?_
    rcases it_split H with ⟨c4, H⟩ | ⟨c4, H⟩
    · refine R_icmp_ge_t dX8_couldBegin_37 (tgt := 91) (by decide) c4 ?_
      refine R_null (i := 0) (ls2 := [.null, .int x1, .int x2, .int x3, .int x4, .int x5]) rfl ?_
      refine R_null (i := 1) (ls2 := [.null, .null, .int x2, .int x3, .int x4, .int x5]) rfl ?_
      refine R_null (i := 2) (ls2 := [.null, .null, .null, .int x3, .int x4, .int x5]) rfl ?_
      refine R_null (i := 3) (ls2 := [.null, .null, .null, .null, .int x4, .int x5]) rfl ?_
      refine R_null (i := 5) (ls2 := [.null, .null, .null, .null, .int x4, .null]) rfl ?_
      exact hK _ _ H
    · refine R_icmp_ge_f dX8_couldBegin_37 (tgt := 91) (by decide) c4 ?_
      refine R_iload dX8_couldBegin_40 rfl ?_
      rcases it_split H with ⟨c5, H⟩ | ⟨c5, H⟩
      · refine R_if_eq_t dX8_couldBegin_42 (tgt := 91) (by decide) c5 ?_
        refine R_null (i := 0) (ls2 := [.null, .int x1, .int x2, .int x3, .int x4, .int x5]) rfl ?_
        refine R_null (i := 1) (ls2 := [.null, .null, .int x2, .int x3, .int x4, .int x5]) rfl ?_
        refine R_null (i := 2) (ls2 := [.null, .null, .null, .int x3, .int x4, .int x5]) rfl ?_
        refine R_null (i := 3) (ls2 := [.null, .null, .null, .null, .int x4, .int x5]) rfl ?_
        refine R_null (i := 5) (ls2 := [.null, .null, .null, .null, .int x4, .null]) rfl ?_
        exact hK _ _ H
      · refine R_if_eq_f dX8_couldBegin_42 (tgt := 91) (by decide) c5 ?_
        refine R_aload_n dX8_couldBegin_45 rfl rfl ?_
        refine R_getF dX8_couldBegin_46 lfX8_48 rfl rfl (q := 66) rfl ?_
        refine R_iload_n dX8_couldBegin_49 rfl rfl ?_
        obtain ⟨c6, H⟩ := it_some H
        refine R_ildY dX8_couldBegin_50 rfl rfl (ck_in c6) (j := tn x1) rfl (x := h 66 (tn x1)) rfl ?_
        refine R_iload dX8_couldBegin_51 rfl ?_
        obtain ⟨r8, e7, H⟩ := bn_some H
        refine R_cS dX8_couldBegin_53 lvX8_254 ⟨Nat.le_of_ble_eq_true rfl, Nat.le_of_ble_eq_true rfl⟩ (av := [.int (h 66 (tn x1)), .int x5]) (st := []) rfl rfl (Nat.le_of_ble_eq_true rfl) (tX8_has e7) ?_
        rcases it_split H with ⟨c9, H⟩ | ⟨c9, H⟩
        · refine R_if_eq_t dX8_couldBegin_56 (tgt := 78) (by decide) c9 ?_
          refine R_iconst dX8_couldBegin_78 (v := 1) (by decide) ?_
          refine R_goto dX8_couldBegin_79 (tgt := 83) (by decide) ?_
          refine R_istoreW dX8_couldBegin_83 (by decide) rfl (ls2 := [.ref 54, .int x1, .int x2, .int x3, .int 1, .int x5]) rfl ?_
          refine R_iincW dX8_couldBegin_85 rfl (v := x5 + 1) rfl (by decide) rfl (ls2 := [.ref 54, .int x1, .int x2, .int x3, .int 1, .int (x5 + 1)]) rfl ?_
          refine R_goto dX8_couldBegin_88 (tgt := 26) (by decide) ?_
          exact ih _ _ _ H
        · refine R_if_eq_f dX8_couldBegin_56 (tgt := 78) (by decide) c9 ?_
          refine R_aload_n dX8_couldBegin_59 rfl rfl ?_
          refine R_iload_n dX8_couldBegin_60 rfl rfl ?_
          refine R_iload_n dX8_couldBegin_61 rfl rfl ?_
          refine R_iload dX8_couldBegin_62 rfl ?_
          refine R_iadd dX8_couldBegin_64 ?_
          obtain ⟨r11, e10, H⟩ := bn_some H
          refine R_cV dX8_couldBegin_65 lvX8_212 ⟨Nat.le_of_ble_eq_true rfl, Nat.le_of_ble_eq_true rfl⟩ (r := 54) rfl (av := [.int x2, .int (x3 + x5)]) (st := []) rfl rfl (Nat.le_of_ble_eq_true rfl) (tX8_lookAt e10) ?_
          refine R_aload_n dX8_couldBegin_68 rfl rfl ?_
          refine R_iload_n dX8_couldBegin_69 rfl rfl ?_
          refine R_iload dX8_couldBegin_70 rfl ?_
          obtain ⟨r13, e12, H⟩ := bn_some H
          refine R_cV dX8_couldBegin_72 lvX8_222 ⟨Nat.le_of_ble_eq_true rfl, Nat.le_of_ble_eq_true rfl⟩ (r := 54) rfl (av := [.int x1, .int x5]) (st := [.int r11]) rfl rfl (Nat.le_of_ble_eq_true rfl) (tX8_lookOf e12) ?_
          rcases it_split H with ⟨c14, H⟩ | ⟨c14, H⟩
          · refine R_icmp_ne_f dX8_couldBegin_75 (tgt := 82) (by decide) c14 ?_
            refine R_iconst dX8_couldBegin_78 (v := 1) (by decide) ?_
            refine R_goto dX8_couldBegin_79 (tgt := 83) (by decide) ?_
            refine R_istoreW dX8_couldBegin_83 (by decide) rfl (ls2 := [.ref 54, .int x1, .int x2, .int x3, .int 1, .int x5]) rfl ?_
            refine R_iincW dX8_couldBegin_85 rfl (v := x5 + 1) rfl (by decide) rfl (ls2 := [.ref 54, .int x1, .int x2, .int x3, .int 1, .int (x5 + 1)]) rfl ?_
            refine R_goto dX8_couldBegin_88 (tgt := 26) (by decide) ?_
            exact ih _ _ _ H
          · refine R_icmp_ne_t dX8_couldBegin_75 (tgt := 82) (by decide) c14 ?_
            refine R_iconst dX8_couldBegin_82 (v := 0) (by decide) ?_
            refine R_istoreW dX8_couldBegin_83 (by decide) rfl (ls2 := [.ref 54, .int x1, .int x2, .int x3, .int 0, .int x5]) rfl ?_
            refine R_iincW dX8_couldBegin_85 rfl (v := x5 + 1) rfl (by decide) rfl (ls2 := [.ref 54, .int x1, .int x2, .int x3, .int 0, .int (x5 + 1)]) rfl ?_
            refine R_goto dX8_couldBegin_88 (tgt := 26) (by decide) ?_
            exact ih _ _ _ H

set_option maxRecDepth 100000 in
set_option maxHeartbeats 4000000 in
theorem tX8_couldBegin {h : aH} {x1 : Int32} {x2 : Int32} {x3 : Int32} {r : Bool} (H : fX8_couldBegin h x1 x2 x3 = some r) : Ev mX8_couldBegin [.ref 54, .int x1, .int x2, .int x3] h (some (.int (bi r))) h := by
  unfold fX8_couldBegin at H
  refine Ev_of (sp := (0, fun _ => 0)) oX8_couldBegin nlX8 (Nat.le_of_ble_eq_true rfl) (ls0 := [.ref 54, .int x1, .int x2, .int x3, .null, .null]) rfl ?_
  refine R_iload_n dX8_couldBegin_0 rfl rfl ?_
  refine R_aload_n dX8_couldBegin_1 rfl rfl ?_
  refine R_getF dX8_couldBegin_2 lfX8_7 rfl rfl (q := 55) rfl ?_
  refine R_bipush dX8_couldBegin_5 (v := 48) (by decide) ?_
  refine R_iload_n dX8_couldBegin_7 rfl rfl ?_
  refine R_iadd dX8_couldBegin_8 ?_
  obtain ⟨c1, H⟩ := it_some H
  refine R_ildY dX8_couldBegin_9 rfl rfl (ck_in c1) (j := tn (48 + x1)) rfl (x := h 55 (tn (48 + x1))) rfl ?_
  refine R_iadd dX8_couldBegin_10 ?_
  refine R_bipush dX8_couldBegin_11 (v := 96) (by decide) ?_
  rcases it_split H with ⟨c2, H⟩ | ⟨c2, H⟩
  · refine R_icmp_gt_t dX8_couldBegin_13 (tgt := 20) (by decide) c2 ?_
    refine R_iconst dX8_couldBegin_20 (v := 0) (by decide) ?_
    refine R_istoreW dX8_couldBegin_21 (by decide) rfl (ls2 := [.ref 54, .int x1, .int x2, .int x3, .int 0, .null]) rfl ?_
    refine R_iconst dX8_couldBegin_23 (v := 0) (by decide) ?_
    refine R_istoreW dX8_couldBegin_24 (by decide) rfl (ls2 := [.ref 54, .int x1, .int x2, .int x3, .int 0, .int 0]) rfl ?_
    refine tX8_couldBegin_L26 (fun z15 r H => ?_) _ _ _ _ H
    refine R_iload dX8_couldBegin_91 rfl ?_
    exact R_retI dX8_couldBegin_93 (ib_some H) (Or.inr ⟨rfl, bi_01 _⟩)
  · refine R_icmp_gt_f dX8_couldBegin_13 (tgt := 20) (by decide) c2 ?_
    refine R_iconst dX8_couldBegin_16 (v := 1) (by decide) ?_
    refine R_goto dX8_couldBegin_17 (tgt := 21) (by decide) ?_
    refine R_istoreW dX8_couldBegin_21 (by decide) rfl (ls2 := [.ref 54, .int x1, .int x2, .int x3, .int 1, .null]) rfl ?_
    refine R_iconst dX8_couldBegin_23 (v := 0) (by decide) ?_
    refine R_istoreW dX8_couldBegin_24 (by decide) rfl (ls2 := [.ref 54, .int x1, .int x2, .int x3, .int 1, .int 0]) rfl ?_
    refine tX8_couldBegin_L26 (fun z16 r H => ?_) _ _ _ _ H
    refine R_iload dX8_couldBegin_91 rfl ?_
    exact R_retI dX8_couldBegin_93 (ib_some H) (Or.inr ⟨rfl, bi_01 _⟩)

set_option maxRecDepth 100000 in
set_option maxHeartbeats 4000000 in
theorem tX8_findBegins_L15 {sp : Nat × (Nat → Int32)} {K : aH → Int32 → Option (Int32 × aH)} {x1 : Int32} {x3 : Int32} (hK : ∀ (hk : aH) (y2 : Int32) (r : Int32) (h2 : aH), K hk y2 = some (r, h2) → Rn sp mX8_findBegins 66 [.ref 54, .int x1, .int y2, .int x3, .null] [] hk (some (.int r)) h2) : ∀ (n : Nat) (h : aH) (x2 x4 : Int32) (r : Int32) (h2 : aH), fX8_findBegins_L15 K x1 x3 n h x2 x4 = some (r, h2) → Rn sp mX8_findBegins 15 [.ref 54, .int x1, .int x2, .int x3, .int x4] [] h (some (.int r)) h2 := by
  intro n
  induction n with
  | zero =>
    intro h x2 x4 r h2 H
    rw [fX8_findBegins_L15] at H
    cases H
  | succ n ih =>
    intro h x2 x4 r h2 H
    rw [fX8_findBegins_L15] at H
    refine R_iload dX8_findBegins_15 rfl ?_
    refine R_bipush dX8_findBegins_17 (v := 96) (by decide) ?_
    rcases it_split H with ⟨c2, H⟩ | ⟨c2, H⟩
    · refine R_icmp_ge_t dX8_findBegins_19 (tgt := 66) (by decide) c2 ?_
      refine R_null (i := 4) (ls2 := [.ref 54, .int x1, .int x2, .int x3, .null]) rfl ?_
      exact hK _ _ _ _ H
    · refine R_icmp_ge_f dX8_findBegins_19 (tgt := 66) (by decide) c2 ?_
      refine R_aload_n dX8_findBegins_22 rfl rfl ?_
      refine R_getF dX8_findBegins_23 lfX8_51 rfl rfl (q := 67) rfl ?_
      refine R_bipush dX8_findBegins_26 (v := 96) (by decide) ?_
      refine R_iload_n dX8_findBegins_28 rfl rfl ?_
      refine R_imul dX8_findBegins_29 ?_
      refine R_iload dX8_findBegins_30 rfl ?_
      refine R_iadd dX8_findBegins_32 ?_
      refine R_aload_n dX8_findBegins_33 rfl rfl ?_
      refine R_iload_n dX8_findBegins_34 rfl rfl ?_
      refine R_iload_n dX8_findBegins_35 rfl rfl ?_
      refine R_iload dX8_findBegins_36 rfl ?_
      obtain ⟨r4, e3, H⟩ := bn_some H
      refine R_cV dX8_findBegins_38 lvX8_257 ⟨Nat.le_of_ble_eq_true rfl, Nat.le_of_ble_eq_true rfl⟩ (r := 54) rfl (av := [.int x1, .int x3, .int x4]) (st := [.int ((96 * x3) + x4), .ref 67]) rfl rfl (Nat.le_of_ble_eq_true rfl) (tX8_couldBegin e3) ?_
      obtain ⟨c5, H⟩ := it_some H
      refine R_zastX dX8_findBegins_41 rfl rfl (ck_in c5) (bi_01 _) (j := tn ((96 * x3) + x4)) rfl ?_
      refine R_iload_n dX8_findBegins_42 rfl rfl ?_
      refine R_aload_n dX8_findBegins_43 rfl rfl ?_
      refine R_getF dX8_findBegins_44 lfX8_51 rfl rfl (q := 67) rfl ?_
      refine R_bipush dX8_findBegins_47 (v := 96) (by decide) ?_
      refine R_iload_n dX8_findBegins_49 rfl rfl ?_
      refine R_imul dX8_findBegins_50 ?_
      refine R_iload dX8_findBegins_51 rfl ?_
      refine R_iadd dX8_findBegins_53 ?_
      refine R_zldY dX8_findBegins_54 rfl rfl (ck_in c5) (j := tn ((96 * x3) + x4)) rfl (x := bi r4) (by simp [aU, upd]) ?_
      obtain ⟨r7, e6, H⟩ := bn_some H
      refine R_cS dX8_findBegins_55 lvX8_172 ⟨Nat.le_of_ble_eq_true rfl, Nat.le_of_ble_eq_true rfl⟩ (av := [.int (bi r4)]) (st := [.int x2]) rfl rfl (Nat.le_of_ble_eq_true rfl) (tX8_one e6) ?_
      refine R_iadd dX8_findBegins_58 ?_
      refine R_istoreN dX8_findBegins_59 rfl (by decide) rfl (ls2 := [.ref 54, .int x1, .int (x2 + r7), .int x3, .int x4]) rfl ?_
      refine R_iincW dX8_findBegins_60 rfl (v := x4 + 1) rfl (by decide) rfl (ls2 := [.ref 54, .int x1, .int (x2 + r7), .int x3, .int (x4 + 1)]) rfl ?_
      refine R_goto dX8_findBegins_63 (tgt := 15) (by decide) ?_
      exact ih _ _ _ _ _ H

set_option maxRecDepth 100000 in
set_option maxHeartbeats 4000000 in
theorem tX8_findBegins_L4 {sp : Nat × (Nat → Int32)} {K : aH → Int32 → Option (Int32 × aH)} {x1 : Int32} (hK : ∀ (hk : aH) (y2 : Int32) (r : Int32) (h2 : aH), K hk y2 = some (r, h2) → Rn sp mX8_findBegins 72 [.null, .null, .int y2, .null, .null] [] hk (some (.int r)) h2) : ∀ (n : Nat) (h : aH) (x2 x3 : Int32) (r : Int32) (h2 : aH), fX8_findBegins_L4 K x1 n h x2 x3 = some (r, h2) → Rn sp mX8_findBegins 4 [.ref 54, .int x1, .int x2, .int x3, .null] [] h (some (.int r)) h2 := by
  intro n
  induction n with
  | zero =>
    intro h x2 x3 r h2 H
    rw [fX8_findBegins_L4] at H
    cases H
  | succ n ih =>
    intro h x2 x3 r h2 H
    rw [fX8_findBegins_L4] at H
    refine R_iload_n dX8_findBegins_4 rfl rfl ?_
    refine R_aload_n dX8_findBegins_5 rfl rfl ?_
    refine R_getX dX8_findBegins_6 lfX8_150 rfl rfl (x := h 54 11) rfl ?_
    rcases it_split H with ⟨c1, H⟩ | ⟨c1, H⟩
    · refine R_icmp_ge_t dX8_findBegins_9 (tgt := 72) (by decide) c1 ?_
      refine R_null (i := 0) (ls2 := [.null, .int x1, .int x2, .int x3, .null]) rfl ?_
      refine R_null (i := 1) (ls2 := [.null, .null, .int x2, .int x3, .null]) rfl ?_
      refine R_null (i := 3) (ls2 := [.null, .null, .int x2, .null, .null]) rfl ?_
      exact hK _ _ _ _ H
    · refine R_icmp_ge_f dX8_findBegins_9 (tgt := 72) (by decide) c1 ?_
      refine R_iconst dX8_findBegins_12 (v := 0) (by decide) ?_
      refine R_istoreW dX8_findBegins_13 (by decide) rfl (ls2 := [.ref 54, .int x1, .int x2, .int x3, .int 0]) rfl ?_
      refine tX8_findBegins_L15 (fun h9 z8 r h2 H => ?_) _ _ _ _ _ _ H
      refine R_iincW dX8_findBegins_66 rfl (v := x3 + 1) rfl (by decide) rfl (ls2 := [.ref 54, .int x1, .int z8, .int (x3 + 1), .null]) rfl ?_
      refine R_goto dX8_findBegins_69 (tgt := 4) (by decide) ?_
      exact ih _ _ _ _ _ H

set_option maxRecDepth 100000 in
set_option maxHeartbeats 4000000 in
theorem tX8_findBegins {h : aH} {x1 : Int32} {r : Int32} {h2 : aH} (H : fX8_findBegins h x1 = some (r, h2)) : Ev mX8_findBegins [.ref 54, .int x1] h (some (.int r)) h2 := by
  unfold fX8_findBegins at H
  refine Ev_of (sp := (0, fun _ => 0)) oX8_findBegins nlX8 (Nat.le_of_ble_eq_true rfl) (ls0 := [.ref 54, .int x1, .null, .null, .null]) rfl ?_
  refine R_iconst dX8_findBegins_0 (v := 0) (by decide) ?_
  refine R_istoreN dX8_findBegins_1 rfl (by decide) rfl (ls2 := [.ref 54, .int x1, .int 0, .null, .null]) rfl ?_
  refine R_iconst dX8_findBegins_2 (v := 0) (by decide) ?_
  refine R_istoreN dX8_findBegins_3 rfl (by decide) rfl (ls2 := [.ref 54, .int x1, .int 0, .int 0, .null]) rfl ?_
  refine tX8_findBegins_L4 (fun h11 z10 r h2 H => ?_) _ _ _ _ _ _ H
  refine R_iload_n dX8_findBegins_72 rfl rfl ?_
  obtain ⟨rfl, rfl⟩ := so2 H
  exact R_retI dX8_findBegins_73 rfl (Or.inl rfl)

set_option maxRecDepth 100000 in
set_option maxHeartbeats 4000000 in
theorem tX8_greatestPart_L4 {sp : Nat × (Nat → Int32)} {K : aH → Int32 → Option (Int32 × aH)} {x1 : Int32} (hK : ∀ (hk : aH) (y2 : Int32) (r : Int32) (h2 : aH), K hk y2 = some (r, h2) → Rn sp mX8_greatestPart 80 [.ref 54, .int x1, .int y2, .null, .null] [] hk (some (.int r)) h2) : ∀ (n : Nat) (h : aH) (x2 x3 : Int32) (r : Int32) (h2 : aH), fX8_greatestPart_L4 K x1 n h x2 x3 = some (r, h2) → Rn sp mX8_greatestPart 4 [.ref 54, .int x1, .int x2, .int x3, .null] [] h (some (.int r)) h2 := by
  intro n
  induction n with
  | zero =>
    intro h x2 x3 r h2 H
    rw [fX8_greatestPart_L4] at H
    cases H
  | succ n ih =>
    intro h x2 x3 r h2 H
    rw [fX8_greatestPart_L4] at H
    refine R_iload_n dX8_greatestPart_4 rfl rfl ?_
    refine R_bipush dX8_greatestPart_5 (v := 96) (by decide) ?_
    refine R_aload_n dX8_greatestPart_7 rfl rfl ?_
    refine R_getX dX8_greatestPart_8 lfX8_150 rfl rfl (x := h 54 11) rfl ?_
    refine R_imul dX8_greatestPart_11 ?_
    rcases it_split H with ⟨c1, H⟩ | ⟨c1, H⟩
    · refine R_icmp_ge_t dX8_greatestPart_12 (tgt := 80) (by decide) c1 ?_
      refine R_null (i := 3) (ls2 := [.ref 54, .int x1, .int x2, .null, .null]) rfl ?_
      exact hK _ _ _ _ H
    · refine R_icmp_ge_f dX8_greatestPart_12 (tgt := 80) (by decide) c1 ?_
      refine R_aload_n dX8_greatestPart_15 rfl rfl ?_
      refine R_getF dX8_greatestPart_16 lfX8_51 rfl rfl (q := 67) rfl ?_
      refine R_iload_n dX8_greatestPart_19 rfl rfl ?_
      obtain ⟨c2, H⟩ := it_some H
      refine R_zldY dX8_greatestPart_20 rfl rfl (ck_in c2) (j := tn x3) rfl (x := h 67 (tn x3)) rfl ?_
      rcases it_split H with ⟨c3, H⟩ | ⟨c3, H⟩
      · refine R_if_eq_t dX8_greatestPart_21 (tgt := 74) (by decide) c3 ?_
        refine R_iincW dX8_greatestPart_74 rfl (v := x3 + 1) rfl (by decide) rfl (ls2 := [.ref 54, .int x1, .int x2, .int (x3 + 1), .null]) rfl ?_
        refine R_goto dX8_greatestPart_77 (tgt := 4) (by decide) ?_
        exact ih _ _ _ _ _ H
      · refine R_if_eq_f dX8_greatestPart_21 (tgt := 74) (by decide) c3 ?_
        refine R_aload_n dX8_greatestPart_24 rfl rfl ?_
        refine R_iload_n dX8_greatestPart_25 rfl rfl ?_
        refine R_bipush dX8_greatestPart_26 (v := 96) (by decide) ?_
        refine R_idiv dX8_greatestPart_28 (by decide) ?_
        refine R_iload_n dX8_greatestPart_29 rfl rfl ?_
        refine R_bipush dX8_greatestPart_30 (v := 96) (by decide) ?_
        refine R_iremX dX8_greatestPart_32 (by decide) ?_
        refine R_iload_n dX8_greatestPart_33 rfl rfl ?_
        refine R_iadd dX8_greatestPart_34 ?_
        obtain ⟨r5, e4, H⟩ := bn_some H
        refine R_cV dX8_greatestPart_35 lvX8_212 ⟨Nat.le_of_ble_eq_true rfl, Nat.le_of_ble_eq_true rfl⟩ (r := 54) rfl (av := [.int (x3 / 96), .int ((rmd x3 96) + x1)]) (st := []) rfl rfl (Nat.le_of_ble_eq_true rfl) (tX8_lookAt e4) ?_
        refine R_istoreW dX8_greatestPart_38 (by decide) rfl (ls2 := [.ref 54, .int x1, .int x2, .int x3, .int r5]) rfl ?_
        refine R_aload_n dX8_greatestPart_40 rfl rfl ?_
        refine R_getF dX8_greatestPart_41 lfX8_54 rfl rfl (q := 68) rfl ?_
        refine R_iload dX8_greatestPart_44 rfl ?_
        refine R_dup2 dX8_greatestPart_46 rfl rfl ?_
        obtain ⟨c6, H⟩ := it_some H
        refine R_ildY dX8_greatestPart_47 rfl rfl (ck_in c6) (j := tn r5) rfl (x := h 68 (tn r5)) rfl ?_
        refine R_iconst dX8_greatestPart_48 (v := 1) (by decide) ?_
        refine R_iadd dX8_greatestPart_49 ?_
        refine R_iastX dX8_greatestPart_50 rfl rfl (ck_in c6) (j := tn r5) rfl ?_
        refine R_aload_n dX8_greatestPart_51 rfl rfl ?_
        refine R_getF dX8_greatestPart_52 lfX8_54 rfl rfl (q := 68) rfl ?_
        refine R_iload dX8_greatestPart_55 rfl ?_
        refine R_ildY dX8_greatestPart_57 rfl rfl (ck_in c6) (j := tn r5) rfl (x := (h 68 (tn r5)) + 1) (by simp [aU, upd]) ?_
        refine R_iload_n dX8_greatestPart_58 rfl rfl ?_
        rcases it_split H with ⟨c7, H⟩ | ⟨c7, H⟩
        · refine R_icmp_le_t dX8_greatestPart_59 (tgt := 72) (by decide) c7 ?_
          refine R_iload_n dX8_greatestPart_72 rfl rfl ?_
          refine R_istoreN dX8_greatestPart_73 rfl (by decide) rfl (ls2 := [.ref 54, .int x1, .int x2, .int x3, .int r5]) rfl ?_
          refine R_iincW dX8_greatestPart_74 rfl (v := x3 + 1) rfl (by decide) rfl (ls2 := [.ref 54, .int x1, .int x2, .int (x3 + 1), .int r5]) rfl ?_
          refine R_goto dX8_greatestPart_77 (tgt := 4) (by decide) ?_
          refine R_null (i := 4) (ls2 := [.ref 54, .int x1, .int x2, .int (x3 + 1), .null]) rfl ?_
          exact ih _ _ _ _ _ H
        · refine R_icmp_le_f dX8_greatestPart_59 (tgt := 72) (by decide) c7 ?_
          refine R_aload_n dX8_greatestPart_62 rfl rfl ?_
          refine R_getF dX8_greatestPart_63 lfX8_54 rfl rfl (q := 68) rfl ?_
          refine R_iload dX8_greatestPart_66 rfl ?_
          refine R_ildY dX8_greatestPart_68 rfl rfl (ck_in c6) (j := tn r5) rfl (x := (h 68 (tn r5)) + 1) (by simp [aU, upd]) ?_
          refine R_goto dX8_greatestPart_69 (tgt := 73) (by decide) ?_
          refine R_istoreN dX8_greatestPart_73 rfl (by decide) rfl (ls2 := [.ref 54, .int x1, .int ((h 68 (tn r5)) + 1), .int x3, .int r5]) rfl ?_
          refine R_iincW dX8_greatestPart_74 rfl (v := x3 + 1) rfl (by decide) rfl (ls2 := [.ref 54, .int x1, .int ((h 68 (tn r5)) + 1), .int (x3 + 1), .int r5]) rfl ?_
          refine R_goto dX8_greatestPart_77 (tgt := 4) (by decide) ?_
          refine R_null (i := 4) (ls2 := [.ref 54, .int x1, .int ((h 68 (tn r5)) + 1), .int (x3 + 1), .null]) rfl ?_
          exact ih _ _ _ _ _ H

set_option maxRecDepth 100000 in
set_option maxHeartbeats 4000000 in
theorem tX8_greatestPart_L82 {sp : Nat × (Nat → Int32)} {K : aH → Option (Int32 × aH)} {x1 : Int32} {x2 : Int32} (hK : ∀ (hk : aH) (r : Int32) (h2 : aH), K hk = some (r, h2) → Rn sp mX8_greatestPart 128 [.null, .null, .int x2, .null, .null] [] hk (some (.int r)) h2) : ∀ (n : Nat) (h : aH) (x3 : Int32) (r : Int32) (h2 : aH), fX8_greatestPart_L82 K x1 x2 n h x3 = some (r, h2) → Rn sp mX8_greatestPart 82 [.ref 54, .int x1, .int x2, .int x3, .null] [] h (some (.int r)) h2 := by
  intro n
  induction n with
  | zero =>
    intro h x3 r h2 H
    rw [fX8_greatestPart_L82] at H
    cases H
  | succ n ih =>
    intro h x3 r h2 H
    rw [fX8_greatestPart_L82] at H
    refine R_iload_n dX8_greatestPart_82 rfl rfl ?_
    refine R_bipush dX8_greatestPart_83 (v := 96) (by decide) ?_
    refine R_aload_n dX8_greatestPart_85 rfl rfl ?_
    refine R_getX dX8_greatestPart_86 lfX8_150 rfl rfl (x := h 54 11) rfl ?_
    refine R_imul dX8_greatestPart_89 ?_
    rcases it_split H with ⟨c10, H⟩ | ⟨c10, H⟩
    · refine R_icmp_ge_t dX8_greatestPart_90 (tgt := 128) (by decide) c10 ?_
      refine R_null (i := 0) (ls2 := [.null, .int x1, .int x2, .int x3, .null]) rfl ?_
      refine R_null (i := 1) (ls2 := [.null, .null, .int x2, .int x3, .null]) rfl ?_
      refine R_null (i := 3) (ls2 := [.null, .null, .int x2, .null, .null]) rfl ?_
      exact hK _ _ _ H
    · refine R_icmp_ge_f dX8_greatestPart_90 (tgt := 128) (by decide) c10 ?_
      refine R_aload_n dX8_greatestPart_93 rfl rfl ?_
      refine R_getF dX8_greatestPart_94 lfX8_51 rfl rfl (q := 67) rfl ?_
      refine R_iload_n dX8_greatestPart_97 rfl rfl ?_
      obtain ⟨c11, H⟩ := it_some H
      refine R_zldY dX8_greatestPart_98 rfl rfl (ck_in c11) (j := tn x3) rfl (x := h 67 (tn x3)) rfl ?_
      rcases it_split H with ⟨c12, H⟩ | ⟨c12, H⟩
      · refine R_if_eq_t dX8_greatestPart_99 (tgt := 122) (by decide) c12 ?_
        refine R_iincW dX8_greatestPart_122 rfl (v := x3 + 1) rfl (by decide) rfl (ls2 := [.ref 54, .int x1, .int x2, .int (x3 + 1), .null]) rfl ?_
        refine R_goto dX8_greatestPart_125 (tgt := 82) (by decide) ?_
        exact ih _ _ _ _ H
      · refine R_if_eq_f dX8_greatestPart_99 (tgt := 122) (by decide) c12 ?_
        refine R_aload_n dX8_greatestPart_102 rfl rfl ?_
        refine R_getF dX8_greatestPart_103 lfX8_54 rfl rfl (q := 68) rfl ?_
        refine R_aload_n dX8_greatestPart_106 rfl rfl ?_
        refine R_iload_n dX8_greatestPart_107 rfl rfl ?_
        refine R_bipush dX8_greatestPart_108 (v := 96) (by decide) ?_
        refine R_idiv dX8_greatestPart_110 (by decide) ?_
        refine R_iload_n dX8_greatestPart_111 rfl rfl ?_
        refine R_bipush dX8_greatestPart_112 (v := 96) (by decide) ?_
        refine R_iremX dX8_greatestPart_114 (by decide) ?_
        refine R_iload_n dX8_greatestPart_115 rfl rfl ?_
        refine R_iadd dX8_greatestPart_116 ?_
        obtain ⟨r14, e13, H⟩ := bn_some H
        refine R_cV dX8_greatestPart_117 lvX8_212 ⟨Nat.le_of_ble_eq_true rfl, Nat.le_of_ble_eq_true rfl⟩ (r := 54) rfl (av := [.int (x3 / 96), .int ((rmd x3 96) + x1)]) (st := [.ref 68]) rfl rfl (Nat.le_of_ble_eq_true rfl) (tX8_lookAt e13) ?_
        refine R_iconst dX8_greatestPart_120 (v := 0) (by decide) ?_
        obtain ⟨c15, H⟩ := it_some H
        refine R_iastX dX8_greatestPart_121 rfl rfl (ck_in c15) (j := tn r14) rfl ?_
        refine R_iincW dX8_greatestPart_122 rfl (v := x3 + 1) rfl (by decide) rfl (ls2 := [.ref 54, .int x1, .int x2, .int (x3 + 1), .null]) rfl ?_
        refine R_goto dX8_greatestPart_125 (tgt := 82) (by decide) ?_
        exact ih _ _ _ _ H

set_option maxRecDepth 100000 in
set_option maxHeartbeats 4000000 in
theorem tX8_greatestPart {h : aH} {x1 : Int32} {r : Int32} {h2 : aH} (H : fX8_greatestPart h x1 = some (r, h2)) : Ev mX8_greatestPart [.ref 54, .int x1] h (some (.int r)) h2 := by
  unfold fX8_greatestPart at H
  refine Ev_of (sp := (0, fun _ => 0)) oX8_greatestPart nlX8 (Nat.le_of_ble_eq_true rfl) (ls0 := [.ref 54, .int x1, .null, .null, .null]) rfl ?_
  refine R_iconst dX8_greatestPart_0 (v := 0) (by decide) ?_
  refine R_istoreN dX8_greatestPart_1 rfl (by decide) rfl (ls2 := [.ref 54, .int x1, .int 0, .null, .null]) rfl ?_
  refine R_iconst dX8_greatestPart_2 (v := 0) (by decide) ?_
  refine R_istoreN dX8_greatestPart_3 rfl (by decide) rfl (ls2 := [.ref 54, .int x1, .int 0, .int 0, .null]) rfl ?_
  refine tX8_greatestPart_L4 (fun h9 z8 r h2 H => ?_) _ _ _ _ _ _ H
  refine R_iconst dX8_greatestPart_80 (v := 0) (by decide) ?_
  refine R_istoreN dX8_greatestPart_81 rfl (by decide) rfl (ls2 := [.ref 54, .int x1, .int z8, .int 0, .null]) rfl ?_
  refine tX8_greatestPart_L82 (fun h16 r h2 H => ?_) _ _ _ _ _ H
  refine R_iload_n dX8_greatestPart_128 rfl rfl ?_
  obtain ⟨rfl, rfl⟩ := so2 H
  exact R_retI dX8_greatestPart_129 rfl (Or.inl rfl)

set_option maxRecDepth 100000 in
set_option maxHeartbeats 4000000 in
theorem tX8_next_L39 {sp : Nat × (Nat → Int32)} {K : aH → Int32 → Option (Int32 × aH)} {x1 : Int32} {x2 : Int32} {x3 : Int32} (hK : ∀ (hk : aH) (y4 : Int32) (r : Int32) (h2 : aH), K hk y4 = some (r, h2) → Rn sp mX8_next 104 [.null, .null, .int x2, .int x3, .int y4, .null, .null, .null] [] hk (some (.int r)) h2) : ∀ (n : Nat) (h : aH) (x4 x5 x6 : Int32) (r : Int32) (h2 : aH), fX8_next_L39 K x1 x2 x3 n h x4 x5 x6 = some (r, h2) → Rn sp mX8_next 39 [.ref 54, .int x1, .int x2, .int x3, .int x4, .int x5, .int x6, .null] [] h (some (.int r)) h2 := by
  intro n
  induction n with
  | zero =>
    intro h x4 x5 x6 r h2 H
    rw [fX8_next_L39] at H
    cases H
  | succ n ih =>
    intro h x4 x5 x6 r h2 H
    rw [fX8_next_L39] at H
    refine R_iload dX8_next_39 rfl ?_
    refine R_aload_n dX8_next_41 rfl rfl ?_
    refine R_getF dX8_next_42 lfX8_7 rfl rfl (q := 55) rfl ?_
    refine R_bipush dX8_next_45 (v := 48) (by decide) ?_
    refine R_iload_n dX8_next_47 rfl rfl ?_
    refine R_iadd dX8_next_48 ?_
    obtain ⟨c10, H⟩ := it_some H
    refine R_ildY dX8_next_49 rfl rfl (ck_in c10) (j := tn (48 + x1)) rfl (x := h 55 (tn (48 + x1))) rfl ?_
    rcases it_split H with ⟨c11, H⟩ | ⟨c11, H⟩
    · refine R_icmp_ge_t dX8_next_50 (tgt := 104) (by decide) c11 ?_
      refine R_null (i := 0) (ls2 := [.null, .int x1, .int x2, .int x3, .int x4, .int x5, .int x6, .null]) rfl ?_
      refine R_null (i := 1) (ls2 := [.null, .null, .int x2, .int x3, .int x4, .int x5, .int x6, .null]) rfl ?_
      refine R_null (i := 5) (ls2 := [.null, .null, .int x2, .int x3, .int x4, .null, .int x6, .null]) rfl ?_
      refine R_null (i := 6) (ls2 := [.null, .null, .int x2, .int x3, .int x4, .null, .null, .null]) rfl ?_
      exact hK _ _ _ _ H
    · refine R_icmp_ge_f dX8_next_50 (tgt := 104) (by decide) c11 ?_
      refine R_iload_n dX8_next_53 rfl rfl ?_
      refine R_iconst dX8_next_54 (v := 1) (by decide) ?_
      rcases it_split H with ⟨c12, H⟩ | ⟨c12, H⟩
      · refine R_icmp_ne_f dX8_next_55 (tgt := 104) (by decide) c12 ?_
        refine R_aload_n dX8_next_58 rfl rfl ?_
        refine R_iload dX8_next_59 rfl ?_
        obtain ⟨r15, h14, e13, H⟩ := bn2_some H
        refine R_cV dX8_next_61 lvX8_264 ⟨Nat.le_of_ble_eq_true rfl, Nat.le_of_ble_eq_true rfl⟩ (r := 54) rfl (av := [.int x6]) (st := []) rfl rfl (Nat.le_of_ble_eq_true rfl) (tX8_greatestPart e13) ?_
        refine R_istoreW dX8_next_64 (by decide) rfl (ls2 := [.ref 54, .int x1, .int x2, .int x3, .int x4, .int x5, .int x6, .int r15]) rfl ?_
        refine R_iload dX8_next_66 rfl ?_
        refine R_iload dX8_next_68 rfl ?_
        rcases it_split H with ⟨c16, H⟩ | ⟨c16, H⟩
        · refine R_icmp_ge_t dX8_next_70 (tgt := 78) (by decide) c16 ?_
          refine R_iload dX8_next_78 rfl ?_
          refine R_istoreW dX8_next_80 (by decide) rfl (ls2 := [.ref 54, .int x1, .int x2, .int x3, .int x4, .int x5, .int x6, .int r15]) rfl ?_
          refine R_iload dX8_next_82 rfl ?_
          refine R_iload dX8_next_84 rfl ?_
          refine R_icmp_ge_t dX8_next_86 (tgt := 94) (by decide) c16 ?_
          refine R_iload dX8_next_94 rfl ?_
          refine R_istoreW dX8_next_96 (by decide) rfl (ls2 := [.ref 54, .int x1, .int x2, .int x3, .int x4, .int x5, .int x6, .int r15]) rfl ?_
          refine R_iincW dX8_next_98 rfl (v := x6 + 1) rfl (by decide) rfl (ls2 := [.ref 54, .int x1, .int x2, .int x3, .int x4, .int x5, .int (x6 + 1), .int r15]) rfl ?_
          refine R_goto dX8_next_101 (tgt := 39) (by decide) ?_
          refine R_null (i := 7) (ls2 := [.ref 54, .int x1, .int x2, .int x3, .int x4, .int x5, .int (x6 + 1), .null]) rfl ?_
          exact ih _ _ _ _ _ _ H
        · refine R_icmp_ge_f dX8_next_70 (tgt := 78) (by decide) c16 ?_
          refine R_iload dX8_next_73 rfl ?_
          refine R_goto dX8_next_75 (tgt := 80) (by decide) ?_
          refine R_istoreW dX8_next_80 (by decide) rfl (ls2 := [.ref 54, .int x1, .int x2, .int x3, .int x6, .int x5, .int x6, .int r15]) rfl ?_
          refine R_iload dX8_next_82 rfl ?_
          refine R_iload dX8_next_84 rfl ?_
          refine R_icmp_ge_f dX8_next_86 (tgt := 94) (by decide) c16 ?_
          refine R_iload dX8_next_89 rfl ?_
          refine R_goto dX8_next_91 (tgt := 96) (by decide) ?_
          refine R_istoreW dX8_next_96 (by decide) rfl (ls2 := [.ref 54, .int x1, .int x2, .int x3, .int x6, .int r15, .int x6, .int r15]) rfl ?_
          refine R_iincW dX8_next_98 rfl (v := x6 + 1) rfl (by decide) rfl (ls2 := [.ref 54, .int x1, .int x2, .int x3, .int x6, .int r15, .int (x6 + 1), .int r15]) rfl ?_
          refine R_goto dX8_next_101 (tgt := 39) (by decide) ?_
          refine R_null (i := 7) (ls2 := [.ref 54, .int x1, .int x2, .int x3, .int x6, .int r15, .int (x6 + 1), .null]) rfl ?_
          exact ih _ _ _ _ _ _ H
      · refine R_icmp_ne_t dX8_next_55 (tgt := 104) (by decide) c12 ?_
        refine R_null (i := 0) (ls2 := [.null, .int x1, .int x2, .int x3, .int x4, .int x5, .int x6, .null]) rfl ?_
        refine R_null (i := 1) (ls2 := [.null, .null, .int x2, .int x3, .int x4, .int x5, .int x6, .null]) rfl ?_
        refine R_null (i := 5) (ls2 := [.null, .null, .int x2, .int x3, .int x4, .null, .int x6, .null]) rfl ?_
        refine R_null (i := 6) (ls2 := [.null, .null, .int x2, .int x3, .int x4, .null, .null, .null]) rfl ?_
        exact hK _ _ _ _ H

set_option maxRecDepth 100000 in
set_option maxHeartbeats 4000000 in
theorem tX8_next {h : aH} {x1 : Int32} {x2 : Int32} {r : Int32} {h2 : aH} (H : fX8_next h x1 x2 = some (r, h2)) : Ev mX8_next [.ref 54, .int x1, .int x2] h (some (.int r)) h2 := by
  unfold fX8_next at H
  refine Ev_of (sp := (0, fun _ => 0)) oX8_next nlX8 (Nat.le_of_ble_eq_true rfl) (ls0 := [.ref 54, .int x1, .int x2, .null, .null, .null, .null, .null]) rfl ?_
  refine R_aload_n dX8_next_0 rfl rfl ?_
  refine R_iload_n dX8_next_1 rfl rfl ?_
  obtain ⟨r2, e1, H⟩ := bn_some H
  refine R_cV dX8_next_2 lvX8_166 ⟨Nat.le_of_ble_eq_true rfl, Nat.le_of_ble_eq_true rfl⟩ (r := 54) rfl (av := [.int x1]) (st := []) rfl rfl (Nat.le_of_ble_eq_true rfl) (tX8_isPaper e1) ?_
  rcases it_split H with ⟨c3, H⟩ | ⟨c3, H⟩
  · refine R_if_ne_f dX8_next_5 (tgt := 11) (by decide) c3 ?_
    refine R_ldc dX8_next_8 lcX8_198 ?_
    obtain ⟨rfl, rfl⟩ := so2 H
    exact R_retI dX8_next_10 rfl (Or.inl rfl)
  · refine R_if_ne_t dX8_next_5 (tgt := 11) (by decide) c3 ?_
    refine R_iload_n dX8_next_11 rfl rfl ?_
    refine R_i2l dX8_next_12 ?_
    refine R_lconst dX8_next_13 (v := 0) rfl ?_
    refine R_lconst dX8_next_14 (v := 1) rfl ?_
    obtain ⟨r5, e4, H⟩ := bn_some H
    refine R_cS dX8_next_15 lvX8_71 ⟨Nat.le_of_ble_eq_true rfl, Nat.le_of_ble_eq_true rfl⟩ (av := [.long (Int32.toInt64 x2), .long 0, .long 1]) (st := []) rfl rfl (Nat.le_of_ble_eq_true rfl) (tX8_in e4) ?_
    rcases it_split H with ⟨c6, H⟩ | ⟨c6, H⟩
    · refine R_if_ne_f dX8_next_18 (tgt := 24) (by decide) c6 ?_
      refine R_ldc dX8_next_21 lcX8_75 ?_
      obtain ⟨rfl, rfl⟩ := so2 H
      exact R_retI dX8_next_23 rfl (Or.inl rfl)
    · refine R_if_ne_t dX8_next_18 (tgt := 24) (by decide) c6 ?_
      refine R_aload_n dX8_next_24 rfl rfl ?_
      refine R_iload_n dX8_next_25 rfl rfl ?_
      obtain ⟨r9, h8, e7, H⟩ := bn2_some H
      refine R_cV dX8_next_26 lvX8_261 ⟨Nat.le_of_ble_eq_true rfl, Nat.le_of_ble_eq_true rfl⟩ (r := 54) rfl (av := [.int x1]) (st := []) rfl rfl (Nat.le_of_ble_eq_true rfl) (tX8_findBegins e7) ?_
      refine R_istoreN dX8_next_29 rfl (by decide) rfl (ls2 := [.ref 54, .int x1, .int x2, .int r9, .null, .null, .null, .null]) rfl ?_
      refine R_iconst dX8_next_30 (v := (-1)) (by decide) ?_
      refine R_istoreW dX8_next_31 (by decide) rfl (ls2 := [.ref 54, .int x1, .int x2, .int r9, .int (-1), .null, .null, .null]) rfl ?_
      refine R_iload_n dX8_next_33 rfl rfl ?_
      refine R_istoreW dX8_next_34 (by decide) rfl (ls2 := [.ref 54, .int x1, .int x2, .int r9, .int (-1), .int r9, .null, .null]) rfl ?_
      refine R_iconst dX8_next_36 (v := 0) (by decide) ?_
      refine R_istoreW dX8_next_37 (by decide) rfl (ls2 := [.ref 54, .int x1, .int x2, .int r9, .int (-1), .int r9, .int 0, .null]) rfl ?_
      refine tX8_next_L39 (fun h18 z17 r h2 H => ?_) _ _ _ _ _ _ _ H
      refine R_iload_n dX8_next_104 rfl rfl ?_
      rcases it_split H with ⟨c19, H⟩ | ⟨c19, H⟩
      · refine R_if_ne_f dX8_next_105 (tgt := 112) (by decide) c19 ?_
        refine R_iload_n dX8_next_108 rfl rfl ?_
        refine R_goto dX8_next_109 (tgt := 114) (by decide) ?_
        obtain ⟨rfl, rfl⟩ := so2 H
        exact R_retI dX8_next_114 rfl (Or.inl rfl)
      · refine R_if_ne_t dX8_next_105 (tgt := 112) (by decide) c19 ?_
        refine R_iload dX8_next_112 rfl ?_
        obtain ⟨rfl, rfl⟩ := so2 H
        exact R_retI dX8_next_114 rfl (Or.inl rfl)

set_option maxRecDepth 100000 in
set_option maxHeartbeats 4000000 in
theorem tX8_soonest_L36 {sp : Nat × (Nat → Int32)} {K : Unit → Option Int32} {h : aH} {x1 : Int32} {x2 : Int32} (hK : ∀ (_ : Unit) (r : Int32), K () = some r → Rn sp mX8_soonest 63 [.null, .null, .null, .null, .null] [] h (some (.int r)) h) : ∀ (n : Nat) (x4 : Int32) (r : Int32), fX8_soonest_L36 K h x1 x2 n x4 = some r → Rn sp mX8_soonest 36 [.ref 54, .int x1, .int x2, .null, .int x4] [] h (some (.int r)) h := by
  intro n
  induction n with
  | zero =>
    intro x4 r H
    rw [fX8_soonest_L36] at H
    cases H
  | succ n ih =>
    intro x4 r H
    rw [fX8_soonest_L36] at H
    refine R_iload dX8_soonest_36 rfl ?_
    refine R_bipush dX8_soonest_38 (v := 96) (by decide) ?_
    rcases it_split H with ⟨c10, H⟩ | ⟨c10, H⟩
    · refine R_icmp_ge_t dX8_soonest_40 (tgt := 63) (by decide) c10 ?_
      refine R_null (i := 0) (ls2 := [.null, .int x1, .int x2, .null, .int x4]) rfl ?_
      refine R_null (i := 1) (ls2 := [.null, .null, .int x2, .null, .int x4]) rfl ?_
      refine R_null (i := 2) (ls2 := [.null, .null, .null, .null, .int x4]) rfl ?_
      refine R_null (i := 4) (ls2 := [.null, .null, .null, .null, .null]) rfl ?_
      exact hK () _ H
    · refine R_icmp_ge_f dX8_soonest_40 (tgt := 63) (by decide) c10 ?_
      refine R_aload_n dX8_soonest_43 rfl rfl ?_
      refine R_iload_n dX8_soonest_44 rfl rfl ?_
      refine R_iload dX8_soonest_45 rfl ?_
      obtain ⟨r12, e11, H⟩ := bn_some H
      refine R_cV dX8_soonest_47 lvX8_212 ⟨Nat.le_of_ble_eq_true rfl, Nat.le_of_ble_eq_true rfl⟩ (r := 54) rfl (av := [.int x1, .int x4]) (st := []) rfl rfl (Nat.le_of_ble_eq_true rfl) (tX8_lookAt e11) ?_
      refine R_iload_n dX8_soonest_50 rfl rfl ?_
      rcases it_split H with ⟨c13, H⟩ | ⟨c13, H⟩
      · refine R_icmp_ne_f dX8_soonest_51 (tgt := 57) (by decide) c13 ?_
        refine R_iload dX8_soonest_54 rfl ?_
        obtain rfl := Option.some.inj H
        exact R_retI dX8_soonest_56 rfl (Or.inl rfl)
      · refine R_icmp_ne_t dX8_soonest_51 (tgt := 57) (by decide) c13 ?_
        refine R_iincW dX8_soonest_57 rfl (v := x4 + 1) rfl (by decide) rfl (ls2 := [.ref 54, .int x1, .int x2, .null, .int (x4 + 1)]) rfl ?_
        refine R_goto dX8_soonest_60 (tgt := 36) (by decide) ?_
        exact ih _ _ H

set_option maxRecDepth 100000 in
set_option maxHeartbeats 4000000 in
theorem tX8_soonest {h : aH} {x1 : Int32} {x2 : Int32} {x3 : Int32} {r : Int32} (H : fX8_soonest h x1 x2 x3 = some r) : Ev mX8_soonest [.ref 54, .int x1, .int x2, .int x3] h (some (.int r)) h := by
  unfold fX8_soonest at H
  refine Ev_of (sp := (0, fun _ => 0)) oX8_soonest nlX8 (Nat.le_of_ble_eq_true rfl) (ls0 := [.ref 54, .int x1, .int x2, .int x3, .null]) rfl ?_
  refine R_aload_n dX8_soonest_0 rfl rfl ?_
  refine R_iload_n dX8_soonest_1 rfl rfl ?_
  obtain ⟨r2, e1, H⟩ := bn_some H
  refine R_cV dX8_soonest_2 lvX8_195 ⟨Nat.le_of_ble_eq_true rfl, Nat.le_of_ble_eq_true rfl⟩ (r := 54) rfl (av := [.int x1]) (st := []) rfl rfl (Nat.le_of_ble_eq_true rfl) (tX8_isHand e1) ?_
  rcases it_split H with ⟨c3, H⟩ | ⟨c3, H⟩
  · refine R_if_ne_f dX8_soonest_5 (tgt := 11) (by decide) c3 ?_
    refine R_ldc dX8_soonest_8 lcX8_198 ?_
    obtain rfl := Option.some.inj H
    exact R_retI dX8_soonest_10 rfl (Or.inl rfl)
  · refine R_if_ne_t dX8_soonest_5 (tgt := 11) (by decide) c3 ?_
    refine R_iload_n dX8_soonest_11 rfl rfl ?_
    refine R_i2l dX8_soonest_12 ?_
    refine R_lconst dX8_soonest_13 (v := 0) rfl ?_
    refine R_ldc2 dX8_soonest_14 llX8_267 ?_
    obtain ⟨r5, e4, H⟩ := bn_some H
    refine R_cS dX8_soonest_17 lvX8_71 ⟨Nat.le_of_ble_eq_true rfl, Nat.le_of_ble_eq_true rfl⟩ (av := [.long (Int32.toInt64 x2), .long 0, .long 9999]) (st := []) rfl rfl (Nat.le_of_ble_eq_true rfl) (tX8_in e4) ?_
    rcases it_split H with ⟨c6, H⟩ | ⟨c6, H⟩
    · refine R_if_eq_t dX8_soonest_20 (tgt := 30) (by decide) c6 ?_
      refine R_ldc dX8_soonest_30 lcX8_75 ?_
      obtain rfl := Option.some.inj H
      exact R_retI dX8_soonest_32 rfl (Or.inl rfl)
    · refine R_if_eq_f dX8_soonest_20 (tgt := 30) (by decide) c6 ?_
      refine R_iload_n dX8_soonest_23 rfl rfl ?_
      obtain ⟨r8, e7, H⟩ := bn_some H
      refine R_cS dX8_soonest_24 lvX8_179 ⟨Nat.le_of_ble_eq_true rfl, Nat.le_of_ble_eq_true rfl⟩ (av := [.int x3]) (st := []) rfl rfl (Nat.le_of_ble_eq_true rfl) (tX8_isHour e7) ?_
      rcases it_split H with ⟨c9, H⟩ | ⟨c9, H⟩
      · refine R_if_ne_f dX8_soonest_27 (tgt := 33) (by decide) c9 ?_
        refine R_ldc dX8_soonest_30 lcX8_75 ?_
        obtain rfl := Option.some.inj H
        exact R_retI dX8_soonest_32 rfl (Or.inl rfl)
      · refine R_if_ne_t dX8_soonest_27 (tgt := 33) (by decide) c9 ?_
        refine R_iload_n dX8_soonest_33 rfl rfl ?_
        refine R_istoreW dX8_soonest_34 (by decide) rfl (ls2 := [.ref 54, .int x1, .int x2, .int x3, .int x3]) rfl ?_
        refine R_null (i := 3) (ls2 := [.ref 54, .int x1, .int x2, .null, .int x3]) rfl ?_
        refine tX8_soonest_L36 (fun _ r H => ?_) _ _ _ H
        refine R_iconst dX8_soonest_63 (v := (-1)) (by decide) ?_
        obtain rfl := Option.some.inj H
        exact R_retI dX8_soonest_64 rfl (Or.inl rfl)

set_option maxRecDepth 100000 in
set_option maxHeartbeats 4000000 in
theorem tX8_likely {h : aH} {x1 : Int32} {x2 : Int32} {r : Int32} (H : fX8_likely h x1 x2 = some r) : Ev mX8_likely [.ref 54, .int x1, .int x2] h (some (.int r)) h := by
  unfold fX8_likely at H
  refine Ev_of (sp := (0, fun _ => 0)) oX8_likely nlX8 (Nat.le_of_ble_eq_true rfl) (ls0 := [.ref 54, .int x1, .int x2]) rfl ?_
  refine R_aload_n dX8_likely_0 rfl rfl ?_
  refine R_iload_n dX8_likely_1 rfl rfl ?_
  obtain ⟨r2, e1, H⟩ := bn_some H
  refine R_cV dX8_likely_2 lvX8_195 ⟨Nat.le_of_ble_eq_true rfl, Nat.le_of_ble_eq_true rfl⟩ (r := 54) rfl (av := [.int x1]) (st := []) rfl rfl (Nat.le_of_ble_eq_true rfl) (tX8_isHand e1) ?_
  rcases it_split H with ⟨c3, H⟩ | ⟨c3, H⟩
  · refine R_if_ne_f dX8_likely_5 (tgt := 11) (by decide) c3 ?_
    refine R_ldc dX8_likely_8 lcX8_198 ?_
    obtain rfl := Option.some.inj H
    exact R_retI dX8_likely_10 rfl (Or.inl rfl)
  · refine R_if_ne_t dX8_likely_5 (tgt := 11) (by decide) c3 ?_
    refine R_iload_n dX8_likely_11 rfl rfl ?_
    refine R_i2l dX8_likely_12 ?_
    refine R_lconst dX8_likely_13 (v := 0) rfl ?_
    refine R_ldc2 dX8_likely_14 llX8_267 ?_
    obtain ⟨r5, e4, H⟩ := bn_some H
    refine R_cS dX8_likely_17 lvX8_71 ⟨Nat.le_of_ble_eq_true rfl, Nat.le_of_ble_eq_true rfl⟩ (av := [.long (Int32.toInt64 x2), .long 0, .long 9999]) (st := []) rfl rfl (Nat.le_of_ble_eq_true rfl) (tX8_in e4) ?_
    rcases it_split H with ⟨c6, H⟩ | ⟨c6, H⟩
    · refine R_if_eq_t dX8_likely_20 (tgt := 40) (by decide) c6 ?_
      refine R_ldc dX8_likely_40 lcX8_75 ?_
      obtain rfl := Option.some.inj H
      exact R_retI dX8_likely_42 rfl (Or.inl rfl)
    · refine R_if_eq_f dX8_likely_20 (tgt := 40) (by decide) c6 ?_
      refine R_ldcw dX8_likely_23 lcX8_269 ?_
      refine R_aload_n dX8_likely_26 rfl rfl ?_
      refine R_iload_n dX8_likely_27 rfl rfl ?_
      refine R_iload_n dX8_likely_28 rfl rfl ?_
      refine R_iconst dX8_likely_29 (v := (-1)) (by decide) ?_
      obtain ⟨r8, e7, H⟩ := bn_some H
      refine R_cV dX8_likely_30 lvX8_244 ⟨Nat.le_of_ble_eq_true rfl, Nat.le_of_ble_eq_true rfl⟩ (r := 54) rfl (av := [.int x1, .int x2, .int (-1)]) (st := [.int 1000000]) rfl rfl (Nat.le_of_ble_eq_true rfl) (tX8_hoursOf e7) ?_
      refine R_imul dX8_likely_33 ?_
      refine R_bipush dX8_likely_34 (v := 96) (by decide) ?_
      refine R_idiv dX8_likely_36 (by decide) ?_
      refine R_goto dX8_likely_37 (tgt := 42) (by decide) ?_
      obtain rfl := Option.some.inj H
      exact R_retI dX8_likely_42 rfl (Or.inl rfl)

set_option maxRecDepth 100000 in
set_option maxHeartbeats 4000000 in
theorem tX8_figure_L7 {sp : Nat × (Nat → Int32)} {K : Int32 → Option Int32} {h : aH} {x2 : Int32} (hK : ∀ (y3 : Int32) (r : Int32), K y3 = some r → Rn sp mX8_figure 23 [.null, .null, .null, .int y3, .null] [] h (some (.int r)) h) : ∀ (n : Nat) (x3 x4 : Int32) (r : Int32), fX8_figure_L7 K x2 n x3 x4 = some r → Rn sp mX8_figure 7 [.null, .null, .int x2, .int x3, .int x4] [] h (some (.int r)) h := by
  intro n
  induction n with
  | zero =>
    intro x3 x4 r H
    rw [fX8_figure_L7] at H
    cases H
  | succ n ih =>
    intro x3 x4 r H
    rw [fX8_figure_L7] at H
    refine R_iload dX8_figure_7 rfl ?_
    refine R_iload_n dX8_figure_9 rfl rfl ?_
    rcases it_split H with ⟨c1, H⟩ | ⟨c1, H⟩
    · refine R_icmp_le_t dX8_figure_10 (tgt := 23) (by decide) c1 ?_
      refine R_null (i := 2) (ls2 := [.null, .null, .null, .int x3, .int x4]) rfl ?_
      refine R_null (i := 4) (ls2 := [.null, .null, .null, .int x3, .null]) rfl ?_
      exact hK _ _ H
    · refine R_icmp_le_f dX8_figure_10 (tgt := 23) (by decide) c1 ?_
      refine R_iload_n dX8_figure_13 rfl rfl ?_
      refine R_iconst dX8_figure_14 (v := 4) (by decide) ?_
      refine R_idiv dX8_figure_15 (by decide) ?_
      refine R_istoreN dX8_figure_16 rfl (by decide) rfl (ls2 := [.null, .null, .int x2, .int (x3 / 4), .int x4]) rfl ?_
      refine R_iincW dX8_figure_17 rfl (v := x4 + (-1)) rfl (by decide) rfl (ls2 := [.null, .null, .int x2, .int (x3 / 4), .int (x4 + (-1))]) rfl ?_
      refine R_goto dX8_figure_20 (tgt := 7) (by decide) ?_
      exact ih _ _ _ H

set_option maxRecDepth 100000 in
set_option maxHeartbeats 4000000 in
theorem tX8_figure {h : aH} {x0 : Int32} {x1 : Int32} {x2 : Int32} {r : Int32} (H : fX8_figure x0 x1 x2 = some r) : Ev mX8_figure [.int x0, .int x1, .int x2] h (some (.int r)) h := by
  unfold fX8_figure at H
  refine Ev_of (sp := (0, fun _ => 0)) oX8_figure nlX8 (Nat.le_of_ble_eq_true rfl) (ls0 := [.int x0, .int x1, .int x2, .null, .null]) rfl ?_
  refine R_iload_n dX8_figure_0 rfl rfl ?_
  refine R_istoreN dX8_figure_1 rfl (by decide) rfl (ls2 := [.int x0, .int x1, .int x2, .int x0, .null]) rfl ?_
  refine R_iload_n dX8_figure_2 rfl rfl ?_
  refine R_iconst dX8_figure_3 (v := 1) (by decide) ?_
  refine R_isub dX8_figure_4 ?_
  refine R_istoreW dX8_figure_5 (by decide) rfl (ls2 := [.int x0, .int x1, .int x2, .int x0, .int (x1 - 1)]) rfl ?_
  refine R_null (i := 0) (ls2 := [.null, .int x1, .int x2, .int x0, .int (x1 - 1)]) rfl ?_
  refine R_null (i := 1) (ls2 := [.null, .null, .int x2, .int x0, .int (x1 - 1)]) rfl ?_
  refine tX8_figure_L7 (fun z2 r H => ?_) _ _ _ _ H
  refine R_iload_n dX8_figure_23 rfl rfl ?_
  refine R_iconst dX8_figure_24 (v := 4) (by decide) ?_
  refine R_iremX dX8_figure_25 (by decide) ?_
  obtain rfl := Option.some.inj H
  exact R_retI dX8_figure_26 rfl (Or.inl rfl)

set_option maxRecDepth 100000 in
set_option maxHeartbeats 4000000 in
theorem tX8_layFits_L25 {sp : Nat × (Nat → Int32)} {K : Int32 → Option aH} {h : aH} {x1 : Int32} {x2 : Int32} (hK : ∀ (y3 : Int32) (h2 : aH), K y3 = some h2 → Rn sp mX8_layFits 78 [.ref 54, .int x1, .int x2, .int y3, .null] [] h none h2) : ∀ (n : Nat) (x3 x4 : Int32) (h2 : aH), fX8_layFits_L25 K h x1 x2 n x3 x4 = some h2 → Rn sp mX8_layFits 25 [.ref 54, .int x1, .int x2, .int x3, .int x4] [] h none h2 := by
  intro n
  induction n with
  | zero =>
    intro x3 x4 h2 H
    rw [fX8_layFits_L25] at H
    cases H
  | succ n ih =>
    intro x3 x4 h2 H
    rw [fX8_layFits_L25] at H
    refine R_iload dX8_layFits_25 rfl ?_
    refine R_aload_n dX8_layFits_27 rfl rfl ?_
    refine R_getF dX8_layFits_28 lfX8_7 rfl rfl (q := 55) rfl ?_
    refine R_bipush dX8_layFits_31 (v := 48) (by decide) ?_
    refine R_iload_n dX8_layFits_33 rfl rfl ?_
    refine R_iadd dX8_layFits_34 ?_
    obtain ⟨c3, H⟩ := it_some H
    refine R_ildY dX8_layFits_35 rfl rfl (ck_in c3) (j := tn (48 + x1)) rfl (x := h 55 (tn (48 + x1))) rfl ?_
    rcases it_split H with ⟨c4, H⟩ | ⟨c4, H⟩
    · refine R_icmp_ge_t dX8_layFits_36 (tgt := 78) (by decide) c4 ?_
      refine R_null (i := 4) (ls2 := [.ref 54, .int x1, .int x2, .int x3, .null]) rfl ?_
      exact hK _ _ H
    · refine R_icmp_ge_f dX8_layFits_36 (tgt := 78) (by decide) c4 ?_
      refine R_iload_n dX8_layFits_39 rfl rfl ?_
      refine R_aload_n dX8_layFits_40 rfl rfl ?_
      refine R_iload_n dX8_layFits_41 rfl rfl ?_
      refine R_iload dX8_layFits_42 rfl ?_
      obtain ⟨r6, e5, H⟩ := bn_some H
      refine R_cV dX8_layFits_44 lvX8_222 ⟨Nat.le_of_ble_eq_true rfl, Nat.le_of_ble_eq_true rfl⟩ (r := 54) rfl (av := [.int x1, .int x4]) (st := [.int x3]) rfl rfl (Nat.le_of_ble_eq_true rfl) (tX8_lookOf e5) ?_
      refine R_aload_n dX8_layFits_47 rfl rfl ?_
      refine R_iload_n dX8_layFits_48 rfl rfl ?_
      refine R_aload_n dX8_layFits_49 rfl rfl ?_
      refine R_iload_n dX8_layFits_50 rfl rfl ?_
      refine R_iload dX8_layFits_51 rfl ?_
      obtain ⟨r8, e7, H⟩ := bn_some H
      refine R_cV dX8_layFits_53 lvX8_209 ⟨Nat.le_of_ble_eq_true rfl, Nat.le_of_ble_eq_true rfl⟩ (r := 54) rfl (av := [.int x1, .int x4]) (st := [.int x2, .ref 54, .int r6, .int x3]) rfl rfl (Nat.le_of_ble_eq_true rfl) (tX8_hourOf e7) ?_
      obtain ⟨r10, e9, H⟩ := bn_some H
      refine R_cV dX8_layFits_56 lvX8_212 ⟨Nat.le_of_ble_eq_true rfl, Nat.le_of_ble_eq_true rfl⟩ (r := 54) rfl (av := [.int x2, .int r8]) (st := [.int r6, .int x3]) rfl rfl (Nat.le_of_ble_eq_true rfl) (tX8_lookAt e9) ?_
      rcases it_split H with ⟨c11, H⟩ | ⟨c11, H⟩
      · refine R_icmp_ne_f dX8_layFits_59 (tgt := 66) (by decide) c11 ?_
        refine R_iconst dX8_layFits_62 (v := 1) (by decide) ?_
        refine R_goto dX8_layFits_63 (tgt := 67) (by decide) ?_
        obtain ⟨r13, e12, H⟩ := bn_some H
        refine R_cS dX8_layFits_67 lvX8_172 ⟨Nat.le_of_ble_eq_true rfl, Nat.le_of_ble_eq_true rfl⟩ (av := [.int 1]) (st := [.int x3]) rfl rfl (Nat.le_of_ble_eq_true rfl) (tX8_one e12) ?_
        refine R_iadd dX8_layFits_70 ?_
        refine R_istoreN dX8_layFits_71 rfl (by decide) rfl (ls2 := [.ref 54, .int x1, .int x2, .int (x3 + r13), .int x4]) rfl ?_
        refine R_iincW dX8_layFits_72 rfl (v := x4 + 1) rfl (by decide) rfl (ls2 := [.ref 54, .int x1, .int x2, .int (x3 + r13), .int (x4 + 1)]) rfl ?_
        refine R_goto dX8_layFits_75 (tgt := 25) (by decide) ?_
        exact ih _ _ _ H
      · refine R_icmp_ne_t dX8_layFits_59 (tgt := 66) (by decide) c11 ?_
        refine R_iconst dX8_layFits_66 (v := 0) (by decide) ?_
        obtain ⟨r15, e14, H⟩ := bn_some H
        refine R_cS dX8_layFits_67 lvX8_172 ⟨Nat.le_of_ble_eq_true rfl, Nat.le_of_ble_eq_true rfl⟩ (av := [.int 0]) (st := [.int x3]) rfl rfl (Nat.le_of_ble_eq_true rfl) (tX8_one e14) ?_
        refine R_iadd dX8_layFits_70 ?_
        refine R_istoreN dX8_layFits_71 rfl (by decide) rfl (ls2 := [.ref 54, .int x1, .int x2, .int (x3 + r15), .int x4]) rfl ?_
        refine R_iincW dX8_layFits_72 rfl (v := x4 + 1) rfl (by decide) rfl (ls2 := [.ref 54, .int x1, .int x2, .int (x3 + r15), .int (x4 + 1)]) rfl ?_
        refine R_goto dX8_layFits_75 (tgt := 25) (by decide) ?_
        exact ih _ _ _ H

set_option maxRecDepth 100000 in
set_option maxHeartbeats 4000000 in
theorem tX8_layFits_L12 {sp : Nat × (Nat → Int32)} {K : aH → Option aH} {x1 : Int32} (hK : ∀ (hk : aH) (h2 : aH), K hk = some h2 → Rn sp mX8_layFits 95 [.ref 54, .int x1, .null, .null, .null] [] hk none h2) : ∀ (n : Nat) (h : aH) (x2 : Int32) (h2 : aH), fX8_layFits_L12 K x1 n h x2 = some h2 → Rn sp mX8_layFits 12 [.ref 54, .int x1, .int x2, .null, .null] [] h none h2 := by
  intro n
  induction n with
  | zero =>
    intro h x2 h2 H
    rw [fX8_layFits_L12] at H
    cases H
  | succ n ih =>
    intro h x2 h2 H
    rw [fX8_layFits_L12] at H
    refine R_iload_n dX8_layFits_12 rfl rfl ?_
    refine R_aload_n dX8_layFits_13 rfl rfl ?_
    refine R_getX dX8_layFits_14 lfX8_150 rfl rfl (x := h 54 11) rfl ?_
    rcases it_split H with ⟨c2, H⟩ | ⟨c2, H⟩
    · refine R_icmp_ge_t dX8_layFits_17 (tgt := 95) (by decide) c2 ?_
      refine R_null (i := 2) (ls2 := [.ref 54, .int x1, .null, .null, .null]) rfl ?_
      exact hK _ _ H
    · refine R_icmp_ge_f dX8_layFits_17 (tgt := 95) (by decide) c2 ?_
      refine R_iconst dX8_layFits_20 (v := 0) (by decide) ?_
      refine R_istoreN dX8_layFits_21 rfl (by decide) rfl (ls2 := [.ref 54, .int x1, .int x2, .int 0, .null]) rfl ?_
      refine R_iconst dX8_layFits_22 (v := 0) (by decide) ?_
      refine R_istoreW dX8_layFits_23 (by decide) rfl (ls2 := [.ref 54, .int x1, .int x2, .int 0, .int 0]) rfl ?_
      refine tX8_layFits_L25 (fun z16 h2 H => ?_) _ _ _ _ H
      refine R_aload_n dX8_layFits_78 rfl rfl ?_
      refine R_getF dX8_layFits_79 lfX8_57 rfl rfl (q := 69) rfl ?_
      refine R_iconst dX8_layFits_82 (v := 4) (by decide) ?_
      refine R_iload_n dX8_layFits_83 rfl rfl ?_
      refine R_imul dX8_layFits_84 ?_
      refine R_iload_n dX8_layFits_85 rfl rfl ?_
      refine R_iadd dX8_layFits_86 ?_
      refine R_iload_n dX8_layFits_87 rfl rfl ?_
      obtain ⟨c17, H⟩ := it_some H
      refine R_iastX dX8_layFits_88 rfl rfl (ck_in c17) (j := tn ((4 * x1) + x2)) rfl ?_
      refine R_iincW dX8_layFits_89 rfl (v := x2 + 1) rfl (by decide) rfl (ls2 := [.ref 54, .int x1, .int (x2 + 1), .int z16, .null]) rfl ?_
      refine R_goto dX8_layFits_92 (tgt := 12) (by decide) ?_
      refine R_null (i := 3) (ls2 := [.ref 54, .int x1, .int (x2 + 1), .null, .null]) rfl ?_
      exact ih _ _ _ H

set_option maxRecDepth 100000 in
set_option maxHeartbeats 4000000 in
theorem tX8_layFits_L2 {sp : Nat × (Nat → Int32)} {K : aH → Option aH} (hK : ∀ (hk : aH) (h2 : aH), K hk = some h2 → Rn sp mX8_layFits 101 [.null, .null, .null, .null, .null] [] hk none h2) : ∀ (n : Nat) (h : aH) (x1 : Int32) (h2 : aH), fX8_layFits_L2 K n h x1 = some h2 → Rn sp mX8_layFits 2 [.ref 54, .int x1, .null, .null, .null] [] h none h2 := by
  intro n
  induction n with
  | zero =>
    intro h x1 h2 H
    rw [fX8_layFits_L2] at H
    cases H
  | succ n ih =>
    intro h x1 h2 H
    rw [fX8_layFits_L2] at H
    refine R_iload_n dX8_layFits_2 rfl rfl ?_
    refine R_aload_n dX8_layFits_3 rfl rfl ?_
    refine R_getX dX8_layFits_4 lfX8_141 rfl rfl (x := h 54 16) rfl ?_
    rcases it_split H with ⟨c1, H⟩ | ⟨c1, H⟩
    · refine R_icmp_ge_t dX8_layFits_7 (tgt := 101) (by decide) c1 ?_
      refine R_null (i := 0) (ls2 := [.null, .int x1, .null, .null, .null]) rfl ?_
      refine R_null (i := 1) (ls2 := [.null, .null, .null, .null, .null]) rfl ?_
      exact hK _ _ H
    · refine R_icmp_ge_f dX8_layFits_7 (tgt := 101) (by decide) c1 ?_
      refine R_iconst dX8_layFits_10 (v := 0) (by decide) ?_
      refine R_istoreN dX8_layFits_11 rfl (by decide) rfl (ls2 := [.ref 54, .int x1, .int 0, .null, .null]) rfl ?_
      refine tX8_layFits_L12 (fun h18 h2 H => ?_) _ _ _ _ H
      refine R_iincW dX8_layFits_95 rfl (v := x1 + 1) rfl (by decide) rfl (ls2 := [.ref 54, .int (x1 + 1), .null, .null, .null]) rfl ?_
      refine R_goto dX8_layFits_98 (tgt := 2) (by decide) ?_
      exact ih _ _ _ H

set_option maxRecDepth 100000 in
set_option maxHeartbeats 4000000 in
theorem tX8_layFits {h : aH} {h2 : aH} (H : fX8_layFits h = some h2) : Ev mX8_layFits [.ref 54] h none h2 := by
  unfold fX8_layFits at H
  refine Ev_of (sp := (0, fun _ => 0)) oX8_layFits nlX8 (Nat.le_of_ble_eq_true rfl) (ls0 := [.ref 54, .null, .null, .null, .null]) rfl ?_
  refine R_iconst dX8_layFits_0 (v := 0) (by decide) ?_
  refine R_istoreN dX8_layFits_1 rfl (by decide) rfl (ls2 := [.ref 54, .int 0, .null, .null, .null]) rfl ?_
  refine tX8_layFits_L2 (fun h19 h2 H => ?_) _ _ _ _ H
  obtain rfl := Option.some.inj H
  exact R_ret (o := none) dX8_layFits_101 rfl

set_option maxRecDepth 100000 in
set_option maxHeartbeats 4000000 in
theorem tX8_fitsBy_L7 {sp : Nat × (Nat → Int32)} {K : Int32 → Option Int32} {h : aH} {x1 : Int32} (hK : ∀ (y3 : Int32) (r : Int32), K y3 = some r → Rn sp mX8_fitsBy 76 [.null, .null, .null, .int y3, .null, .null] [] h (some (.int r)) h) : ∀ (n : Nat) (x2 x3 x4 : Int32) (r : Int32), fX8_fitsBy_L7 K h x1 n x2 x3 x4 = some r → Rn sp mX8_fitsBy 7 [.ref 54, .int x1, .int x2, .int x3, .int x4, .null] [] h (some (.int r)) h := by
  intro n
  induction n with
  | zero =>
    intro x2 x3 x4 r H
    rw [fX8_fitsBy_L7] at H
    cases H
  | succ n ih =>
    intro x2 x3 x4 r H
    rw [fX8_fitsBy_L7] at H
    refine R_iload dX8_fitsBy_7 rfl ?_
    refine R_aload_n dX8_fitsBy_9 rfl rfl ?_
    refine R_getX dX8_fitsBy_10 lfX8_141 rfl rfl (x := h 54 16) rfl ?_
    rcases it_split H with ⟨c1, H⟩ | ⟨c1, H⟩
    · refine R_icmp_ge_t dX8_fitsBy_13 (tgt := 76) (by decide) c1 ?_
      refine R_null (i := 0) (ls2 := [.null, .int x1, .int x2, .int x3, .int x4, .null]) rfl ?_
      refine R_null (i := 1) (ls2 := [.null, .null, .int x2, .int x3, .int x4, .null]) rfl ?_
      refine R_null (i := 2) (ls2 := [.null, .null, .null, .int x3, .int x4, .null]) rfl ?_
      refine R_null (i := 4) (ls2 := [.null, .null, .null, .int x3, .null, .null]) rfl ?_
      exact hK _ _ H
    · refine R_icmp_ge_f dX8_fitsBy_13 (tgt := 76) (by decide) c1 ?_
      refine R_iload_n dX8_fitsBy_16 rfl rfl ?_
      refine R_aload_n dX8_fitsBy_17 rfl rfl ?_
      refine R_getX dX8_fitsBy_18 lfX8_141 rfl rfl (x := h 54 16) rfl ?_
      refine R_iload dX8_fitsBy_21 rfl ?_
      obtain ⟨r3, e2, H⟩ := bn_some H
      refine R_cS dX8_fitsBy_23 lvX8_270 ⟨Nat.le_of_ble_eq_true rfl, Nat.le_of_ble_eq_true rfl⟩ (av := [.int x1, .int (h 54 16), .int x4]) (st := []) rfl rfl (Nat.le_of_ble_eq_true rfl) (tX8_figure e2) ?_
      refine R_istoreW dX8_fitsBy_26 (by decide) rfl (ls2 := [.ref 54, .int x1, .int x2, .int x3, .int x4, .int r3]) rfl ?_
      refine R_iload dX8_fitsBy_28 rfl ?_
      refine R_aload_n dX8_fitsBy_30 rfl rfl ?_
      refine R_getX dX8_fitsBy_31 lfX8_150 rfl rfl (x := h 54 11) rfl ?_
      rcases it_split H with ⟨c4, H⟩ | ⟨c4, H⟩
      · refine R_icmp_ge_t dX8_fitsBy_34 (tgt := 46) (by decide) c4 ?_
        refine R_iconst dX8_fitsBy_46 (v := (-1)) (by decide) ?_
        obtain rfl := Option.some.inj H
        exact R_retI dX8_fitsBy_47 rfl (Or.inl rfl)
      · refine R_icmp_ge_f dX8_fitsBy_34 (tgt := 46) (by decide) c4 ?_
        refine R_iload_n dX8_fitsBy_37 rfl rfl ?_
        refine R_iload dX8_fitsBy_38 rfl ?_
        obtain ⟨r6, e5, H⟩ := bn_some H
        refine R_cS dX8_fitsBy_40 lvX8_254 ⟨Nat.le_of_ble_eq_true rfl, Nat.le_of_ble_eq_true rfl⟩ (av := [.int x2, .int r3]) (st := []) rfl rfl (Nat.le_of_ble_eq_true rfl) (tX8_has e5) ?_
        rcases it_split H with ⟨c7, H⟩ | ⟨c7, H⟩
        · refine R_if_eq_t dX8_fitsBy_43 (tgt := 48) (by decide) c7 ?_
          refine R_iload_n dX8_fitsBy_48 rfl rfl ?_
          refine R_iconst dX8_fitsBy_49 (v := 1) (by decide) ?_
          refine R_iload dX8_fitsBy_50 rfl ?_
          refine R_ishl dX8_fitsBy_52 ?_
          refine R_ior dX8_fitsBy_53 ?_
          refine R_istoreN dX8_fitsBy_54 rfl (by decide) rfl (ls2 := [.ref 54, .int x1, .int (x2 ||| (1 <<< (r3 &&& 31))), .int x3, .int x4, .int r3]) rfl ?_
          refine R_iload_n dX8_fitsBy_55 rfl rfl ?_
          refine R_aload_n dX8_fitsBy_56 rfl rfl ?_
          refine R_getF dX8_fitsBy_57 lfX8_57 rfl rfl (q := 69) rfl ?_
          refine R_iconst dX8_fitsBy_60 (v := 4) (by decide) ?_
          refine R_iload dX8_fitsBy_61 rfl ?_
          refine R_imul dX8_fitsBy_63 ?_
          refine R_iload dX8_fitsBy_64 rfl ?_
          refine R_iadd dX8_fitsBy_66 ?_
          obtain ⟨c8, H⟩ := it_some H
          refine R_ildY dX8_fitsBy_67 rfl rfl (ck_in c8) (j := tn ((4 * x4) + r3)) rfl (x := h 69 (tn ((4 * x4) + r3))) rfl ?_
          refine R_iadd dX8_fitsBy_68 ?_
          refine R_istoreN dX8_fitsBy_69 rfl (by decide) rfl (ls2 := [.ref 54, .int x1, .int (x2 ||| (1 <<< (r3 &&& 31))), .int (x3 + (h 69 (tn ((4 * x4) + r3)))), .int x4, .int r3]) rfl ?_
          refine R_iincW dX8_fitsBy_70 rfl (v := x4 + 1) rfl (by decide) rfl (ls2 := [.ref 54, .int x1, .int (x2 ||| (1 <<< (r3 &&& 31))), .int (x3 + (h 69 (tn ((4 * x4) + r3)))), .int (x4 + 1), .int r3]) rfl ?_
          refine R_goto dX8_fitsBy_73 (tgt := 7) (by decide) ?_
          refine R_null (i := 5) (ls2 := [.ref 54, .int x1, .int (x2 ||| (1 <<< (r3 &&& 31))), .int (x3 + (h 69 (tn ((4 * x4) + r3)))), .int (x4 + 1), .null]) rfl ?_
          exact ih _ _ _ _ H
        · refine R_if_eq_f dX8_fitsBy_43 (tgt := 48) (by decide) c7 ?_
          refine R_iconst dX8_fitsBy_46 (v := (-1)) (by decide) ?_
          obtain rfl := Option.some.inj H
          exact R_retI dX8_fitsBy_47 rfl (Or.inl rfl)

set_option maxRecDepth 100000 in
set_option maxHeartbeats 4000000 in
theorem tX8_fitsBy {h : aH} {x1 : Int32} {r : Int32} (H : fX8_fitsBy h x1 = some r) : Ev mX8_fitsBy [.ref 54, .int x1] h (some (.int r)) h := by
  unfold fX8_fitsBy at H
  refine Ev_of (sp := (0, fun _ => 0)) oX8_fitsBy nlX8 (Nat.le_of_ble_eq_true rfl) (ls0 := [.ref 54, .int x1, .null, .null, .null, .null]) rfl ?_
  refine R_iconst dX8_fitsBy_0 (v := 0) (by decide) ?_
  refine R_istoreN dX8_fitsBy_1 rfl (by decide) rfl (ls2 := [.ref 54, .int x1, .int 0, .null, .null, .null]) rfl ?_
  refine R_iconst dX8_fitsBy_2 (v := 0) (by decide) ?_
  refine R_istoreN dX8_fitsBy_3 rfl (by decide) rfl (ls2 := [.ref 54, .int x1, .int 0, .int 0, .null, .null]) rfl ?_
  refine R_iconst dX8_fitsBy_4 (v := 0) (by decide) ?_
  refine R_istoreW dX8_fitsBy_5 (by decide) rfl (ls2 := [.ref 54, .int x1, .int 0, .int 0, .int 0, .null]) rfl ?_
  refine tX8_fitsBy_L7 (fun z9 r H => ?_) _ _ _ _ _ H
  refine R_iload_n dX8_fitsBy_76 rfl rfl ?_
  obtain rfl := Option.some.inj H
  exact R_retI dX8_fitsBy_77 rfl (Or.inl rfl)

set_option maxRecDepth 100000 in
set_option maxHeartbeats 4000000 in
theorem tX8_hands_L27 {sp : Nat × (Nat → Int32)} {K : Int32 → Int32 → Option (Int32 × aH)} {h : aH} {x1 : Int32} (hK : ∀ (y2 y3 : Int32) (r : Int32) (h2 : aH), K y2 y3 = some (r, h2) → Rn sp mX8_hands 80 [.ref 54, .int x1, .int y2, .int y3, .null, .null] [] h (some (.int r)) h2) : ∀ (n : Nat) (x2 x3 x4 : Int32) (r : Int32) (h2 : aH), fX8_hands_L27 K h x1 n x2 x3 x4 = some (r, h2) → Rn sp mX8_hands 27 [.ref 54, .int x1, .int x2, .int x3, .int x4, .null] [] h (some (.int r)) h2 := by
  intro n
  induction n with
  | zero =>
    intro x2 x3 x4 r h2 H
    rw [fX8_hands_L27] at H
    cases H
  | succ n ih =>
    intro x2 x3 x4 r h2 H
    rw [fX8_hands_L27] at H
    refine R_iload dX8_hands_27 rfl ?_
    refine R_iconst dX8_hands_29 (v := 1) (by decide) ?_
    refine R_iconst dX8_hands_30 (v := 2) (by decide) ?_
    refine R_aload_n dX8_hands_31 rfl rfl ?_
    refine R_getX dX8_hands_32 lfX8_141 rfl rfl (x := h 54 16) rfl ?_
    refine R_imul dX8_hands_35 ?_
    refine R_ishl dX8_hands_36 ?_
    rcases it_split H with ⟨c4, H⟩ | ⟨c4, H⟩
    · refine R_icmp_ge_t dX8_hands_37 (tgt := 80) (by decide) c4 ?_
      refine R_null (i := 4) (ls2 := [.ref 54, .int x1, .int x2, .int x3, .null, .null]) rfl ?_
      exact hK _ _ _ _ H
    · refine R_icmp_ge_f dX8_hands_37 (tgt := 80) (by decide) c4 ?_
      refine R_aload_n dX8_hands_40 rfl rfl ?_
      refine R_iload dX8_hands_41 rfl ?_
      obtain ⟨r6, e5, H⟩ := bn_some H
      refine R_cV dX8_hands_43 lvX8_276 ⟨Nat.le_of_ble_eq_true rfl, Nat.le_of_ble_eq_true rfl⟩ (r := 54) rfl (av := [.int x4]) (st := []) rfl rfl (Nat.le_of_ble_eq_true rfl) (tX8_fitsBy e5) ?_
      refine R_istoreW dX8_hands_46 (by decide) rfl (ls2 := [.ref 54, .int x1, .int x2, .int x3, .int x4, .int r6]) rfl ?_
      refine R_iload dX8_hands_48 rfl ?_
      refine R_iload_n dX8_hands_50 rfl rfl ?_
      rcases it_split H with ⟨c7, H⟩ | ⟨c7, H⟩
      · refine R_icmp_le_t dX8_hands_51 (tgt := 59) (by decide) c7 ?_
        refine R_iload_n dX8_hands_59 rfl rfl ?_
        refine R_istoreN dX8_hands_60 rfl (by decide) rfl (ls2 := [.ref 54, .int x1, .int x2, .int x3, .int x4, .int r6]) rfl ?_
        refine R_iload dX8_hands_61 rfl ?_
        refine R_iload_n dX8_hands_63 rfl rfl ?_
        refine R_icmp_le_t dX8_hands_64 (tgt := 72) (by decide) c7 ?_
        refine R_iload_n dX8_hands_72 rfl rfl ?_
        refine R_istoreN dX8_hands_73 rfl (by decide) rfl (ls2 := [.ref 54, .int x1, .int x2, .int x3, .int x4, .int r6]) rfl ?_
        refine R_iincW dX8_hands_74 rfl (v := x4 + 1) rfl (by decide) rfl (ls2 := [.ref 54, .int x1, .int x2, .int x3, .int (x4 + 1), .int r6]) rfl ?_
        refine R_goto dX8_hands_77 (tgt := 27) (by decide) ?_
        refine R_null (i := 5) (ls2 := [.ref 54, .int x1, .int x2, .int x3, .int (x4 + 1), .null]) rfl ?_
        exact ih _ _ _ _ _ H
      · refine R_icmp_le_f dX8_hands_51 (tgt := 59) (by decide) c7 ?_
        refine R_iload dX8_hands_54 rfl ?_
        refine R_goto dX8_hands_56 (tgt := 60) (by decide) ?_
        refine R_istoreN dX8_hands_60 rfl (by decide) rfl (ls2 := [.ref 54, .int x1, .int x4, .int x3, .int x4, .int r6]) rfl ?_
        refine R_iload dX8_hands_61 rfl ?_
        refine R_iload_n dX8_hands_63 rfl rfl ?_
        refine R_icmp_le_f dX8_hands_64 (tgt := 72) (by decide) c7 ?_
        refine R_iload dX8_hands_67 rfl ?_
        refine R_goto dX8_hands_69 (tgt := 73) (by decide) ?_
        refine R_istoreN dX8_hands_73 rfl (by decide) rfl (ls2 := [.ref 54, .int x1, .int x4, .int r6, .int x4, .int r6]) rfl ?_
        refine R_iincW dX8_hands_74 rfl (v := x4 + 1) rfl (by decide) rfl (ls2 := [.ref 54, .int x1, .int x4, .int r6, .int (x4 + 1), .int r6]) rfl ?_
        refine R_goto dX8_hands_77 (tgt := 27) (by decide) ?_
        refine R_null (i := 5) (ls2 := [.ref 54, .int x1, .int x4, .int r6, .int (x4 + 1), .null]) rfl ?_
        exact ih _ _ _ _ _ H

set_option maxRecDepth 100000 in
set_option maxHeartbeats 4000000 in
theorem tX8_hands {h : aH} {x1 : Int32} {r : Int32} {h2 : aH} (H : fX8_hands h x1 = some (r, h2)) : Ev mX8_hands [.ref 54, .int x1] h (some (.int r)) h2 := by
  unfold fX8_hands at H
  refine Ev_of (sp := (0, fun _ => 0)) oX8_hands nlX8 (Nat.le_of_ble_eq_true rfl) (ls0 := [.ref 54, .int x1, .null, .null, .null, .null]) rfl ?_
  refine R_iload_n dX8_hands_0 rfl rfl ?_
  refine R_iconst dX8_hands_1 (v := (-1)) (by decide) ?_
  rcases it_split H with ⟨c1, H⟩ | ⟨c1, H⟩
  · refine R_icmp_eq_t dX8_hands_2 (tgt := 16) (by decide) c1 ?_
    refine R_aload_n dX8_hands_16 rfl rfl ?_
    obtain ⟨h3, e2, H⟩ := bn_some H
    refine R_cV dX8_hands_17 lvX8_273 ⟨Nat.le_of_ble_eq_true rfl, Nat.le_of_ble_eq_true rfl⟩ (r := 54) rfl (av := []) (st := []) rfl rfl (Nat.le_of_ble_eq_true rfl) (tX8_layFits e2) ?_
    refine R_iconst dX8_hands_20 (v := (-1)) (by decide) ?_
    refine R_istoreN dX8_hands_21 rfl (by decide) rfl (ls2 := [.ref 54, .int x1, .int (-1), .null, .null, .null]) rfl ?_
    refine R_iconst dX8_hands_22 (v := (-1)) (by decide) ?_
    refine R_istoreN dX8_hands_23 rfl (by decide) rfl (ls2 := [.ref 54, .int x1, .int (-1), .int (-1), .null, .null]) rfl ?_
    refine R_iconst dX8_hands_24 (v := 0) (by decide) ?_
    refine R_istoreW dX8_hands_25 (by decide) rfl (ls2 := [.ref 54, .int x1, .int (-1), .int (-1), .int 0, .null]) rfl ?_
    refine tX8_hands_L27 (fun z8 z9 r h2 H => ?_) _ _ _ _ _ _ H
    refine R_iload_n dX8_hands_80 rfl rfl ?_
    refine R_iconst dX8_hands_81 (v := (-1)) (by decide) ?_
    refine R_icmp_eq_t dX8_hands_82 (tgt := 89) (by decide) c1 ?_
    refine R_iload_n dX8_hands_89 rfl rfl ?_
    refine R_goto dX8_hands_90 (tgt := 102) (by decide) ?_
    obtain ⟨rfl, rfl⟩ := so2 H
    exact R_retI dX8_hands_102 rfl (Or.inl rfl)
  · refine R_icmp_eq_f dX8_hands_2 (tgt := 16) (by decide) c1 ?_
    refine R_aload_n dX8_hands_5 rfl rfl ?_
    refine R_iload_n dX8_hands_6 rfl rfl ?_
    obtain ⟨r11, e10, H⟩ := bn_some H
    refine R_cV dX8_hands_7 lvX8_166 ⟨Nat.le_of_ble_eq_true rfl, Nat.le_of_ble_eq_true rfl⟩ (r := 54) rfl (av := [.int x1]) (st := []) rfl rfl (Nat.le_of_ble_eq_true rfl) (tX8_isPaper e10) ?_
    rcases it_split H with ⟨c12, H⟩ | ⟨c12, H⟩
    · refine R_if_ne_f dX8_hands_10 (tgt := 16) (by decide) c12 ?_
      refine R_ldc dX8_hands_13 lcX8_198 ?_
      obtain ⟨rfl, rfl⟩ := so2 H
      exact R_retI dX8_hands_15 rfl (Or.inl rfl)
    · refine R_if_ne_t dX8_hands_10 (tgt := 16) (by decide) c12 ?_
      refine R_aload_n dX8_hands_16 rfl rfl ?_
      obtain ⟨h14, e13, H⟩ := bn_some H
      refine R_cV dX8_hands_17 lvX8_273 ⟨Nat.le_of_ble_eq_true rfl, Nat.le_of_ble_eq_true rfl⟩ (r := 54) rfl (av := []) (st := []) rfl rfl (Nat.le_of_ble_eq_true rfl) (tX8_layFits e13) ?_
      refine R_iconst dX8_hands_20 (v := (-1)) (by decide) ?_
      refine R_istoreN dX8_hands_21 rfl (by decide) rfl (ls2 := [.ref 54, .int x1, .int (-1), .null, .null, .null]) rfl ?_
      refine R_iconst dX8_hands_22 (v := (-1)) (by decide) ?_
      refine R_istoreN dX8_hands_23 rfl (by decide) rfl (ls2 := [.ref 54, .int x1, .int (-1), .int (-1), .null, .null]) rfl ?_
      refine R_iconst dX8_hands_24 (v := 0) (by decide) ?_
      refine R_istoreW dX8_hands_25 (by decide) rfl (ls2 := [.ref 54, .int x1, .int (-1), .int (-1), .int 0, .null]) rfl ?_
      refine tX8_hands_L27 (fun z15 z16 r h2 H => ?_) _ _ _ _ _ _ H
      refine R_iload_n dX8_hands_80 rfl rfl ?_
      refine R_iconst dX8_hands_81 (v := (-1)) (by decide) ?_
      refine R_icmp_eq_f dX8_hands_82 (tgt := 89) (by decide) c1 ?_
      refine R_iload_n dX8_hands_85 rfl rfl ?_
      rcases it_split H with ⟨c17, H⟩ | ⟨c17, H⟩
      · refine R_if_ge_t dX8_hands_86 (tgt := 93) (by decide) c17 ?_
        refine R_iload_n dX8_hands_93 rfl rfl ?_
        refine R_aload_n dX8_hands_94 rfl rfl ?_
        refine R_getX dX8_hands_95 lfX8_141 rfl rfl (x := h14 54 16) rfl ?_
        refine R_iload_n dX8_hands_98 rfl rfl ?_
        obtain ⟨r19, e18, H⟩ := bn_some H
        refine R_cS dX8_hands_99 lvX8_270 ⟨Nat.le_of_ble_eq_true rfl, Nat.le_of_ble_eq_true rfl⟩ (av := [.int z15, .int (h14 54 16), .int x1]) (st := []) rfl rfl (Nat.le_of_ble_eq_true rfl) (tX8_figure e18) ?_
        obtain ⟨rfl, rfl⟩ := so2 H
        exact R_retI dX8_hands_102 rfl (Or.inl rfl)
      · refine R_if_ge_f dX8_hands_86 (tgt := 93) (by decide) c17 ?_
        refine R_iload_n dX8_hands_89 rfl rfl ?_
        refine R_goto dX8_hands_90 (tgt := 102) (by decide) ?_
        obtain ⟨rfl, rfl⟩ := so2 H
        exact R_retI dX8_hands_102 rfl (Or.inl rfl)

set_option maxRecDepth 100000 in
set_option maxHeartbeats 4000000 in
theorem tX8_forged_L32 {sp : Nat × (Nat → Int32)} {K : Int32 → Int32 → Option Int32} {h : aH} {x1 : Int32} {x2 : Int32} (hK : ∀ (y3 y4 : Int32) (r : Int32), K y3 y4 = some r → Rn sp mX8_forged 126 [.null, .null, .int x2, .int y3, .int y4, .null, .null] [] h (some (.int r)) h) : ∀ (n : Nat) (x3 x4 x5 : Int32) (r : Int32), fX8_forged_L32 K h x1 x2 n x3 x4 x5 = some r → Rn sp mX8_forged 32 [.ref 54, .int x1, .int x2, .int x3, .int x4, .int x5, .null] [] h (some (.int r)) h := by
  intro n
  induction n with
  | zero =>
    intro x3 x4 x5 r H
    rw [fX8_forged_L32] at H
    cases H
  | succ n ih =>
    intro x3 x4 x5 r H
    rw [fX8_forged_L32] at H
    refine R_iload dX8_forged_32 rfl ?_
    refine R_aload_n dX8_forged_34 rfl rfl ?_
    refine R_getF dX8_forged_35 lfX8_7 rfl rfl (q := 55) rfl ?_
    refine R_bipush dX8_forged_38 (v := 48) (by decide) ?_
    refine R_iload_n dX8_forged_40 rfl rfl ?_
    refine R_iadd dX8_forged_41 ?_
    obtain ⟨c7, H⟩ := it_some H
    refine R_ildY dX8_forged_42 rfl rfl (ck_in c7) (j := tn (48 + x1)) rfl (x := h 55 (tn (48 + x1))) rfl ?_
    rcases it_split H with ⟨c8, H⟩ | ⟨c8, H⟩
    · refine R_icmp_ge_t dX8_forged_43 (tgt := 126) (by decide) c8 ?_
      refine R_null (i := 0) (ls2 := [.null, .int x1, .int x2, .int x3, .int x4, .int x5, .null]) rfl ?_
      refine R_null (i := 1) (ls2 := [.null, .null, .int x2, .int x3, .int x4, .int x5, .null]) rfl ?_
      refine R_null (i := 5) (ls2 := [.null, .null, .int x2, .int x3, .int x4, .null, .null]) rfl ?_
      exact hK _ _ _ H
    · refine R_icmp_ge_f dX8_forged_43 (tgt := 126) (by decide) c8 ?_
      refine R_aload_n dX8_forged_46 rfl rfl ?_
      refine R_iload_n dX8_forged_47 rfl rfl ?_
      refine R_iload dX8_forged_48 rfl ?_
      obtain ⟨r10, e9, H⟩ := bn_some H
      refine R_cV dX8_forged_50 lvX8_203 ⟨Nat.le_of_ble_eq_true rfl, Nat.le_of_ble_eq_true rfl⟩ (r := 54) rfl (av := [.int x1, .int x5]) (st := []) rfl rfl (Nat.le_of_ble_eq_true rfl) (tX8_airOf e9) ?_
      rcases it_split H with ⟨c11, H⟩ | ⟨c11, H⟩
      · refine R_if_lt_t dX8_forged_53 (tgt := 120) (by decide) c11 ?_
        refine R_iincW dX8_forged_120 rfl (v := x5 + 1) rfl (by decide) rfl (ls2 := [.ref 54, .int x1, .int x2, .int x3, .int x4, .int (x5 + 1), .null]) rfl ?_
        refine R_goto dX8_forged_123 (tgt := 32) (by decide) ?_
        exact ih _ _ _ _ H
      · refine R_if_lt_f dX8_forged_53 (tgt := 120) (by decide) c11 ?_
        refine R_aload_n dX8_forged_56 rfl rfl ?_
        refine R_iload_n dX8_forged_57 rfl rfl ?_
        refine R_iload dX8_forged_58 rfl ?_
        obtain ⟨r13, e12, H⟩ := bn_some H
        refine R_cV dX8_forged_60 lvX8_222 ⟨Nat.le_of_ble_eq_true rfl, Nat.le_of_ble_eq_true rfl⟩ (r := 54) rfl (av := [.int x1, .int x5]) (st := []) rfl rfl (Nat.le_of_ble_eq_true rfl) (tX8_lookOf e12) ?_
        refine R_aload_n dX8_forged_63 rfl rfl ?_
        refine R_aload_n dX8_forged_64 rfl rfl ?_
        refine R_iload_n dX8_forged_65 rfl rfl ?_
        refine R_iload dX8_forged_66 rfl ?_
        obtain ⟨r15, e14, H⟩ := bn_some H
        refine R_cV dX8_forged_68 lvX8_206 ⟨Nat.le_of_ble_eq_true rfl, Nat.le_of_ble_eq_true rfl⟩ (r := 54) rfl (av := [.int x1, .int x5]) (st := [.ref 54, .int r13]) rfl rfl (Nat.le_of_ble_eq_true rfl) (tX8_handOf e14) ?_
        refine R_aload_n dX8_forged_71 rfl rfl ?_
        refine R_iload_n dX8_forged_72 rfl rfl ?_
        refine R_iload dX8_forged_73 rfl ?_
        obtain ⟨r17, e16, H⟩ := bn_some H
        refine R_cV dX8_forged_75 lvX8_209 ⟨Nat.le_of_ble_eq_true rfl, Nat.le_of_ble_eq_true rfl⟩ (r := 54) rfl (av := [.int x1, .int x5]) (st := [.int r15, .ref 54, .int r13]) rfl rfl (Nat.le_of_ble_eq_true rfl) (tX8_hourOf e16) ?_
        obtain ⟨r19, e18, H⟩ := bn_some H
        refine R_cV dX8_forged_78 lvX8_212 ⟨Nat.le_of_ble_eq_true rfl, Nat.le_of_ble_eq_true rfl⟩ (r := 54) rfl (av := [.int r15, .int r17]) (st := [.int r13]) rfl rfl (Nat.le_of_ble_eq_true rfl) (tX8_lookAt e18) ?_
        rcases it_split H with ⟨c20, H⟩ | ⟨c20, H⟩
        · refine R_icmp_ne_f dX8_forged_81 (tgt := 88) (by decide) c20 ?_
          refine R_iconst dX8_forged_84 (v := 1) (by decide) ?_
          refine R_goto dX8_forged_85 (tgt := 89) (by decide) ?_
          refine R_istoreW dX8_forged_89 (by decide) rfl (ls2 := [.ref 54, .int x1, .int x2, .int x3, .int x4, .int x5, .int 1]) rfl ?_
          refine R_iload_n dX8_forged_91 rfl rfl ?_
          refine R_iload dX8_forged_92 rfl ?_
          obtain ⟨r22, e21, H⟩ := bn_some H
          refine R_cS dX8_forged_94 lvX8_172 ⟨Nat.le_of_ble_eq_true rfl, Nat.le_of_ble_eq_true rfl⟩ (av := [.int 1]) (st := [.int x3]) rfl rfl (Nat.le_of_ble_eq_true rfl) (tX8_one e21) ?_
          refine R_iadd dX8_forged_97 ?_
          refine R_istoreN dX8_forged_98 rfl (by decide) rfl (ls2 := [.ref 54, .int x1, .int x2, .int (x3 + r22), .int x4, .int x5, .int 1]) rfl ?_
          refine R_iload dX8_forged_99 rfl ?_
          refine R_iload dX8_forged_101 rfl ?_
          refine R_if_ne_t dX8_forged_103 (tgt := 110) (by decide) (by decide) ?_
          refine R_iconst dX8_forged_110 (v := 0) (by decide) ?_
          obtain ⟨r24, e23, H⟩ := bn_some H
          refine R_cS dX8_forged_111 lvX8_172 ⟨Nat.le_of_ble_eq_true rfl, Nat.le_of_ble_eq_true rfl⟩ (av := [.int 0]) (st := [.int x4]) rfl rfl (Nat.le_of_ble_eq_true rfl) (tX8_one e23) ?_
          refine R_iload dX8_forged_114 rfl ?_
          refine R_ishl dX8_forged_116 ?_
          refine R_ior dX8_forged_117 ?_
          refine R_istoreW dX8_forged_118 (by decide) rfl (ls2 := [.ref 54, .int x1, .int x2, .int (x3 + r22), .int (x4 ||| (r24 <<< (x5 &&& 31))), .int x5, .int 1]) rfl ?_
          refine R_iincW dX8_forged_120 rfl (v := x5 + 1) rfl (by decide) rfl (ls2 := [.ref 54, .int x1, .int x2, .int (x3 + r22), .int (x4 ||| (r24 <<< (x5 &&& 31))), .int (x5 + 1), .int 1]) rfl ?_
          refine R_goto dX8_forged_123 (tgt := 32) (by decide) ?_
          refine R_null (i := 6) (ls2 := [.ref 54, .int x1, .int x2, .int (x3 + r22), .int (x4 ||| (r24 <<< (x5 &&& 31))), .int (x5 + 1), .null]) rfl ?_
          exact ih _ _ _ _ H
        · refine R_icmp_ne_t dX8_forged_81 (tgt := 88) (by decide) c20 ?_
          refine R_iconst dX8_forged_88 (v := 0) (by decide) ?_
          refine R_istoreW dX8_forged_89 (by decide) rfl (ls2 := [.ref 54, .int x1, .int x2, .int x3, .int x4, .int x5, .int 0]) rfl ?_
          refine R_iload_n dX8_forged_91 rfl rfl ?_
          refine R_iload dX8_forged_92 rfl ?_
          obtain ⟨r26, e25, H⟩ := bn_some H
          refine R_cS dX8_forged_94 lvX8_172 ⟨Nat.le_of_ble_eq_true rfl, Nat.le_of_ble_eq_true rfl⟩ (av := [.int 0]) (st := [.int x3]) rfl rfl (Nat.le_of_ble_eq_true rfl) (tX8_one e25) ?_
          refine R_iadd dX8_forged_97 ?_
          refine R_istoreN dX8_forged_98 rfl (by decide) rfl (ls2 := [.ref 54, .int x1, .int x2, .int (x3 + r26), .int x4, .int x5, .int 0]) rfl ?_
          refine R_iload dX8_forged_99 rfl ?_
          refine R_iload dX8_forged_101 rfl ?_
          refine R_if_ne_f dX8_forged_103 (tgt := 110) (by decide) (by decide) ?_
          refine R_iconst dX8_forged_106 (v := 1) (by decide) ?_
          refine R_goto dX8_forged_107 (tgt := 111) (by decide) ?_
          obtain ⟨r28, e27, H⟩ := bn_some H
          refine R_cS dX8_forged_111 lvX8_172 ⟨Nat.le_of_ble_eq_true rfl, Nat.le_of_ble_eq_true rfl⟩ (av := [.int 1]) (st := [.int x4]) rfl rfl (Nat.le_of_ble_eq_true rfl) (tX8_one e27) ?_
          refine R_iload dX8_forged_114 rfl ?_
          refine R_ishl dX8_forged_116 ?_
          refine R_ior dX8_forged_117 ?_
          refine R_istoreW dX8_forged_118 (by decide) rfl (ls2 := [.ref 54, .int x1, .int x2, .int (x3 + r26), .int (x4 ||| (r28 <<< (x5 &&& 31))), .int x5, .int 0]) rfl ?_
          refine R_iincW dX8_forged_120 rfl (v := x5 + 1) rfl (by decide) rfl (ls2 := [.ref 54, .int x1, .int x2, .int (x3 + r26), .int (x4 ||| (r28 <<< (x5 &&& 31))), .int (x5 + 1), .int 0]) rfl ?_
          refine R_goto dX8_forged_123 (tgt := 32) (by decide) ?_
          refine R_null (i := 6) (ls2 := [.ref 54, .int x1, .int x2, .int (x3 + r26), .int (x4 ||| (r28 <<< (x5 &&& 31))), .int (x5 + 1), .null]) rfl ?_
          exact ih _ _ _ _ H

set_option maxRecDepth 100000 in
set_option maxHeartbeats 4000000 in
theorem tX8_forged {h : aH} {x1 : Int32} {x2 : Int32} {r : Int32} (H : fX8_forged h x1 x2 = some r) : Ev mX8_forged [.ref 54, .int x1, .int x2] h (some (.int r)) h := by
  unfold fX8_forged at H
  refine Ev_of (sp := (0, fun _ => 0)) oX8_forged nlX8 (Nat.le_of_ble_eq_true rfl) (ls0 := [.ref 54, .int x1, .int x2, .null, .null, .null, .null]) rfl ?_
  refine R_aload_n dX8_forged_0 rfl rfl ?_
  refine R_iload_n dX8_forged_1 rfl rfl ?_
  obtain ⟨r2, e1, H⟩ := bn_some H
  refine R_cV dX8_forged_2 lvX8_166 ⟨Nat.le_of_ble_eq_true rfl, Nat.le_of_ble_eq_true rfl⟩ (r := 54) rfl (av := [.int x1]) (st := []) rfl rfl (Nat.le_of_ble_eq_true rfl) (tX8_isPaper e1) ?_
  rcases it_split H with ⟨c3, H⟩ | ⟨c3, H⟩
  · refine R_if_ne_f dX8_forged_5 (tgt := 11) (by decide) c3 ?_
    refine R_ldc dX8_forged_8 lcX8_198 ?_
    obtain rfl := Option.some.inj H
    exact R_retI dX8_forged_10 rfl (Or.inl rfl)
  · refine R_if_ne_t dX8_forged_5 (tgt := 11) (by decide) c3 ?_
    refine R_iload_n dX8_forged_11 rfl rfl ?_
    refine R_i2l dX8_forged_12 ?_
    refine R_lconst dX8_forged_13 (v := 0) rfl ?_
    refine R_lconst dX8_forged_14 (v := 1) rfl ?_
    obtain ⟨r5, e4, H⟩ := bn_some H
    refine R_cS dX8_forged_15 lvX8_71 ⟨Nat.le_of_ble_eq_true rfl, Nat.le_of_ble_eq_true rfl⟩ (av := [.long (Int32.toInt64 x2), .long 0, .long 1]) (st := []) rfl rfl (Nat.le_of_ble_eq_true rfl) (tX8_in e4) ?_
    rcases it_split H with ⟨c6, H⟩ | ⟨c6, H⟩
    · refine R_if_ne_f dX8_forged_18 (tgt := 24) (by decide) c6 ?_
      refine R_ldc dX8_forged_21 lcX8_75 ?_
      obtain rfl := Option.some.inj H
      exact R_retI dX8_forged_23 rfl (Or.inl rfl)
    · refine R_if_ne_t dX8_forged_18 (tgt := 24) (by decide) c6 ?_
      refine R_iconst dX8_forged_24 (v := 0) (by decide) ?_
      refine R_istoreN dX8_forged_25 rfl (by decide) rfl (ls2 := [.ref 54, .int x1, .int x2, .int 0, .null, .null, .null]) rfl ?_
      refine R_iconst dX8_forged_26 (v := 0) (by decide) ?_
      refine R_istoreW dX8_forged_27 (by decide) rfl (ls2 := [.ref 54, .int x1, .int x2, .int 0, .int 0, .null, .null]) rfl ?_
      refine R_iconst dX8_forged_29 (v := 0) (by decide) ?_
      refine R_istoreW dX8_forged_30 (by decide) rfl (ls2 := [.ref 54, .int x1, .int x2, .int 0, .int 0, .int 0, .null]) rfl ?_
      refine tX8_forged_L32 (fun z29 z30 r H => ?_) _ _ _ _ _ H
      refine R_iload_n dX8_forged_126 rfl rfl ?_
      rcases it_split H with ⟨c31, H⟩ | ⟨c31, H⟩
      · refine R_if_ne_f dX8_forged_127 (tgt := 134) (by decide) c31 ?_
        refine R_iload_n dX8_forged_130 rfl rfl ?_
        refine R_goto dX8_forged_131 (tgt := 136) (by decide) ?_
        obtain rfl := Option.some.inj H
        exact R_retI dX8_forged_136 rfl (Or.inl rfl)
      · refine R_if_ne_t dX8_forged_127 (tgt := 134) (by decide) c31 ?_
        refine R_iload dX8_forged_134 rfl ?_
        obtain rfl := Option.some.inj H
        exact R_retI dX8_forged_136 rfl (Or.inl rfl)

set_option maxRecDepth 100000 in
set_option maxHeartbeats 4000000 in
theorem tX8_air {h : aH} {x1 : Int32} {x2 : Int32} {x3 : Int32} {r : Int32} (H : fX8_air h x1 x2 x3 = some r) : Ev mX8_air [.ref 54, .int x1, .int x2, .int x3] h (some (.int r)) h := by
  unfold fX8_air at H
  refine Ev_of (sp := (0, fun _ => 0)) oX8_air nlX8 (Nat.le_of_ble_eq_true rfl) (ls0 := [.ref 54, .int x1, .int x2, .int x3]) rfl ?_
  refine R_aload_n dX8_air_0 rfl rfl ?_
  refine R_iload_n dX8_air_1 rfl rfl ?_
  obtain ⟨r2, e1, H⟩ := bn_some H
  refine R_cV dX8_air_2 lvX8_195 ⟨Nat.le_of_ble_eq_true rfl, Nat.le_of_ble_eq_true rfl⟩ (r := 54) rfl (av := [.int x1]) (st := []) rfl rfl (Nat.le_of_ble_eq_true rfl) (tX8_isHand e1) ?_
  rcases it_split H with ⟨c3, H⟩ | ⟨c3, H⟩
  · refine R_if_ne_f dX8_air_5 (tgt := 11) (by decide) c3 ?_
    refine R_ldc dX8_air_8 lcX8_198 ?_
    obtain rfl := Option.some.inj H
    exact R_retI dX8_air_10 rfl (Or.inl rfl)
  · refine R_if_ne_t dX8_air_5 (tgt := 11) (by decide) c3 ?_
    refine R_iload_n dX8_air_11 rfl rfl ?_
    obtain ⟨r5, e4, H⟩ := bn_some H
    refine R_cS dX8_air_12 lvX8_179 ⟨Nat.le_of_ble_eq_true rfl, Nat.le_of_ble_eq_true rfl⟩ (av := [.int x2]) (st := []) rfl rfl (Nat.le_of_ble_eq_true rfl) (tX8_isHour e4) ?_
    rcases it_split H with ⟨c6, H⟩ | ⟨c6, H⟩
    · refine R_if_eq_t dX8_air_15 (tgt := 33) (by decide) c6 ?_
      refine R_ldc dX8_air_33 lcX8_75 ?_
      obtain rfl := Option.some.inj H
      exact R_retI dX8_air_35 rfl (Or.inl rfl)
    · refine R_if_eq_f dX8_air_15 (tgt := 33) (by decide) c6 ?_
      refine R_aload_n dX8_air_18 rfl rfl ?_
      refine R_iload_n dX8_air_19 rfl rfl ?_
      refine R_aload_n dX8_air_20 rfl rfl ?_
      refine R_iload_n dX8_air_21 rfl rfl ?_
      refine R_iload_n dX8_air_22 rfl rfl ?_
      obtain ⟨r8, e7, H⟩ := bn_some H
      refine R_cV dX8_air_23 lvX8_212 ⟨Nat.le_of_ble_eq_true rfl, Nat.le_of_ble_eq_true rfl⟩ (r := 54) rfl (av := [.int x1, .int x2]) (st := [.int x1, .ref 54]) rfl rfl (Nat.le_of_ble_eq_true rfl) (tX8_lookAt e7) ?_
      refine R_iload_n dX8_air_26 rfl rfl ?_
      obtain ⟨r10, e9, H⟩ := bn_some H
      refine R_cV dX8_air_27 lvX8_244 ⟨Nat.le_of_ble_eq_true rfl, Nat.le_of_ble_eq_true rfl⟩ (r := 54) rfl (av := [.int x1, .int r8, .int x3]) (st := []) rfl rfl (Nat.le_of_ble_eq_true rfl) (tX8_hoursOf e9) ?_
      refine R_goto dX8_air_30 (tgt := 35) (by decide) ?_
      obtain rfl := Option.some.inj H
      exact R_retI dX8_air_35 rfl (Or.inl rfl)

set_option maxRecDepth 100000 in
set_option maxHeartbeats 4000000 in
theorem tX8_rained_L17 {sp : Nat × (Nat → Int32)} {K : Int32 → Option Bool} {h : aH} {x1 : Int32} {x2 : Int32} {x4 : Int32} (hK : ∀ (y3 : Int32) (r : Bool), K y3 = some r → Rn sp mX8_rained 118 [.ref 54, .int x1, .int x2, .int y3, .int x4, .null, .null] [] h (some (.int (bi r))) h) : ∀ (n : Nat) (x3 x5 : Int32) (r : Bool), fX8_rained_L17 K h x1 x2 x4 n x3 x5 = some r → Rn sp mX8_rained 17 [.ref 54, .int x1, .int x2, .int x3, .int x4, .int x5, .null] [] h (some (.int (bi r))) h := by
  intro n
  induction n with
  | zero =>
    intro x3 x5 r H
    rw [fX8_rained_L17] at H
    cases H
  | succ n ih =>
    intro x3 x5 r H
    rw [fX8_rained_L17] at H
    refine R_iload dX8_rained_17 rfl ?_
    refine R_aload_n dX8_rained_19 rfl rfl ?_
    refine R_getF dX8_rained_20 lfX8_7 rfl rfl (q := 55) rfl ?_
    refine R_bipush dX8_rained_23 (v := 48) (by decide) ?_
    refine R_iload dX8_rained_25 rfl ?_
    refine R_iadd dX8_rained_27 ?_
    obtain ⟨c2, H⟩ := it_some H
    refine R_ildY dX8_rained_28 rfl rfl (ck_in c2) (j := tn (48 + x4)) rfl (x := h 55 (tn (48 + x4))) rfl ?_
    rcases it_split H with ⟨c3, H⟩ | ⟨c3, H⟩
    · refine R_icmp_ge_t dX8_rained_29 (tgt := 118) (by decide) c3 ?_
      refine R_null (i := 5) (ls2 := [.ref 54, .int x1, .int x2, .int x3, .int x4, .null, .null]) rfl ?_
      exact hK _ _ H
    · refine R_icmp_ge_f dX8_rained_29 (tgt := 118) (by decide) c3 ?_
      refine R_iload_n dX8_rained_32 rfl rfl ?_
      rcases it_split H with ⟨c4, H⟩ | ⟨c4, H⟩
      · refine R_if_eq_t dX8_rained_33 (tgt := 118) (by decide) c4 ?_
        refine R_null (i := 5) (ls2 := [.ref 54, .int x1, .int x2, .int x3, .int x4, .null, .null]) rfl ?_
        exact hK _ _ H
      · refine R_if_eq_f dX8_rained_33 (tgt := 118) (by decide) c4 ?_
        refine R_aload_n dX8_rained_36 rfl rfl ?_
        refine R_iload dX8_rained_37 rfl ?_
        refine R_iload dX8_rained_39 rfl ?_
        obtain ⟨r6, e5, H⟩ := bn_some H
        refine R_cV dX8_rained_41 lvX8_209 ⟨Nat.le_of_ble_eq_true rfl, Nat.le_of_ble_eq_true rfl⟩ (r := 54) rfl (av := [.int x4, .int x5]) (st := []) rfl rfl (Nat.le_of_ble_eq_true rfl) (tX8_hourOf e5) ?_
        refine R_bipush dX8_rained_44 (v := 12) (by decide) ?_
        refine R_idiv dX8_rained_46 (by decide) ?_
        refine R_iload_n dX8_rained_47 rfl rfl ?_
        rcases it_split H with ⟨c7, H⟩ | ⟨c7, H⟩
        · refine R_icmp_ne_f dX8_rained_48 (tgt := 66) (by decide) c7 ?_
          refine R_aload_n dX8_rained_51 rfl rfl ?_
          refine R_iload dX8_rained_52 rfl ?_
          refine R_iload dX8_rained_54 rfl ?_
          obtain ⟨r9, e8, H⟩ := bn_some H
          refine R_cV dX8_rained_56 lvX8_203 ⟨Nat.le_of_ble_eq_true rfl, Nat.le_of_ble_eq_true rfl⟩ (r := 54) rfl (av := [.int x4, .int x5]) (st := []) rfl rfl (Nat.le_of_ble_eq_true rfl) (tX8_airOf e8) ?_
          rcases it_split H with ⟨c10, H⟩ | ⟨c10, H⟩
          · refine R_if_ge_t dX8_rained_59 (tgt := 66) (by decide) c10 ?_
            refine R_iconst dX8_rained_66 (v := 0) (by decide) ?_
            refine R_istoreW dX8_rained_67 (by decide) rfl (ls2 := [.ref 54, .int x1, .int x2, .int x3, .int x4, .int x5, .int 0]) rfl ?_
            refine R_iload dX8_rained_69 rfl ?_
            refine R_if_eq_t dX8_rained_71 (tgt := 106) (by decide) (by decide) ?_
            refine R_iconst dX8_rained_106 (v := 1) (by decide) ?_
            refine R_goto dX8_rained_107 (tgt := 111) (by decide) ?_
            refine R_istoreN dX8_rained_111 rfl (by decide) rfl (ls2 := [.ref 54, .int x1, .int x2, .int 1, .int x4, .int x5, .int 0]) rfl ?_
            refine R_iincW dX8_rained_112 rfl (v := x5 + 1) rfl (by decide) rfl (ls2 := [.ref 54, .int x1, .int x2, .int 1, .int x4, .int (x5 + 1), .int 0]) rfl ?_
            refine R_goto dX8_rained_115 (tgt := 17) (by decide) ?_
            refine R_null (i := 6) (ls2 := [.ref 54, .int x1, .int x2, .int 1, .int x4, .int (x5 + 1), .null]) rfl ?_
            exact ih _ _ _ H
          · refine R_if_ge_f dX8_rained_59 (tgt := 66) (by decide) c10 ?_
            refine R_iconst dX8_rained_62 (v := 1) (by decide) ?_
            refine R_goto dX8_rained_63 (tgt := 67) (by decide) ?_
            refine R_istoreW dX8_rained_67 (by decide) rfl (ls2 := [.ref 54, .int x1, .int x2, .int x3, .int x4, .int x5, .int 1]) rfl ?_
            refine R_iload dX8_rained_69 rfl ?_
            refine R_if_eq_f dX8_rained_71 (tgt := 106) (by decide) (by decide) ?_
            refine R_aload_n dX8_rained_74 rfl rfl ?_
            refine R_aload_n dX8_rained_75 rfl rfl ?_
            refine R_iload dX8_rained_76 rfl ?_
            refine R_iload dX8_rained_78 rfl ?_
            obtain ⟨r12, e11, H⟩ := bn_some H
            refine R_cV dX8_rained_80 lvX8_206 ⟨Nat.le_of_ble_eq_true rfl, Nat.le_of_ble_eq_true rfl⟩ (r := 54) rfl (av := [.int x4, .int x5]) (st := [.ref 54]) rfl rfl (Nat.le_of_ble_eq_true rfl) (tX8_handOf e11) ?_
            refine R_aload_n dX8_rained_83 rfl rfl ?_
            refine R_iload dX8_rained_84 rfl ?_
            refine R_iload dX8_rained_86 rfl ?_
            obtain ⟨r14, e13, H⟩ := bn_some H
            refine R_cV dX8_rained_88 lvX8_209 ⟨Nat.le_of_ble_eq_true rfl, Nat.le_of_ble_eq_true rfl⟩ (r := 54) rfl (av := [.int x4, .int x5]) (st := [.int r12, .ref 54]) rfl rfl (Nat.le_of_ble_eq_true rfl) (tX8_hourOf e13) ?_
            refine R_iload_n dX8_rained_91 rfl rfl ?_
            obtain ⟨r16, e15, H⟩ := bn_some H
            refine R_cV dX8_rained_92 lvX8_199 ⟨Nat.le_of_ble_eq_true rfl, Nat.le_of_ble_eq_true rfl⟩ (r := 54) rfl (av := [.int r12, .int r14, .int x2]) (st := []) rfl rfl (Nat.le_of_ble_eq_true rfl) (tX8_lookBy e15) ?_
            refine R_aload_n dX8_rained_95 rfl rfl ?_
            refine R_iload dX8_rained_96 rfl ?_
            refine R_iload dX8_rained_98 rfl ?_
            obtain ⟨r18, e17, H⟩ := bn_some H
            refine R_cV dX8_rained_100 lvX8_222 ⟨Nat.le_of_ble_eq_true rfl, Nat.le_of_ble_eq_true rfl⟩ (r := 54) rfl (av := [.int x4, .int x5]) (st := [.int r16]) rfl rfl (Nat.le_of_ble_eq_true rfl) (tX8_lookOf e17) ?_
            rcases it_split H with ⟨c19, H⟩ | ⟨c19, H⟩
            · refine R_icmp_ne_f dX8_rained_103 (tgt := 110) (by decide) c19 ?_
              refine R_iconst dX8_rained_106 (v := 1) (by decide) ?_
              refine R_goto dX8_rained_107 (tgt := 111) (by decide) ?_
              refine R_istoreN dX8_rained_111 rfl (by decide) rfl (ls2 := [.ref 54, .int x1, .int x2, .int 1, .int x4, .int x5, .int 1]) rfl ?_
              refine R_iincW dX8_rained_112 rfl (v := x5 + 1) rfl (by decide) rfl (ls2 := [.ref 54, .int x1, .int x2, .int 1, .int x4, .int (x5 + 1), .int 1]) rfl ?_
              refine R_goto dX8_rained_115 (tgt := 17) (by decide) ?_
              refine R_null (i := 6) (ls2 := [.ref 54, .int x1, .int x2, .int 1, .int x4, .int (x5 + 1), .null]) rfl ?_
              exact ih _ _ _ H
            · refine R_icmp_ne_t dX8_rained_103 (tgt := 110) (by decide) c19 ?_
              refine R_iconst dX8_rained_110 (v := 0) (by decide) ?_
              refine R_istoreN dX8_rained_111 rfl (by decide) rfl (ls2 := [.ref 54, .int x1, .int x2, .int 0, .int x4, .int x5, .int 1]) rfl ?_
              refine R_iincW dX8_rained_112 rfl (v := x5 + 1) rfl (by decide) rfl (ls2 := [.ref 54, .int x1, .int x2, .int 0, .int x4, .int (x5 + 1), .int 1]) rfl ?_
              refine R_goto dX8_rained_115 (tgt := 17) (by decide) ?_
              refine R_null (i := 6) (ls2 := [.ref 54, .int x1, .int x2, .int 0, .int x4, .int (x5 + 1), .null]) rfl ?_
              exact ih _ _ _ H
        · refine R_icmp_ne_t dX8_rained_48 (tgt := 66) (by decide) c7 ?_
          refine R_iconst dX8_rained_66 (v := 0) (by decide) ?_
          refine R_istoreW dX8_rained_67 (by decide) rfl (ls2 := [.ref 54, .int x1, .int x2, .int x3, .int x4, .int x5, .int 0]) rfl ?_
          refine R_iload dX8_rained_69 rfl ?_
          refine R_if_eq_t dX8_rained_71 (tgt := 106) (by decide) (by decide) ?_
          refine R_iconst dX8_rained_106 (v := 1) (by decide) ?_
          refine R_goto dX8_rained_107 (tgt := 111) (by decide) ?_
          refine R_istoreN dX8_rained_111 rfl (by decide) rfl (ls2 := [.ref 54, .int x1, .int x2, .int 1, .int x4, .int x5, .int 0]) rfl ?_
          refine R_iincW dX8_rained_112 rfl (v := x5 + 1) rfl (by decide) rfl (ls2 := [.ref 54, .int x1, .int x2, .int 1, .int x4, .int (x5 + 1), .int 0]) rfl ?_
          refine R_goto dX8_rained_115 (tgt := 17) (by decide) ?_
          refine R_null (i := 6) (ls2 := [.ref 54, .int x1, .int x2, .int 1, .int x4, .int (x5 + 1), .null]) rfl ?_
          exact ih _ _ _ H

set_option maxRecDepth 100000 in
set_option maxHeartbeats 4000000 in
theorem tX8_rained_L5 {sp : Nat × (Nat → Int32)} {K : Int32 → Option Bool} {h : aH} {x1 : Int32} {x2 : Int32} (hK : ∀ (y3 : Int32) (r : Bool), K y3 = some r → Rn sp mX8_rained 124 [.null, .null, .null, .int y3, .null, .null, .null] [] h (some (.int (bi r))) h) : ∀ (n : Nat) (x3 x4 : Int32) (r : Bool), fX8_rained_L5 K h x1 x2 n x3 x4 = some r → Rn sp mX8_rained 5 [.ref 54, .int x1, .int x2, .int x3, .int x4, .null, .null] [] h (some (.int (bi r))) h := by
  intro n
  induction n with
  | zero =>
    intro x3 x4 r H
    rw [fX8_rained_L5] at H
    cases H
  | succ n ih =>
    intro x3 x4 r H
    rw [fX8_rained_L5] at H
    refine R_iload dX8_rained_5 rfl ?_
    refine R_aload_n dX8_rained_7 rfl rfl ?_
    refine R_getX dX8_rained_8 lfX8_141 rfl rfl (x := h 54 16) rfl ?_
    rcases it_split H with ⟨c1, H⟩ | ⟨c1, H⟩
    · refine R_icmp_ge_t dX8_rained_11 (tgt := 124) (by decide) c1 ?_
      refine R_null (i := 0) (ls2 := [.null, .int x1, .int x2, .int x3, .int x4, .null, .null]) rfl ?_
      refine R_null (i := 1) (ls2 := [.null, .null, .int x2, .int x3, .int x4, .null, .null]) rfl ?_
      refine R_null (i := 2) (ls2 := [.null, .null, .null, .int x3, .int x4, .null, .null]) rfl ?_
      refine R_null (i := 4) (ls2 := [.null, .null, .null, .int x3, .null, .null, .null]) rfl ?_
      exact hK _ _ H
    · refine R_icmp_ge_f dX8_rained_11 (tgt := 124) (by decide) c1 ?_
      refine R_iconst dX8_rained_14 (v := 0) (by decide) ?_
      refine R_istoreW dX8_rained_15 (by decide) rfl (ls2 := [.ref 54, .int x1, .int x2, .int x3, .int x4, .int 0, .null]) rfl ?_
      refine tX8_rained_L17 (fun z20 r H => ?_) _ _ _ _ H
      refine R_iincW dX8_rained_118 rfl (v := x4 + 1) rfl (by decide) rfl (ls2 := [.ref 54, .int x1, .int x2, .int z20, .int (x4 + 1), .null, .null]) rfl ?_
      refine R_goto dX8_rained_121 (tgt := 5) (by decide) ?_
      exact ih _ _ _ H

set_option maxRecDepth 100000 in
set_option maxHeartbeats 4000000 in
theorem tX8_rained {h : aH} {x1 : Int32} {x2 : Int32} {r : Bool} (H : fX8_rained h x1 x2 = some r) : Ev mX8_rained [.ref 54, .int x1, .int x2] h (some (.int (bi r))) h := by
  unfold fX8_rained at H
  refine Ev_of (sp := (0, fun _ => 0)) oX8_rained nlX8 (Nat.le_of_ble_eq_true rfl) (ls0 := [.ref 54, .int x1, .int x2, .null, .null, .null, .null]) rfl ?_
  refine R_iconst dX8_rained_0 (v := 1) (by decide) ?_
  refine R_istoreN dX8_rained_1 rfl (by decide) rfl (ls2 := [.ref 54, .int x1, .int x2, .int 1, .null, .null, .null]) rfl ?_
  refine R_iconst dX8_rained_2 (v := 0) (by decide) ?_
  refine R_istoreW dX8_rained_3 (by decide) rfl (ls2 := [.ref 54, .int x1, .int x2, .int 1, .int 0, .null, .null]) rfl ?_
  refine tX8_rained_L5 (fun z21 r H => ?_) _ _ _ _ H
  refine R_iload_n dX8_rained_124 rfl rfl ?_
  exact R_retI dX8_rained_125 (ib_some H) (Or.inr ⟨rfl, bi_01 _⟩)

set_option maxRecDepth 100000 in
set_option maxHeartbeats 4000000 in
theorem tX8_rain_L29 {sp : Nat × (Nat → Int32)} {K : Int32 → Option Int32} {h : aH} {x1 : Int32} (hK : ∀ (y2 : Int32) (r : Int32), K y2 = some r → Rn sp mX8_rain 55 [.null, .null, .int y2, .null] [] h (some (.int r)) h) : ∀ (n : Nat) (x2 x3 : Int32) (r : Int32), fX8_rain_L29 K h x1 n x2 x3 = some r → Rn sp mX8_rain 29 [.ref 54, .int x1, .int x2, .int x3] [] h (some (.int r)) h := by
  intro n
  induction n with
  | zero =>
    intro x2 x3 r H
    rw [fX8_rain_L29] at H
    cases H
  | succ n ih =>
    intro x2 x3 r H
    rw [fX8_rain_L29] at H
    refine R_iload_n dX8_rain_29 rfl rfl ?_
    refine R_bipush dX8_rain_30 (v := 10) (by decide) ?_
    rcases it_split H with ⟨c5, H⟩ | ⟨c5, H⟩
    · refine R_icmp_ge_t dX8_rain_32 (tgt := 55) (by decide) c5 ?_
      refine R_null (i := 0) (ls2 := [.null, .int x1, .int x2, .int x3]) rfl ?_
      refine R_null (i := 1) (ls2 := [.null, .null, .int x2, .int x3]) rfl ?_
      refine R_null (i := 3) (ls2 := [.null, .null, .int x2, .null]) rfl ?_
      exact hK _ _ H
    · refine R_icmp_ge_f dX8_rain_32 (tgt := 55) (by decide) c5 ?_
      refine R_iload_n dX8_rain_35 rfl rfl ?_
      refine R_aload_n dX8_rain_36 rfl rfl ?_
      refine R_iload_n dX8_rain_37 rfl rfl ?_
      refine R_iload_n dX8_rain_38 rfl rfl ?_
      obtain ⟨r7, e6, H⟩ := bn_some H
      refine R_cV dX8_rain_39 lvX8_281 ⟨Nat.le_of_ble_eq_true rfl, Nat.le_of_ble_eq_true rfl⟩ (r := 54) rfl (av := [.int x1, .int x3]) (st := [.int x2]) rfl rfl (Nat.le_of_ble_eq_true rfl) (tX8_rained e6) ?_
      obtain ⟨r9, e8, H⟩ := bn_some H
      refine R_cS dX8_rain_42 lvX8_172 ⟨Nat.le_of_ble_eq_true rfl, Nat.le_of_ble_eq_true rfl⟩ (av := [.int (bi r7)]) (st := [.int x2]) rfl rfl (Nat.le_of_ble_eq_true rfl) (tX8_one e8) ?_
      refine R_iload_n dX8_rain_45 rfl rfl ?_
      refine R_ishl dX8_rain_46 ?_
      refine R_ior dX8_rain_47 ?_
      refine R_istoreN dX8_rain_48 rfl (by decide) rfl (ls2 := [.ref 54, .int x1, .int (x2 ||| (r9 <<< (x3 &&& 31))), .int x3]) rfl ?_
      refine R_iincW dX8_rain_49 rfl (v := x3 + 1) rfl (by decide) rfl (ls2 := [.ref 54, .int x1, .int (x2 ||| (r9 <<< (x3 &&& 31))), .int (x3 + 1)]) rfl ?_
      refine R_goto dX8_rain_52 (tgt := 29) (by decide) ?_
      exact ih _ _ _ H

set_option maxRecDepth 100000 in
set_option maxHeartbeats 4000000 in
theorem tX8_rain {h : aH} {x1 : Int32} {r : Int32} (H : fX8_rain h x1 = some r) : Ev mX8_rain [.ref 54, .int x1] h (some (.int r)) h := by
  unfold fX8_rain at H
  refine Ev_of (sp := (0, fun _ => 0)) oX8_rain nlX8 (Nat.le_of_ble_eq_true rfl) (ls0 := [.ref 54, .int x1, .null, .null]) rfl ?_
  refine R_iload_n dX8_rain_0 rfl rfl ?_
  refine R_i2l dX8_rain_1 ?_
  refine R_lconst dX8_rain_2 (v := 0) rfl ?_
  refine R_ldc2 dX8_rain_3 llX8_279 ?_
  obtain ⟨r2, e1, H⟩ := bn_some H
  refine R_cS dX8_rain_6 lvX8_71 ⟨Nat.le_of_ble_eq_true rfl, Nat.le_of_ble_eq_true rfl⟩ (av := [.long (Int32.toInt64 x1), .long 0, .long 7]) (st := []) rfl rfl (Nat.le_of_ble_eq_true rfl) (tX8_in e1) ?_
  rcases it_split H with ⟨c3, H⟩ | ⟨c3, H⟩
  · refine R_if_ne_f dX8_rain_9 (tgt := 15) (by decide) c3 ?_
    refine R_ldc dX8_rain_12 lcX8_75 ?_
    obtain rfl := Option.some.inj H
    exact R_retI dX8_rain_14 rfl (Or.inl rfl)
  · refine R_if_ne_t dX8_rain_9 (tgt := 15) (by decide) c3 ?_
    refine R_aload_n dX8_rain_15 rfl rfl ?_
    refine R_getX dX8_rain_16 lfX8_144 rfl rfl (x := h 54 2) rfl ?_
    rcases it_split H with ⟨c4, H⟩ | ⟨c4, H⟩
    · refine R_if_ne_f dX8_rain_19 (tgt := 25) (by decide) c4 ?_
      refine R_ldc dX8_rain_22 lcX8_184 ?_
      obtain rfl := Option.some.inj H
      exact R_retI dX8_rain_24 rfl (Or.inl rfl)
    · refine R_if_ne_t dX8_rain_19 (tgt := 25) (by decide) c4 ?_
      refine R_iconst dX8_rain_25 (v := 0) (by decide) ?_
      refine R_istoreN dX8_rain_26 rfl (by decide) rfl (ls2 := [.ref 54, .int x1, .int 0, .null]) rfl ?_
      refine R_iconst dX8_rain_27 (v := 0) (by decide) ?_
      refine R_istoreN dX8_rain_28 rfl (by decide) rfl (ls2 := [.ref 54, .int x1, .int 0, .int 0]) rfl ?_
      refine tX8_rain_L29 (fun z10 r H => ?_) _ _ _ _ H
      refine R_iload_n dX8_rain_55 rfl rfl ?_
      obtain rfl := Option.some.inj H
      exact R_retI dX8_rain_56 rfl (Or.inl rfl)

set_option maxRecDepth 100000 in
set_option maxHeartbeats 4000000 in
theorem tX8_measure {h : aH} {x1 : Int32} {x2 : Int32} {r : Int32} {h2 : aH} (H : fX8_measure h x1 x2 = some (r, h2)) : Ev mX8_measure [.ref 54, .int x1, .int x2] h (some (.int r)) h2 := by
  unfold fX8_measure at H
  refine Ev_of (sp := (0, fun _ => 0)) oX8_measure nlX8 (Nat.le_of_ble_eq_true rfl) (ls0 := [.ref 54, .int x1, .int x2]) rfl ?_
  refine R_aload_n dX8_measure_0 rfl rfl ?_
  refine R_iload_n dX8_measure_1 rfl rfl ?_
  refine R_iload_n dX8_measure_2 rfl rfl ?_
  obtain ⟨r2, e1, H⟩ := bn_some H
  refine R_cV dX8_measure_3 lvX8_215 ⟨Nat.le_of_ble_eq_true rfl, Nat.le_of_ble_eq_true rfl⟩ (r := 54) rfl (av := [.int x1, .int x2]) (st := []) rfl rfl (Nat.le_of_ble_eq_true rfl) (tX8_isLetter e1) ?_
  rcases it_split H with ⟨c3, H⟩ | ⟨c3, H⟩
  · refine R_if_ne_f dX8_measure_6 (tgt := 12) (by decide) c3 ?_
    refine R_ldc dX8_measure_9 lcX8_198 ?_
    obtain ⟨rfl, rfl⟩ := so2 H
    exact R_retI dX8_measure_11 rfl (Or.inl rfl)
  · refine R_if_ne_t dX8_measure_6 (tgt := 12) (by decide) c3 ?_
    refine R_aload_n dX8_measure_12 rfl rfl ?_
    refine R_getF dX8_measure_13 lfX8_48 rfl rfl (q := 66) rfl ?_
    refine R_iload_n dX8_measure_16 rfl rfl ?_
    refine R_dup2 dX8_measure_17 rfl rfl ?_
    obtain ⟨c4, H⟩ := it_some H
    refine R_ildY dX8_measure_18 rfl rfl (ck_in c4) (j := tn x1) rfl (x := h 66 (tn x1)) rfl ?_
    refine R_iconst dX8_measure_19 (v := 1) (by decide) ?_
    refine R_iload_n dX8_measure_20 rfl rfl ?_
    refine R_ishl dX8_measure_21 ?_
    refine R_ior dX8_measure_22 ?_
    refine R_iastX dX8_measure_23 rfl rfl (ck_in c4) (j := tn x1) rfl ?_
    refine R_aload_n dX8_measure_24 rfl rfl ?_
    refine R_getF dX8_measure_25 lfX8_48 rfl rfl (q := 66) rfl ?_
    refine R_iload_n dX8_measure_28 rfl rfl ?_
    refine R_ildY dX8_measure_29 rfl rfl (ck_in c4) (j := tn x1) rfl (x := (h 66 (tn x1)) ||| (1 <<< (x2 &&& 31))) (by simp [aU, upd]) ?_
    obtain ⟨r6, e5, H⟩ := bn_some H
    refine R_cS dX8_measure_30 lvX8_284 ⟨Nat.le_of_ble_eq_true rfl, Nat.le_of_ble_eq_true rfl⟩ (av := [.int ((h 66 (tn x1)) ||| (1 <<< (x2 &&& 31)))]) (st := []) rfl rfl (Nat.le_of_ble_eq_true rfl) (tX8_ones e5) ?_
    obtain ⟨rfl, rfl⟩ := so2 H
    exact R_retI dX8_measure_33 rfl (Or.inl rfl)

set_option maxRecDepth 100000 in
set_option maxHeartbeats 4000000 in
theorem tX8_write {h : aH} {x1 : Int32} {x2 : Int32} {x3 : Int32} {r : Int32} {h2 : aH} (H : fX8_write h x1 x2 x3 = some (r, h2)) : Ev mX8_write [.ref 54, .int x1, .int x2, .int x3] h (some (.int r)) h2 := by
  unfold fX8_write at H
  refine Ev_of (sp := (0, fun _ => 0)) oX8_write nlX8 (Nat.le_of_ble_eq_true rfl) (ls0 := [.ref 54, .int x1, .int x2, .int x3]) rfl ?_
  refine R_aload_n dX8_write_0 rfl rfl ?_
  refine R_iload_n dX8_write_1 rfl rfl ?_
  obtain ⟨r2, e1, H⟩ := bn_some H
  refine R_cV dX8_write_2 lvX8_166 ⟨Nat.le_of_ble_eq_true rfl, Nat.le_of_ble_eq_true rfl⟩ (r := 54) rfl (av := [.int x1]) (st := []) rfl rfl (Nat.le_of_ble_eq_true rfl) (tX8_isPaper e1) ?_
  rcases it_split H with ⟨c3, H⟩ | ⟨c3, H⟩
  · refine R_if_eq_t dX8_write_5 (tgt := 20) (by decide) c3 ?_
    refine R_ldc dX8_write_20 lcX8_198 ?_
    obtain ⟨rfl, rfl⟩ := so2 H
    exact R_retI dX8_write_22 rfl (Or.inl rfl)
  · refine R_if_eq_f dX8_write_5 (tgt := 20) (by decide) c3 ?_
    refine R_iload_n dX8_write_8 rfl rfl ?_
    refine R_i2l dX8_write_9 ?_
    refine R_lconst dX8_write_10 (v := 0) rfl ?_
    refine R_ldc2 dX8_write_11 llX8_287 ?_
    obtain ⟨r5, e4, H⟩ := bn_some H
    refine R_cS dX8_write_14 lvX8_71 ⟨Nat.le_of_ble_eq_true rfl, Nat.le_of_ble_eq_true rfl⟩ (av := [.long (Int32.toInt64 x2), .long 0, .long 11]) (st := []) rfl rfl (Nat.le_of_ble_eq_true rfl) (tX8_in e4) ?_
    rcases it_split H with ⟨c6, H⟩ | ⟨c6, H⟩
    · refine R_if_ne_f dX8_write_17 (tgt := 23) (by decide) c6 ?_
      refine R_ldc dX8_write_20 lcX8_198 ?_
      obtain ⟨rfl, rfl⟩ := so2 H
      exact R_retI dX8_write_22 rfl (Or.inl rfl)
    · refine R_if_ne_t dX8_write_17 (tgt := 23) (by decide) c6 ?_
      refine R_iload_n dX8_write_23 rfl rfl ?_
      refine R_i2l dX8_write_24 ?_
      refine R_lconst dX8_write_25 (v := 0) rfl ?_
      refine R_ldc2 dX8_write_26 llX8_267 ?_
      obtain ⟨r8, e7, H⟩ := bn_some H
      refine R_cS dX8_write_29 lvX8_71 ⟨Nat.le_of_ble_eq_true rfl, Nat.le_of_ble_eq_true rfl⟩ (av := [.long (Int32.toInt64 x3), .long 0, .long 9999]) (st := []) rfl rfl (Nat.le_of_ble_eq_true rfl) (tX8_in e7) ?_
      rcases it_split H with ⟨c9, H⟩ | ⟨c9, H⟩
      · refine R_if_ne_f dX8_write_32 (tgt := 38) (by decide) c9 ?_
        refine R_ldc dX8_write_35 lcX8_75 ?_
        obtain ⟨rfl, rfl⟩ := so2 H
        exact R_retI dX8_write_37 rfl (Or.inl rfl)
      · refine R_if_ne_t dX8_write_32 (tgt := 38) (by decide) c9 ?_
        refine R_aload_n dX8_write_38 rfl rfl ?_
        refine R_getX dX8_write_39 lfX8_160 rfl rfl (x := h 54 32) rfl ?_
        refine R_bipush dX8_write_42 (v := 20) (by decide) ?_
        rcases it_split H with ⟨c10, H⟩ | ⟨c10, H⟩
        · refine R_icmp_ne_f dX8_write_44 (tgt := 50) (by decide) c10 ?_
          refine R_ldc dX8_write_47 lcX8_79 ?_
          obtain ⟨rfl, rfl⟩ := so2 H
          exact R_retI dX8_write_49 rfl (Or.inl rfl)
        · refine R_icmp_ne_t dX8_write_44 (tgt := 50) (by decide) c10 ?_
          refine R_aload_n dX8_write_50 rfl rfl ?_
          refine R_getF dX8_write_51 lfX8_60 rfl rfl (q := 70) rfl ?_
          refine R_aload_n dX8_write_54 rfl rfl ?_
          refine R_getX dX8_write_55 lfX8_160 rfl rfl (x := h 54 32) rfl ?_
          refine R_iload_n dX8_write_58 rfl rfl ?_
          obtain ⟨c11, H⟩ := it_some H
          refine R_iastX dX8_write_59 rfl rfl (ck_in c11) (j := tn (h 54 32)) rfl ?_
          refine R_aload_n dX8_write_60 rfl rfl ?_
          refine R_getF dX8_write_61 lfX8_63 rfl rfl (q := 71) rfl ?_
          refine R_aload_n dX8_write_64 rfl rfl ?_
          refine R_getX dX8_write_65 lfX8_160 rfl rfl (x := h 54 32) rfl ?_
          refine R_iload_n dX8_write_68 rfl rfl ?_
          refine R_iastX dX8_write_69 rfl rfl (ck_in c11) (j := tn (h 54 32)) rfl ?_
          refine R_aload_n dX8_write_70 rfl rfl ?_
          refine R_getF dX8_write_71 lfX8_66 rfl rfl (q := 72) rfl ?_
          refine R_aload_n dX8_write_74 rfl rfl ?_
          refine R_getX dX8_write_75 lfX8_160 rfl rfl (x := h 54 32) rfl ?_
          refine R_iload_n dX8_write_78 rfl rfl ?_
          refine R_iastX dX8_write_79 rfl rfl (ck_in c11) (j := tn (h 54 32)) rfl ?_
          refine R_aload_n dX8_write_80 rfl rfl ?_
          refine R_dup dX8_write_81 rfl ?_
          refine R_getX dX8_write_82 lfX8_160 rfl rfl (x := h 54 32) rfl ?_
          refine R_iconst dX8_write_85 (v := 1) (by decide) ?_
          refine R_iadd dX8_write_86 ?_
          refine R_putI dX8_write_87 lfX8_160 rfl rfl ?_
          refine R_aload_n dX8_write_90 rfl rfl ?_
          refine R_getX dX8_write_91 lfX8_160 rfl rfl (x := (h 54 32) + 1) rfl ?_
          obtain ⟨rfl, rfl⟩ := so2 H
          exact R_retI dX8_write_94 rfl (Or.inl rfl)

set_option maxRecDepth 100000 in
set_option maxHeartbeats 4000000 in
theorem tX8_judge_L2 {sp : Nat × (Nat → Int32)} {K : Unit → Option Int32} {h : aH} (hK : ∀ (_ : Unit) (r : Int32), K () = some r → Rn sp mX8_judge 62 [.null, .null] [] h (some (.int r)) h) : ∀ (n : Nat) (x1 : Int32) (r : Int32), fX8_judge_L2 K h n x1 = some r → Rn sp mX8_judge 2 [.ref 54, .int x1] [] h (some (.int r)) h := by
  intro n
  induction n with
  | zero =>
    intro x1 r H
    rw [fX8_judge_L2] at H
    cases H
  | succ n ih =>
    intro x1 r H
    rw [fX8_judge_L2] at H
    refine R_iload_n dX8_judge_2 rfl rfl ?_
    refine R_aload_n dX8_judge_3 rfl rfl ?_
    refine R_getX dX8_judge_4 lfX8_160 rfl rfl (x := h 54 32) rfl ?_
    rcases it_split H with ⟨c1, H⟩ | ⟨c1, H⟩
    · refine R_icmp_ge_t dX8_judge_7 (tgt := 62) (by decide) c1 ?_
      refine R_null (i := 0) (ls2 := [.null, .int x1]) rfl ?_
      refine R_null (i := 1) (ls2 := [.null, .null]) rfl ?_
      exact hK () _ H
    · refine R_icmp_ge_f dX8_judge_7 (tgt := 62) (by decide) c1 ?_
      refine R_aload_n dX8_judge_10 rfl rfl ?_
      refine R_aload_n dX8_judge_11 rfl rfl ?_
      refine R_getF dX8_judge_12 lfX8_60 rfl rfl (q := 70) rfl ?_
      refine R_iload_n dX8_judge_15 rfl rfl ?_
      obtain ⟨c2, H⟩ := it_some H
      refine R_ildY dX8_judge_16 rfl rfl (ck_in c2) (j := tn x1) rfl (x := h 70 (tn x1)) rfl ?_
      refine R_aload_n dX8_judge_17 rfl rfl ?_
      refine R_getF dX8_judge_18 lfX8_63 rfl rfl (q := 71) rfl ?_
      refine R_iload_n dX8_judge_21 rfl rfl ?_
      refine R_ildY dX8_judge_22 rfl rfl (ck_in c2) (j := tn x1) rfl (x := h 71 (tn x1)) rfl ?_
      obtain ⟨r4, e3, H⟩ := bn_some H
      refine R_cV dX8_judge_23 lvX8_215 ⟨Nat.le_of_ble_eq_true rfl, Nat.le_of_ble_eq_true rfl⟩ (r := 54) rfl (av := [.int (h 70 (tn x1)), .int (h 71 (tn x1))]) (st := []) rfl rfl (Nat.le_of_ble_eq_true rfl) (tX8_isLetter e3) ?_
      rcases it_split H with ⟨c5, H⟩ | ⟨c5, H⟩
      · refine R_if_eq_t dX8_judge_26 (tgt := 54) (by decide) c5 ?_
        refine R_iload_n dX8_judge_54 rfl rfl ?_
        obtain rfl := Option.some.inj H
        exact R_retI dX8_judge_55 rfl (Or.inl rfl)
      · refine R_if_eq_f dX8_judge_26 (tgt := 54) (by decide) c5 ?_
        refine R_aload_n dX8_judge_29 rfl rfl ?_
        refine R_aload_n dX8_judge_30 rfl rfl ?_
        refine R_getF dX8_judge_31 lfX8_60 rfl rfl (q := 70) rfl ?_
        refine R_iload_n dX8_judge_34 rfl rfl ?_
        refine R_ildY dX8_judge_35 rfl rfl (ck_in c2) (j := tn x1) rfl (x := h 70 (tn x1)) rfl ?_
        refine R_aload_n dX8_judge_36 rfl rfl ?_
        refine R_getF dX8_judge_37 lfX8_63 rfl rfl (q := 71) rfl ?_
        refine R_iload_n dX8_judge_40 rfl rfl ?_
        refine R_ildY dX8_judge_41 rfl rfl (ck_in c2) (j := tn x1) rfl (x := h 71 (tn x1)) rfl ?_
        obtain ⟨r7, e6, H⟩ := bn_some H
        refine R_cV dX8_judge_42 lvX8_222 ⟨Nat.le_of_ble_eq_true rfl, Nat.le_of_ble_eq_true rfl⟩ (r := 54) rfl (av := [.int (h 70 (tn x1)), .int (h 71 (tn x1))]) (st := []) rfl rfl (Nat.le_of_ble_eq_true rfl) (tX8_lookOf e6) ?_
        refine R_aload_n dX8_judge_45 rfl rfl ?_
        refine R_getF dX8_judge_46 lfX8_66 rfl rfl (q := 72) rfl ?_
        refine R_iload_n dX8_judge_49 rfl rfl ?_
        refine R_ildY dX8_judge_50 rfl rfl (ck_in c2) (j := tn x1) rfl (x := h 72 (tn x1)) rfl ?_
        rcases it_split H with ⟨c8, H⟩ | ⟨c8, H⟩
        · refine R_icmp_eq_t dX8_judge_51 (tgt := 56) (by decide) c8 ?_
          refine R_iincW dX8_judge_56 rfl (v := x1 + 1) rfl (by decide) rfl (ls2 := [.ref 54, .int (x1 + 1)]) rfl ?_
          refine R_goto dX8_judge_59 (tgt := 2) (by decide) ?_
          exact ih _ _ H
        · refine R_icmp_eq_f dX8_judge_51 (tgt := 56) (by decide) c8 ?_
          refine R_iload_n dX8_judge_54 rfl rfl ?_
          obtain rfl := Option.some.inj H
          exact R_retI dX8_judge_55 rfl (Or.inl rfl)

set_option maxRecDepth 100000 in
set_option maxHeartbeats 4000000 in
theorem tX8_judge {h : aH} {r : Int32} (H : fX8_judge h = some r) : Ev mX8_judge [.ref 54] h (some (.int r)) h := by
  unfold fX8_judge at H
  refine Ev_of (sp := (0, fun _ => 0)) oX8_judge nlX8 (Nat.le_of_ble_eq_true rfl) (ls0 := [.ref 54, .null]) rfl ?_
  refine R_iconst dX8_judge_0 (v := 0) (by decide) ?_
  refine R_istoreN dX8_judge_1 rfl (by decide) rfl (ls2 := [.ref 54, .int 0]) rfl ?_
  refine tX8_judge_L2 (fun _ r H => ?_) _ _ _ H
  refine R_iconst dX8_judge_62 (v := (-1)) (by decide) ?_
  obtain rfl := Option.some.inj H
  exact R_retI dX8_judge_63 rfl (Or.inl rfl)

set_option maxRecDepth 100000 in
set_option maxHeartbeats 4000000 in
theorem tX8_tear_L7 {sp : Nat × (Nat → Int32)} {K : aH → Int32 → Option (Int32 × aH)} (hK : ∀ (hk : aH) (y1 : Int32) (r : Int32) (h2 : aH), K hk y1 = some (r, h2) → Rn sp mX8_tear 37 [.ref 54, .int y1, .null] [] hk (some (.int r)) h2) : ∀ (n : Nat) (h : aH) (x1 x2 : Int32) (r : Int32) (h2 : aH), fX8_tear_L7 K n h x1 x2 = some (r, h2) → Rn sp mX8_tear 7 [.ref 54, .int x1, .int x2] [] h (some (.int r)) h2 := by
  intro n
  induction n with
  | zero =>
    intro h x1 x2 r h2 H
    rw [fX8_tear_L7] at H
    cases H
  | succ n ih =>
    intro h x1 x2 r h2 H
    rw [fX8_tear_L7] at H
    refine R_iload_n dX8_tear_7 rfl rfl ?_
    refine R_iconst dX8_tear_8 (v := 4) (by decide) ?_
    rcases it_split H with ⟨c1, H⟩ | ⟨c1, H⟩
    · refine R_icmp_ge_t dX8_tear_9 (tgt := 37) (by decide) c1 ?_
      refine R_null (i := 2) (ls2 := [.ref 54, .int x1, .null]) rfl ?_
      exact hK _ _ _ _ H
    · refine R_icmp_ge_f dX8_tear_9 (tgt := 37) (by decide) c1 ?_
      refine R_iload_n dX8_tear_12 rfl rfl ?_
      refine R_aload_n dX8_tear_13 rfl rfl ?_
      refine R_getF dX8_tear_14 lfX8_48 rfl rfl (q := 66) rfl ?_
      refine R_iload_n dX8_tear_17 rfl rfl ?_
      obtain ⟨c2, H⟩ := it_some H
      refine R_ildY dX8_tear_18 rfl rfl (ck_in c2) (j := tn x2) rfl (x := h 66 (tn x2)) rfl ?_
      obtain ⟨r4, e3, H⟩ := bn_some H
      refine R_cS dX8_tear_19 lvX8_284 ⟨Nat.le_of_ble_eq_true rfl, Nat.le_of_ble_eq_true rfl⟩ (av := [.int (h 66 (tn x2))]) (st := [.int x1]) rfl rfl (Nat.le_of_ble_eq_true rfl) (tX8_ones e3) ?_
      refine R_iadd dX8_tear_22 ?_
      refine R_istoreN dX8_tear_23 rfl (by decide) rfl (ls2 := [.ref 54, .int (x1 + r4), .int x2]) rfl ?_
      refine R_aload_n dX8_tear_24 rfl rfl ?_
      refine R_getF dX8_tear_25 lfX8_48 rfl rfl (q := 66) rfl ?_
      refine R_iload_n dX8_tear_28 rfl rfl ?_
      refine R_iconst dX8_tear_29 (v := 0) (by decide) ?_
      refine R_iastX dX8_tear_30 rfl rfl (ck_in c2) (j := tn x2) rfl ?_
      refine R_iincW dX8_tear_31 rfl (v := x2 + 1) rfl (by decide) rfl (ls2 := [.ref 54, .int (x1 + r4), .int (x2 + 1)]) rfl ?_
      refine R_goto dX8_tear_34 (tgt := 7) (by decide) ?_
      exact ih _ _ _ _ _ H

set_option maxRecDepth 100000 in
set_option maxHeartbeats 4000000 in
theorem tX8_tear {h : aH} {r : Int32} {h2 : aH} (H : fX8_tear h = some (r, h2)) : Ev mX8_tear [.ref 54] h (some (.int r)) h2 := by
  unfold fX8_tear at H
  refine Ev_of (sp := (0, fun _ => 0)) oX8_tear nlX8 (Nat.le_of_ble_eq_true rfl) (ls0 := [.ref 54, .null, .null]) rfl ?_
  refine R_aload_n dX8_tear_0 rfl rfl ?_
  refine R_getX dX8_tear_1 lfX8_160 rfl rfl (x := h 54 32) rfl ?_
  refine R_istoreN dX8_tear_4 rfl (by decide) rfl (ls2 := [.ref 54, .int (h 54 32), .null]) rfl ?_
  refine R_iconst dX8_tear_5 (v := 0) (by decide) ?_
  refine R_istoreN dX8_tear_6 rfl (by decide) rfl (ls2 := [.ref 54, .int (h 54 32), .int 0]) rfl ?_
  refine tX8_tear_L7 (fun h6 z5 r h2 H => ?_) _ _ _ _ _ _ H
  refine R_aload_n dX8_tear_37 rfl rfl ?_
  refine R_iconst dX8_tear_38 (v := 0) (by decide) ?_
  refine R_putI dX8_tear_39 lfX8_160 rfl rfl ?_
  refine R_iload_n dX8_tear_42 rfl rfl ?_
  obtain ⟨rfl, rfl⟩ := so2 H
  exact R_retI dX8_tear_43 rfl (Or.inl rfl)

set_option maxRecDepth 100000 in
set_option maxHeartbeats 4000000 in
theorem tX8_seed {h : aH} {x1 : Int32} {r : Int32} {h2 : aH} (H : fX8_seed h x1 = some (r, h2)) : Ev mX8_seed [.ref 54, .int x1] h (some (.int r)) h2 := by
  unfold fX8_seed at H
  refine Ev_of (sp := (0, fun _ => 0)) oX8_seed nlX8 (Nat.le_of_ble_eq_true rfl) (ls0 := [.ref 54, .int x1, .null]) rfl ?_
  refine R_iload_n dX8_seed_0 rfl rfl ?_
  rcases it_split H with ⟨c1, H⟩ | ⟨c1, H⟩
  · refine R_if_ge_t dX8_seed_1 (tgt := 7) (by decide) c1 ?_
    refine R_aload_n dX8_seed_7 rfl rfl ?_
    refine R_getF dX8_seed_8 lfX8_7 rfl rfl (q := 55) rfl ?_
    refine R_bipush dX8_seed_11 (v := 53) (by decide) ?_
    refine R_ildY dX8_seed_13 rfl rfl (ck_in (by decide)) (j := 53) (by decide) (x := h 55 53) rfl ?_
    refine R_istoreN dX8_seed_14 rfl (by decide) rfl (ls2 := [.ref 54, .int x1, .int (h 55 53)]) rfl ?_
    refine R_aload_n dX8_seed_15 rfl rfl ?_
    refine R_getF dX8_seed_16 lfX8_7 rfl rfl (q := 55) rfl ?_
    refine R_bipush dX8_seed_19 (v := 53) (by decide) ?_
    refine R_iload_n dX8_seed_21 rfl rfl ?_
    refine R_iastX dX8_seed_22 rfl rfl (ck_in (by decide)) (j := 53) (by decide) ?_
    refine R_iload_n dX8_seed_23 rfl rfl ?_
    obtain ⟨rfl, rfl⟩ := so2 H
    exact R_retI dX8_seed_24 rfl (Or.inl rfl)
  · refine R_if_ge_f dX8_seed_1 (tgt := 7) (by decide) c1 ?_
    refine R_ldc dX8_seed_4 lcX8_75 ?_
    obtain ⟨rfl, rfl⟩ := so2 H
    exact R_retI dX8_seed_6 rfl (Or.inl rfl)

set_option maxRecDepth 100000 in
set_option maxHeartbeats 4000000 in
theorem tX8_keep {h : aH} {x1 : Int32} {r : Int32} {h2 : aH} (H : fX8_keep h x1 = some (r, h2)) : Ev mX8_keep [.ref 54, .int x1] h (some (.int r)) h2 := by
  unfold fX8_keep at H
  refine Ev_of (sp := (0, fun _ => 0)) oX8_keep nlX8 (Nat.le_of_ble_eq_true rfl) (ls0 := [.ref 54, .int x1]) rfl ?_
  refine R_iload_n dX8_keep_0 rfl rfl ?_
  refine R_i2l dX8_keep_1 ?_
  refine R_lconst dX8_keep_2 (v := 0) rfl ?_
  refine R_lconst dX8_keep_3 (v := 1) rfl ?_
  obtain ⟨r2, e1, H⟩ := bn_some H
  refine R_cS dX8_keep_4 lvX8_71 ⟨Nat.le_of_ble_eq_true rfl, Nat.le_of_ble_eq_true rfl⟩ (av := [.long (Int32.toInt64 x1), .long 0, .long 1]) (st := []) rfl rfl (Nat.le_of_ble_eq_true rfl) (tX8_in e1) ?_
  rcases it_split H with ⟨c3, H⟩ | ⟨c3, H⟩
  · refine R_if_ne_f dX8_keep_7 (tgt := 13) (by decide) c3 ?_
    refine R_ldc dX8_keep_10 lcX8_198 ?_
    obtain ⟨rfl, rfl⟩ := so2 H
    exact R_retI dX8_keep_12 rfl (Or.inl rfl)
  · refine R_if_ne_t dX8_keep_7 (tgt := 13) (by decide) c3 ?_
    refine R_aload_n dX8_keep_13 rfl rfl ?_
    refine R_iconst dX8_keep_14 (v := 0) (by decide) ?_
    refine R_bipush dX8_keep_15 (v := 54) (by decide) ?_
    refine R_bipush dX8_keep_17 (v := 54) (by decide) ?_
    refine R_iload_n dX8_keep_19 rfl rfl ?_
    refine R_imul dX8_keep_20 ?_
    refine R_iadd dX8_keep_21 ?_
    obtain ⟨h5, e4, H⟩ := bn_some H
    refine R_cV dX8_keep_22 lvX8_225 ⟨Nat.le_of_ble_eq_true rfl, Nat.le_of_ble_eq_true rfl⟩ (r := 54) rfl (av := [.int 0, .int (54 + (54 * x1))]) (st := []) rfl rfl (Nat.le_of_ble_eq_true rfl) (tX8_copy e4) ?_
    refine R_aload_n dX8_keep_25 rfl rfl ?_
    refine R_getF dX8_keep_26 lfX8_13 rfl rfl (q := 56) rfl ?_
    refine R_iload_n dX8_keep_29 rfl rfl ?_
    refine R_iconst dX8_keep_30 (v := 1) (by decide) ?_
    obtain ⟨c6, H⟩ := it_some H
    refine R_zastX dX8_keep_31 rfl rfl (ck_in c6) (by decide) (j := tn x1) rfl ?_
    refine R_aload_n dX8_keep_32 rfl rfl ?_
    refine R_iconst dX8_keep_33 (v := 0) (by decide) ?_
    refine R_putI dX8_keep_34 lfX8_163 rfl rfl ?_
    refine R_iconst dX8_keep_37 (v := 1) (by decide) ?_
    obtain ⟨rfl, rfl⟩ := so2 H
    exact R_retI dX8_keep_38 rfl (Or.inl rfl)

set_option maxRecDepth 100000 in
set_option maxHeartbeats 4000000 in
theorem tX8_goBack {h : aH} {x1 : Int32} {r : Int32} {h2 : aH} (H : fX8_goBack h x1 = some (r, h2)) : Ev mX8_goBack [.ref 54, .int x1] h (some (.int r)) h2 := by
  unfold fX8_goBack at H
  refine Ev_of (sp := (0, fun _ => 0)) oX8_goBack nlX8 (Nat.le_of_ble_eq_true rfl) (ls0 := [.ref 54, .int x1]) rfl ?_
  refine R_iload_n dX8_goBack_0 rfl rfl ?_
  refine R_i2l dX8_goBack_1 ?_
  refine R_lconst dX8_goBack_2 (v := 0) rfl ?_
  refine R_lconst dX8_goBack_3 (v := 1) rfl ?_
  obtain ⟨r2, e1, H⟩ := bn_some H
  refine R_cS dX8_goBack_4 lvX8_71 ⟨Nat.le_of_ble_eq_true rfl, Nat.le_of_ble_eq_true rfl⟩ (av := [.long (Int32.toInt64 x1), .long 0, .long 1]) (st := []) rfl rfl (Nat.le_of_ble_eq_true rfl) (tX8_in e1) ?_
  rcases it_split H with ⟨c3, H⟩ | ⟨c3, H⟩
  · refine R_if_ne_f dX8_goBack_7 (tgt := 13) (by decide) c3 ?_
    refine R_ldc dX8_goBack_10 lcX8_198 ?_
    obtain ⟨rfl, rfl⟩ := so2 H
    exact R_retI dX8_goBack_12 rfl (Or.inl rfl)
  · refine R_if_ne_t dX8_goBack_7 (tgt := 13) (by decide) c3 ?_
    refine R_aload_n dX8_goBack_13 rfl rfl ?_
    refine R_getF dX8_goBack_14 lfX8_13 rfl rfl (q := 56) rfl ?_
    refine R_iload_n dX8_goBack_17 rfl rfl ?_
    obtain ⟨c4, H⟩ := it_some H
    refine R_zldY dX8_goBack_18 rfl rfl (ck_in c4) (j := tn x1) rfl (x := h 56 (tn x1)) rfl ?_
    rcases it_split H with ⟨c5, H⟩ | ⟨c5, H⟩
    · refine R_if_ne_f dX8_goBack_19 (tgt := 25) (by decide) c5 ?_
      refine R_ldc dX8_goBack_22 lcX8_184 ?_
      obtain ⟨rfl, rfl⟩ := so2 H
      exact R_retI dX8_goBack_24 rfl (Or.inl rfl)
    · refine R_if_ne_t dX8_goBack_19 (tgt := 25) (by decide) c5 ?_
      refine R_aload_n dX8_goBack_25 rfl rfl ?_
      refine R_bipush dX8_goBack_26 (v := 54) (by decide) ?_
      refine R_bipush dX8_goBack_28 (v := 54) (by decide) ?_
      refine R_iload_n dX8_goBack_30 rfl rfl ?_
      refine R_imul dX8_goBack_31 ?_
      refine R_iadd dX8_goBack_32 ?_
      refine R_iconst dX8_goBack_33 (v := 0) (by decide) ?_
      obtain ⟨h7, e6, H⟩ := bn_some H
      refine R_cV dX8_goBack_34 lvX8_225 ⟨Nat.le_of_ble_eq_true rfl, Nat.le_of_ble_eq_true rfl⟩ (r := 54) rfl (av := [.int (54 + (54 * x1)), .int 0]) (st := []) rfl rfl (Nat.le_of_ble_eq_true rfl) (tX8_copy e6) ?_
      refine R_aload_n dX8_goBack_37 rfl rfl ?_
      refine R_iconst dX8_goBack_38 (v := 0) (by decide) ?_
      refine R_putI dX8_goBack_39 lfX8_163 rfl rfl ?_
      refine R_iconst dX8_goBack_42 (v := 1) (by decide) ?_
      obtain ⟨rfl, rfl⟩ := so2 H
      exact R_retI dX8_goBack_43 rfl (Or.inl rfl)
