set_option maxRecDepth 100000 in
set_option maxHeartbeats 4000000 in
theorem tX7_feed {h : aH} {x1 : Int32} {r : Int32} {h2 : aH} (H : fX7_feed h x1 = some (r, h2)) : Ev mX7_feed [.ref 0, .int x1] h (some (.int r)) h2 := by
  unfold fX7_feed at H
  refine Ev_of (sp := (0, fun _ => 0)) oX7_feed nlX7 (Nat.le_of_ble_eq_true rfl) (ls0 := [.ref 0, .int x1]) rfl ?_
  refine R_iload_n dX7_feed_0 rfl rfl ?_
  rcases it_split H with ⟨c1, H⟩ | ⟨c1, H⟩
  · refine R_if_lt_t dX7_feed_1 (tgt := 11) (by decide) c1 ?_
    refine R_ldc dX7_feed_11 lcX7_75 ?_
    obtain ⟨rfl, rfl⟩ := so2 H
    exact R_retI dX7_feed_13 rfl (Or.inl rfl)
  · refine R_if_lt_f dX7_feed_1 (tgt := 11) (by decide) c1 ?_
    refine R_iload_n dX7_feed_4 rfl rfl ?_
    refine R_sipush dX7_feed_5 (v := 255) (by decide) ?_
    rcases it_split H with ⟨c2, H⟩ | ⟨c2, H⟩
    · refine R_icmp_le_t dX7_feed_8 (tgt := 14) (by decide) c2 ?_
      refine R_aload_n dX7_feed_14 rfl rfl ?_
      refine R_getF dX7_feed_15 lfX7_10 rfl rfl (q := 1) rfl ?_
      refine R_iload_n dX7_feed_18 rfl rfl ?_
      obtain ⟨r5, h4, e3, H⟩ := bn2_some H
      refine R_cV dX7_feed_19 lvX7_76 ⟨Nat.le_of_ble_eq_true rfl, Nat.le_of_ble_eq_true rfl⟩ (r := 1) rfl (av := [.int x1]) (st := []) rfl rfl (Nat.le_of_ble_eq_true rfl) (tX5_take e3) ?_
      obtain ⟨rfl, rfl⟩ := so2 H
      exact R_retI dX7_feed_22 rfl (Or.inl rfl)
    · refine R_icmp_le_f dX7_feed_8 (tgt := 14) (by decide) c2 ?_
      refine R_ldc dX7_feed_11 lcX7_75 ?_
      obtain ⟨rfl, rfl⟩ := so2 H
      exact R_retI dX7_feed_13 rfl (Or.inl rfl)

set_option maxRecDepth 100000 in
set_option maxHeartbeats 4000000 in
theorem tX7_dropMeasures_L4 {sp : Nat × (Nat → Int32)} {K : aH → Int32 → Option (Int32 × aH)} (hK : ∀ (hk : aH) (y1 : Int32) (r : Int32) (h2 : aH), K hk y1 = some (r, h2) → Rn sp mX7_dropMeasures 34 [.null, .int y1, .null] [] hk (some (.int r)) h2) : ∀ (n : Nat) (h : aH) (x1 x2 : Int32) (r : Int32) (h2 : aH), fX7_dropMeasures_L4 K n h x1 x2 = some (r, h2) → Rn sp mX7_dropMeasures 4 [.ref 0, .int x1, .int x2] [] h (some (.int r)) h2 := by
  intro n
  induction n with
  | zero =>
    intro h x1 x2 r h2 H
    rw [fX7_dropMeasures_L4] at H
    cases H
  | succ n ih =>
    intro h x1 x2 r h2 H
    rw [fX7_dropMeasures_L4] at H
    refine R_iload_n dX7_dropMeasures_4 rfl rfl ?_
    refine R_iconst dX7_dropMeasures_5 (v := 4) (by decide) ?_
    rcases it_split H with ⟨c1, H⟩ | ⟨c1, H⟩
    · refine R_icmp_ge_t dX7_dropMeasures_6 (tgt := 34) (by decide) c1 ?_
      refine R_null (i := 0) (ls2 := [.null, .int x1, .int x2]) rfl ?_
      refine R_null (i := 2) (ls2 := [.null, .int x1, .null]) rfl ?_
      exact hK _ _ _ _ H
    · refine R_icmp_ge_f dX7_dropMeasures_6 (tgt := 34) (by decide) c1 ?_
      refine R_iload_n dX7_dropMeasures_9 rfl rfl ?_
      refine R_aload_n dX7_dropMeasures_10 rfl rfl ?_
      refine R_getF dX7_dropMeasures_11 lfX7_57 rfl rfl (q := 35) rfl ?_
      refine R_iload_n dX7_dropMeasures_14 rfl rfl ?_
      obtain ⟨c2, H⟩ := it_some H
      refine R_ildY dX7_dropMeasures_15 rfl rfl (ck_in c2) (j := tn x2) rfl (x := h 35 (tn x2)) rfl ?_
      obtain ⟨r4, e3, H⟩ := bn_some H
      refine R_cS dX7_dropMeasures_16 lvX7_283 ⟨Nat.le_of_ble_eq_true rfl, Nat.le_of_ble_eq_true rfl⟩ (av := [.int (h 35 (tn x2))]) (st := [.int x1]) rfl rfl (Nat.le_of_ble_eq_true rfl) (tJ6_bitCount_0f7a4 e3) ?_
      refine R_iadd dX7_dropMeasures_19 ?_
      refine R_istoreN dX7_dropMeasures_20 rfl (by decide) rfl (ls2 := [.ref 0, .int (x1 + r4), .int x2]) rfl ?_
      refine R_aload_n dX7_dropMeasures_21 rfl rfl ?_
      refine R_getF dX7_dropMeasures_22 lfX7_57 rfl rfl (q := 35) rfl ?_
      refine R_iload_n dX7_dropMeasures_25 rfl rfl ?_
      refine R_iconst dX7_dropMeasures_26 (v := 0) (by decide) ?_
      refine R_iastX dX7_dropMeasures_27 rfl rfl (ck_in c2) (j := tn x2) rfl ?_
      refine R_iincW dX7_dropMeasures_28 rfl (v := x2 + 1) rfl (by decide) rfl (ls2 := [.ref 0, .int (x1 + r4), .int (x2 + 1)]) rfl ?_
      refine R_goto dX7_dropMeasures_31 (tgt := 4) (by decide) ?_
      exact ih _ _ _ _ _ H

set_option maxRecDepth 100000 in
set_option maxHeartbeats 4000000 in
theorem tX7_dropMeasures {h : aH} {r : Int32} {h2 : aH} (H : fX7_dropMeasures h = some (r, h2)) : Ev mX7_dropMeasures [.ref 0] h (some (.int r)) h2 := by
  unfold fX7_dropMeasures at H
  refine Ev_of (sp := (0, fun _ => 0)) oX7_dropMeasures nlX7 (Nat.le_of_ble_eq_true rfl) (ls0 := [.ref 0, .null, .null]) rfl ?_
  refine R_iconst dX7_dropMeasures_0 (v := 0) (by decide) ?_
  refine R_istoreN dX7_dropMeasures_1 rfl (by decide) rfl (ls2 := [.ref 0, .int 0, .null]) rfl ?_
  refine R_iconst dX7_dropMeasures_2 (v := 0) (by decide) ?_
  refine R_istoreN dX7_dropMeasures_3 rfl (by decide) rfl (ls2 := [.ref 0, .int 0, .int 0]) rfl ?_
  refine tX7_dropMeasures_L4 (fun h6 z5 r h2 H => ?_) _ _ _ _ _ _ H
  refine R_iload_n dX7_dropMeasures_34 rfl rfl ?_
  obtain ⟨rfl, rfl⟩ := so2 H
  exact R_retI dX7_dropMeasures_35 rfl (Or.inl rfl)

set_option maxRecDepth 100000 in
set_option maxHeartbeats 4000000 in
theorem tX7_valley {h : aH} {r : Int32} {h2 : aH} (H : fX7_valley h = some (r, h2)) : Ev mX7_valley [.ref 0] h (some (.int r)) h2 := by
  unfold fX7_valley at H
  refine Ev_of (sp := (0, fun _ => 0)) oX7_valley nlX7 (Nat.le_of_ble_eq_true rfl) (ls0 := [.ref 0, .null, .null]) rfl ?_
  refine R_aload_n dX7_valley_0 rfl rfl ?_
  obtain ⟨v1, e0, H⟩ := bn_some H
  obtain ⟨ev1, kv1⟩ := vl_some e0
  refine R_getW dX7_valley_1 lfX7_68 rfl rfl (v := v1) ev1 ?_
  obtain ⟨h3, e2, H⟩ := bn_some H
  refine R_cV dX7_valley_4 lvX7_80 ⟨Nat.le_of_ble_eq_true rfl, Nat.le_of_ble_eq_true rfl⟩ (r := v1) kv1 (av := []) (st := []) rfl rfl (Nat.le_of_ble_eq_true rfl) (tX6_clear kv1 e2) ?_
  refine R_aload_n dX7_valley_7 rfl rfl ?_
  refine R_getF dX7_valley_8 lfX7_10 rfl rfl (q := 1) rfl ?_
  refine R_aload_n dX7_valley_11 rfl rfl ?_
  obtain ⟨v4, e0, H⟩ := bn_some H
  obtain ⟨ev4, kv4⟩ := vl_some e0
  refine R_getW dX7_valley_12 lfX7_68 rfl rfl (v := v4) ev4 ?_
  obtain ⟨r7, h6, e5, H⟩ := bn2_some H
  refine R_cV dX7_valley_15 lvX7_83 ⟨Nat.le_of_ble_eq_true rfl, Nat.le_of_ble_eq_true rfl⟩ (r := 1) rfl (av := [.ref v4]) (st := []) rfl rfl (Nat.le_of_ble_eq_true rfl) (tX5_readInto kv4 e5) ?_
  refine R_istoreN dX7_valley_18 rfl (by decide) rfl (ls2 := [.ref 0, .int r7, .null]) rfl ?_
  refine R_aload_n dX7_valley_19 rfl rfl ?_
  refine R_aload_n dX7_valley_20 rfl rfl ?_
  refine R_getF dX7_valley_21 lfX7_10 rfl rfl (q := 1) rfl ?_
  refine R_getX dX7_valley_24 lfX7_87 rfl rfl (x := h6 1 4) rfl ?_
  refine R_putI dX7_valley_27 lfX7_71 rfl rfl ?_
  refine R_iload_n dX7_valley_30 rfl rfl ?_
  rcases it_split H with ⟨c8, H⟩ | ⟨c8, H⟩
  · refine R_if_eq_t dX7_valley_31 (tgt := 39) (by decide) c8 ?_
    refine R_aload_n dX7_valley_39 rfl rfl ?_
    obtain ⟨v9, e0, H⟩ := bn_some H
    obtain ⟨ev9, kv9⟩ := vl_some e0
    refine R_getW dX7_valley_40 lfX7_64 rfl rfl (v := v9) ev9 ?_
    refine R_astoreN dX7_valley_43 rfl (by decide) rfl (ls2 := [.ref 0, .int r7, .ref v9]) rfl ?_
    refine R_aload_n dX7_valley_44 rfl rfl ?_
    refine R_aload_n dX7_valley_45 rfl rfl ?_
    obtain ⟨v10, e0, H⟩ := bn_some H
    obtain ⟨ev10, kv10⟩ := vl_some e0
    refine R_getW dX7_valley_46 lfX7_68 rfl rfl (v := v10) ev10 ?_
    refine R_putM dX7_valley_49 lfX7_64 rfl rfl (kC_lt (by rw [kv10]; decide)) ?_
    refine R_aload_n dX7_valley_52 rfl rfl ?_
    refine R_aload_n dX7_valley_53 rfl rfl ?_
    refine R_putM dX7_valley_54 lfX7_68 rfl rfl (kC_lt (by rw [kv9]; decide)) ?_
    refine R_aload_n dX7_valley_57 rfl rfl ?_
    refine R_getW dX7_valley_58 lfX7_64 rfl rfl (v := v10) (nI_clamp (Nat.lt_trans (kC_lt (by rw [kv10]; decide)) (by decide))) ?_
    obtain ⟨h12, e11, H⟩ := bn_some H
    refine R_cV dX7_valley_61 lvX7_88 ⟨Nat.le_of_ble_eq_true rfl, Nat.le_of_ble_eq_true rfl⟩ (r := v10) kv10 (av := []) (st := []) rfl rfl (Nat.le_of_ble_eq_true rfl) (tX6_fillLooks kv10 e11) ?_
    refine R_aload_n dX7_valley_64 rfl rfl ?_
    refine R_getF dX7_valley_65 lfX7_19 rfl rfl (q := 3) rfl ?_
    refine R_aload_n dX7_valley_68 rfl rfl ?_
    obtain ⟨v13, e0, H⟩ := bn_some H
    obtain ⟨ev13, kv13⟩ := vl_some e0
    refine R_getW dX7_valley_69 lfX7_64 rfl rfl (v := v13) ev13 ?_
    obtain ⟨h15, e14, H⟩ := bn_some H
    refine R_cV dX7_valley_72 lvX7_91 ⟨Nat.le_of_ble_eq_true rfl, Nat.le_of_ble_eq_true rfl⟩ (r := 3) rfl (av := [.ref v13]) (st := []) rfl rfl (Nat.le_of_ble_eq_true rfl) (tX0_beginAs rfl kv13 e14) ?_
    refine R_aload_n dX7_valley_75 rfl rfl ?_
    refine R_getF dX7_valley_76 lfX7_23 rfl rfl (q := 8) rfl ?_
    refine R_iconst dX7_valley_79 (v := 0) (by decide) ?_
    refine R_putZ dX7_valley_80 lfX7_95 rfl rfl (by decide) ?_
    refine R_aload_n dX7_valley_83 rfl rfl ?_
    refine R_getF dX7_valley_84 lfX7_26 rfl rfl (q := 13) rfl ?_
    refine R_iconst dX7_valley_87 (v := 0) (by decide) ?_
    refine R_putZ dX7_valley_88 lfX7_95 rfl rfl (by decide) ?_
    refine R_aload_n dX7_valley_91 rfl rfl ?_
    refine R_getF dX7_valley_92 lfX7_32 rfl rfl (q := 18) rfl ?_
    obtain ⟨h17, e16, H⟩ := bn_some H
    refine R_cV dX7_valley_95 lvX7_99 ⟨Nat.le_of_ble_eq_true rfl, Nat.le_of_ble_eq_true rfl⟩ (r := 18) rfl (av := []) (st := []) rfl rfl (Nat.le_of_ble_eq_true rfl) (tX3_forget e16) ?_
    refine R_aload_n dX7_valley_98 rfl rfl ?_
    obtain ⟨r20, h19, e18, H⟩ := bn2_some H
    refine R_cV dX7_valley_99 lvX7_102 ⟨Nat.le_of_ble_eq_true rfl, Nat.le_of_ble_eq_true rfl⟩ (r := 0) rfl (av := []) (st := []) rfl rfl (Nat.le_of_ble_eq_true rfl) (tX7_dropMeasures e18) ?_
    refine R_pop dX7_valley_102 rfl ?_
    refine R_aload_n dX7_valley_103 rfl rfl ?_
    refine R_getF dX7_valley_104 lfX7_39 rfl rfl (q := 24) rfl ?_
    refine R_iconst dX7_valley_107 (v := 0) (by decide) ?_
    refine R_putI dX7_valley_108 lfX7_106 rfl rfl ?_
    refine R_aload_n dX7_valley_111 rfl rfl ?_
    obtain ⟨v21, e0, H⟩ := bn_some H
    obtain ⟨ev21, kv21⟩ := vl_some e0
    refine R_getW dX7_valley_112 lfX7_64 rfl rfl (v := v21) ev21 ?_
    refine R_getX dX7_valley_115 lfX7_109 kv21 rfl (x := (aU h19 24 3 0) v21 6) rfl ?_
    obtain ⟨rfl, rfl⟩ := so2 H
    exact R_retI dX7_valley_118 rfl (Or.inl rfl)
  · refine R_if_eq_f dX7_valley_31 (tgt := 39) (by decide) c8 ?_
    refine R_bipush dX7_valley_34 (v := (-10)) (by decide) ?_
    refine R_iload_n dX7_valley_36 rfl rfl ?_
    refine R_isub dX7_valley_37 ?_
    obtain ⟨rfl, rfl⟩ := so2 H
    exact R_retI dX7_valley_38 rfl (Or.inl rfl)

set_option maxRecDepth 100000 in
set_option maxHeartbeats 4000000 in
theorem tX7_fault {h : aH} {r : Int32} (H : fX7_fault h = some r) : Ev mX7_fault [.ref 0] h (some (.int r)) h := by
  unfold fX7_fault at H
  refine Ev_of (sp := (0, fun _ => 0)) oX7_fault nlX7 (Nat.le_of_ble_eq_true rfl) (ls0 := [.ref 0]) rfl ?_
  refine R_aload_n dX7_fault_0 rfl rfl ?_
  refine R_getX dX7_fault_1 lfX7_71 rfl rfl (x := h 0 11) rfl ?_
  obtain rfl := Option.some.inj H
  exact R_retI dX7_fault_4 rfl (Or.inl rfl)

set_option maxRecDepth 100000 in
set_option maxHeartbeats 4000000 in
theorem tX7_told {h : aH} {x1 : Int32} {r : Int32} (H : fX7_told h x1 = some r) : Ev mX7_told [.ref 0, .int x1] h (some (.int r)) h := by
  unfold fX7_told at H
  refine Ev_of (sp := (0, fun _ => 0)) oX7_told nlX7 (Nat.le_of_ble_eq_true rfl) (ls0 := [.ref 0, .int x1]) rfl ?_
  refine R_iload_n dX7_told_0 rfl rfl ?_
  rcases it_split H with ⟨c1, H⟩ | ⟨c1, H⟩
  · refine R_tableIn dX7_told_1 (by rw [c1]; decide) (by rw [c1]; decide) (off := 59) (by rw [c1]; decide) (tgt := 60) (by decide) ?_
    refine R_aload_n dX7_told_60 rfl rfl ?_
    obtain ⟨v2, e0, H⟩ := bn_some H
    obtain ⟨ev2, kv2⟩ := vl_some e0
    refine R_getW dX7_told_61 lfX7_64 rfl rfl (v := v2) ev2 ?_
    refine R_getX dX7_told_64 lfX7_112 kv2 rfl (x := h v2 0) rfl ?_
    rcases it_split H with ⟨c3, H⟩ | ⟨c3, H⟩
    · refine R_if_eq_t dX7_told_67 (tgt := 74) (by decide) c3 ?_
      refine R_iconst dX7_told_74 (v := 0) (by decide) ?_
      obtain rfl := Option.some.inj H
      exact R_retI dX7_told_75 rfl (Or.inl rfl)
    · refine R_if_eq_f dX7_told_67 (tgt := 74) (by decide) c3 ?_
      refine R_iconst dX7_told_70 (v := 1) (by decide) ?_
      refine R_goto dX7_told_71 (tgt := 75) (by decide) ?_
      obtain rfl := Option.some.inj H
      exact R_retI dX7_told_75 rfl (Or.inl rfl)
  · rcases it_split H with ⟨c4, H⟩ | ⟨c4, H⟩
    · refine R_tableIn dX7_told_1 (by rw [c4]; decide) (by rw [c4]; decide) (off := 75) (by rw [c4]; decide) (tgt := 76) (by decide) ?_
      refine R_aload_n dX7_told_76 rfl rfl ?_
      obtain ⟨v5, e0, H⟩ := bn_some H
      obtain ⟨ev5, kv5⟩ := vl_some e0
      refine R_getW dX7_told_77 lfX7_64 rfl rfl (v := v5) ev5 ?_
      refine R_getX dX7_told_80 lfX7_115 kv5 rfl (x := h v5 1) rfl ?_
      obtain rfl := Option.some.inj H
      exact R_retI dX7_told_83 rfl (Or.inl rfl)
    · rcases it_split H with ⟨c6, H⟩ | ⟨c6, H⟩
      · refine R_tableIn dX7_told_1 (by rw [c6]; decide) (by rw [c6]; decide) (off := 83) (by rw [c6]; decide) (tgt := 84) (by decide) ?_
        refine R_aload_n dX7_told_84 rfl rfl ?_
        obtain ⟨v7, e0, H⟩ := bn_some H
        obtain ⟨ev7, kv7⟩ := vl_some e0
        refine R_getW dX7_told_85 lfX7_64 rfl rfl (v := v7) ev7 ?_
        refine R_getX dX7_told_88 lfX7_118 kv7 rfl (x := h v7 2) rfl ?_
        obtain rfl := Option.some.inj H
        exact R_retI dX7_told_91 rfl (Or.inl rfl)
      · rcases it_split H with ⟨c8, H⟩ | ⟨c8, H⟩
        · refine R_tableIn dX7_told_1 (by rw [c8]; decide) (by rw [c8]; decide) (off := 91) (by rw [c8]; decide) (tgt := 92) (by decide) ?_
          refine R_aload_n dX7_told_92 rfl rfl ?_
          obtain ⟨v9, e0, H⟩ := bn_some H
          obtain ⟨ev9, kv9⟩ := vl_some e0
          refine R_getW dX7_told_93 lfX7_64 rfl rfl (v := v9) ev9 ?_
          refine R_getX dX7_told_96 lfX7_121 kv9 rfl (x := h v9 3) rfl ?_
          obtain rfl := Option.some.inj H
          exact R_retI dX7_told_99 rfl (Or.inl rfl)
        · rcases it_split H with ⟨c10, H⟩ | ⟨c10, H⟩
          · refine R_tableIn dX7_told_1 (by rw [c10]; decide) (by rw [c10]; decide) (off := 99) (by rw [c10]; decide) (tgt := 100) (by decide) ?_
            refine R_aload_n dX7_told_100 rfl rfl ?_
            obtain ⟨v11, e0, H⟩ := bn_some H
            obtain ⟨ev11, kv11⟩ := vl_some e0
            refine R_getW dX7_told_101 lfX7_64 rfl rfl (v := v11) ev11 ?_
            refine R_getX dX7_told_104 lfX7_124 kv11 rfl (x := h v11 5) rfl ?_
            obtain rfl := Option.some.inj H
            exact R_retI dX7_told_107 rfl (Or.inl rfl)
          · rcases it_split H with ⟨c12, H⟩ | ⟨c12, H⟩
            · refine R_tableIn dX7_told_1 (by rw [c12]; decide) (by rw [c12]; decide) (off := 107) (by rw [c12]; decide) (tgt := 108) (by decide) ?_
              refine R_aload_n dX7_told_108 rfl rfl ?_
              obtain ⟨v13, e0, H⟩ := bn_some H
              obtain ⟨ev13, kv13⟩ := vl_some e0
              refine R_getW dX7_told_109 lfX7_64 rfl rfl (v := v13) ev13 ?_
              refine R_getX dX7_told_112 lfX7_109 kv13 rfl (x := h v13 6) rfl ?_
              obtain rfl := Option.some.inj H
              exact R_retI dX7_told_115 rfl (Or.inl rfl)
            · rcases it_split H with ⟨c14, H⟩ | ⟨c14, H⟩
              · refine R_tableIn dX7_told_1 (by rw [c14]; decide) (by rw [c14]; decide) (off := 115) (by rw [c14]; decide) (tgt := 116) (by decide) ?_
                refine R_aload_n dX7_told_116 rfl rfl ?_
                refine R_getF dX7_told_117 lfX7_10 rfl rfl (q := 1) rfl ?_
                refine R_getX dX7_told_120 lfX7_127 rfl rfl (x := h 1 1) rfl ?_
                obtain rfl := Option.some.inj H
                exact R_retI dX7_told_123 rfl (Or.inl rfl)
              · rcases it_split H with ⟨c15, H⟩ | ⟨c15, H⟩
                · refine R_tableIn dX7_told_1 (by rw [c15]; decide) (by rw [c15]; decide) (off := 123) (by rw [c15]; decide) (tgt := 124) (by decide) ?_
                  refine R_aload_n dX7_told_124 rfl rfl ?_
                  refine R_getF dX7_told_125 lfX7_19 rfl rfl (q := 3) rfl ?_
                  refine R_getX dX7_told_128 lfX7_130 rfl rfl (x := h 3 4) rfl ?_
                  obtain rfl := Option.some.inj H
                  exact R_retI dX7_told_131 rfl (Or.inl rfl)
                · rcases it_split H with ⟨c16, H⟩ | ⟨c16, H⟩
                  · refine R_tableIn dX7_told_1 (by rw [c16]; decide) (by rw [c16]; decide) (off := 131) (by rw [c16]; decide) (tgt := 132) (by decide) ?_
                    refine R_aload_n dX7_told_132 rfl rfl ?_
                    refine R_getF dX7_told_133 lfX7_19 rfl rfl (q := 3) rfl ?_
                    obtain ⟨r18, e17, H⟩ := bn_some H
                    refine R_cV dX7_told_136 lvX7_133 ⟨Nat.le_of_ble_eq_true rfl, Nat.le_of_ble_eq_true rfl⟩ (r := 3) rfl (av := []) (st := []) rfl rfl (Nat.le_of_ble_eq_true rfl) (tX0_countAll rfl e17) ?_
                    obtain rfl := Option.some.inj H
                    exact R_retI dX7_told_139 rfl (Or.inl rfl)
                  · rcases it_split H with ⟨c19, H⟩ | ⟨c19, H⟩
                    · refine R_tableIn dX7_told_1 (by rw [c19]; decide) (by rw [c19]; decide) (off := 139) (by rw [c19]; decide) (tgt := 140) (by decide) ?_
                      refine R_aload_n dX7_told_140 rfl rfl ?_
                      refine R_getF dX7_told_141 lfX7_39 rfl rfl (q := 24) rfl ?_
                      refine R_getX dX7_told_144 lfX7_106 rfl rfl (x := h 24 3) rfl ?_
                      obtain rfl := Option.some.inj H
                      exact R_retI dX7_told_147 rfl (Or.inl rfl)
                    · rcases it_split H with ⟨c20, H⟩ | ⟨c20, H⟩
                      · refine R_tableIn dX7_told_1 (by rw [c20]; decide) (by rw [c20]; decide) (off := 147) (by rw [c20]; decide) (tgt := 148) (by decide) ?_
                        refine R_aload_n dX7_told_148 rfl rfl ?_
                        refine R_getF dX7_told_149 lfX7_32 rfl rfl (q := 18) rfl ?_
                        refine R_getX dX7_told_152 lfX7_136 rfl rfl (x := h 18 6) rfl ?_
                        obtain rfl := Option.some.inj H
                        exact R_retI dX7_told_155 rfl (Or.inl rfl)
                      · have nc1 : Int32.toInt x1 ≠ 0 := ti_ne c1
                        have nc4 : Int32.toInt x1 ≠ 1 := ti_ne c4
                        have nc6 : Int32.toInt x1 ≠ 2 := ti_ne c6
                        have nc8 : Int32.toInt x1 ≠ 3 := ti_ne c8
                        have nc10 : Int32.toInt x1 ≠ 4 := ti_ne c10
                        have nc12 : Int32.toInt x1 ≠ 5 := ti_ne c12
                        have nc14 : Int32.toInt x1 ≠ 6 := ti_ne c14
                        have nc15 : Int32.toInt x1 ≠ 7 := ti_ne c15
                        have nc16 : Int32.toInt x1 ≠ 8 := ti_ne c16
                        have nc19 : Int32.toInt x1 ≠ 9 := ti_ne c19
                        have nc20 : Int32.toInt x1 ≠ 10 := ti_ne c20
                        refine R_tableOut dX7_told_1 (x := x1) (by omega) (tgt := 156) (by decide) ?_
                        refine R_ldc dX7_told_156 lcX7_75 ?_
                        obtain rfl := Option.some.inj H
                        exact R_retI dX7_told_158 rfl (Or.inl rfl)

set_option maxRecDepth 100000 in
set_option maxHeartbeats 4000000 in
theorem tX7_weather {h : aH} {x1 : Int32} {x2 : Int32} {r : Int32} (H : fX7_weather h x1 x2 = some r) : Ev mX7_weather [.ref 0, .int x1, .int x2] h (some (.int r)) h := by
  unfold fX7_weather at H
  refine Ev_of (sp := (0, fun _ => 0)) oX7_weather nlX7 (Nat.le_of_ble_eq_true rfl) (ls0 := [.ref 0, .int x1, .int x2]) rfl ?_
  refine R_iload_n dX7_weather_0 rfl rfl ?_
  obtain ⟨r2, e1, H⟩ := bn_some H
  refine R_cS dX7_weather_1 lvX7_139 ⟨Nat.le_of_ble_eq_true rfl, Nat.le_of_ble_eq_true rfl⟩ (av := [.int x1]) (st := []) rfl rfl (Nat.le_of_ble_eq_true rfl) (tX7_isHour e1) ?_
  rcases it_split H with ⟨c3, H⟩ | ⟨c3, H⟩
  · refine R_if_eq_t dX7_weather_4 (tgt := 16) (by decide) c3 ?_
    refine R_ldc dX7_weather_16 lcX7_75 ?_
    obtain rfl := Option.some.inj H
    exact R_retI dX7_weather_18 rfl (Or.inl rfl)
  · refine R_if_eq_f dX7_weather_4 (tgt := 16) (by decide) c3 ?_
    refine R_iload_n dX7_weather_7 rfl rfl ?_
    rcases it_split H with ⟨c4, H⟩ | ⟨c4, H⟩
    · refine R_if_lt_t dX7_weather_8 (tgt := 16) (by decide) c4 ?_
      refine R_ldc dX7_weather_16 lcX7_75 ?_
      obtain rfl := Option.some.inj H
      exact R_retI dX7_weather_18 rfl (Or.inl rfl)
    · refine R_if_lt_f dX7_weather_8 (tgt := 16) (by decide) c4 ?_
      refine R_iload_n dX7_weather_11 rfl rfl ?_
      refine R_iconst dX7_weather_12 (v := 2) (by decide) ?_
      rcases it_split H with ⟨c5, H⟩ | ⟨c5, H⟩
      · refine R_icmp_le_t dX7_weather_13 (tgt := 19) (by decide) c5 ?_
        refine R_aload_n dX7_weather_19 rfl rfl ?_
        obtain ⟨v6, e0, H⟩ := bn_some H
        obtain ⟨ev6, kv6⟩ := vl_some e0
        refine R_getW dX7_weather_20 lfX7_64 rfl rfl (v := v6) ev6 ?_
        refine R_getX dX7_weather_23 lfX7_112 kv6 rfl (x := h v6 0) rfl ?_
        rcases it_split H with ⟨c7, H⟩ | ⟨c7, H⟩
        · refine R_if_ne_f dX7_weather_26 (tgt := 32) (by decide) c7 ?_
          refine R_ldc dX7_weather_29 lcX7_143 ?_
          obtain rfl := Option.some.inj H
          exact R_retI dX7_weather_31 rfl (Or.inl rfl)
        · refine R_if_ne_t dX7_weather_26 (tgt := 32) (by decide) c7 ?_
          refine R_iload_n dX7_weather_32 rfl rfl ?_
          rcases it_split H with ⟨c8, H⟩ | ⟨c8, H⟩
          · refine R_if_ne_f dX7_weather_33 (tgt := 45) (by decide) c8 ?_
            refine R_aload_n dX7_weather_36 rfl rfl ?_
            refine R_getW dX7_weather_37 lfX7_64 rfl rfl (v := v6) ev6 ?_
            refine R_iload_n dX7_weather_40 rfl rfl ?_
            obtain ⟨r10, e9, H⟩ := bn_some H
            refine R_cV dX7_weather_41 lvX7_144 ⟨Nat.le_of_ble_eq_true rfl, Nat.le_of_ble_eq_true rfl⟩ (r := v6) kv6 (av := [.int x1]) (st := []) rfl rfl (Nat.le_of_ble_eq_true rfl) (tX6_windAt kv6 e9) ?_
            obtain rfl := Option.some.inj H
            exact R_retI dX7_weather_44 rfl (Or.inl rfl)
          · refine R_if_ne_t dX7_weather_33 (tgt := 45) (by decide) c8 ?_
            refine R_iload_n dX7_weather_45 rfl rfl ?_
            refine R_iconst dX7_weather_46 (v := 1) (by decide) ?_
            rcases it_split H with ⟨c11, H⟩ | ⟨c11, H⟩
            · refine R_icmp_ne_f dX7_weather_47 (tgt := 72) (by decide) c11 ?_
              refine R_aload_n dX7_weather_50 rfl rfl ?_
              refine R_getW dX7_weather_51 lfX7_64 rfl rfl (v := v6) ev6 ?_
              refine R_iload_n dX7_weather_54 rfl rfl ?_
              refine R_aload_n dX7_weather_55 rfl rfl ?_
              refine R_getW dX7_weather_56 lfX7_64 rfl rfl (v := v6) ev6 ?_
              refine R_iload_n dX7_weather_59 rfl rfl ?_
              refine R_bipush dX7_weather_60 (v := 12) (by decide) ?_
              refine R_idiv dX7_weather_62 (by decide) ?_
              obtain ⟨r13, e12, H⟩ := bn_some H
              refine R_cV dX7_weather_63 lvX7_147 ⟨Nat.le_of_ble_eq_true rfl, Nat.le_of_ble_eq_true rfl⟩ (r := v6) kv6 (av := [.int (x1 / 12)]) (st := [.int x1, .ref v6]) rfl rfl (Nat.le_of_ble_eq_true rfl) (tX6_rainOf kv6 e12) ?_
              obtain ⟨r15, e14, H⟩ := bn_some H
              refine R_cV dX7_weather_66 lvX7_150 ⟨Nat.le_of_ble_eq_true rfl, Nat.le_of_ble_eq_true rfl⟩ (r := v6) kv6 (av := [.int x1, .int r13]) (st := []) rfl rfl (Nat.le_of_ble_eq_true rfl) (tX6_dampAt kv6 e14) ?_
              refine R_goto dX7_weather_69 (tgt := 80) (by decide) ?_
              obtain rfl := Option.some.inj H
              exact R_retI dX7_weather_80 rfl (Or.inl rfl)
            · refine R_icmp_ne_t dX7_weather_47 (tgt := 72) (by decide) c11 ?_
              refine R_aload_n dX7_weather_72 rfl rfl ?_
              refine R_getW dX7_weather_73 lfX7_64 rfl rfl (v := v6) ev6 ?_
              refine R_iload_n dX7_weather_76 rfl rfl ?_
              obtain ⟨r17, e16, H⟩ := bn_some H
              refine R_cV dX7_weather_77 lvX7_154 ⟨Nat.le_of_ble_eq_true rfl, Nat.le_of_ble_eq_true rfl⟩ (r := v6) kv6 (av := [.int x1]) (st := []) rfl rfl (Nat.le_of_ble_eq_true rfl) (tX6_lightAt kv6 e16) ?_
              obtain rfl := Option.some.inj H
              exact R_retI dX7_weather_80 rfl (Or.inl rfl)
      · refine R_icmp_le_f dX7_weather_13 (tgt := 19) (by decide) c5 ?_
        refine R_ldc dX7_weather_16 lcX7_75 ?_
        obtain rfl := Option.some.inj H
        exact R_retI dX7_weather_18 rfl (Or.inl rfl)

set_option maxRecDepth 100000 in
set_option maxHeartbeats 4000000 in
theorem tX7_hand {h : aH} {x1 : Int32} {x2 : Int32} {r : Int32} (H : fX7_hand h x1 x2 = some r) : Ev mX7_hand [.ref 0, .int x1, .int x2] h (some (.int r)) h := by
  unfold fX7_hand at H
  refine Ev_of (sp := (0, fun _ => 0)) oX7_hand nlX7 (Nat.le_of_ble_eq_true rfl) (ls0 := [.ref 0, .int x1, .int x2]) rfl ?_
  refine R_aload_n dX7_hand_0 rfl rfl ?_
  obtain ⟨v1, e0, H⟩ := bn_some H
  obtain ⟨ev1, kv1⟩ := vl_some e0
  refine R_getW dX7_hand_1 lfX7_64 rfl rfl (v := v1) ev1 ?_
  refine R_iload_n dX7_hand_4 rfl rfl ?_
  obtain ⟨r3, e2, H⟩ := bn_some H
  refine R_cV dX7_hand_5 lvX7_157 ⟨Nat.le_of_ble_eq_true rfl, Nat.le_of_ble_eq_true rfl⟩ (r := v1) kv1 (av := [.int x1]) (st := []) rfl rfl (Nat.le_of_ble_eq_true rfl) (tX6_hasHand kv1 e2) ?_
  rcases it_split H with ⟨c4, H⟩ | ⟨c4, H⟩
  · refine R_if_ne_f dX7_hand_8 (tgt := 14) (by decide) c4 ?_
    refine R_ldc dX7_hand_11 lcX7_160 ?_
    obtain rfl := Option.some.inj H
    exact R_retI dX7_hand_13 rfl (Or.inl rfl)
  · refine R_if_ne_t dX7_hand_8 (tgt := 14) (by decide) c4 ?_
    refine R_iload_n dX7_hand_14 rfl rfl ?_
    rcases it_split H with ⟨c5, H⟩ | ⟨c5, H⟩
    · refine R_tableIn dX7_hand_15 (by rw [c5]; decide) (by rw [c5]; decide) (off := 25) (by rw [c5]; decide) (tgt := 40) (by decide) ?_
      refine R_aload_n dX7_hand_40 rfl rfl ?_
      refine R_getW dX7_hand_41 lfX7_64 rfl rfl (v := v1) ev1 ?_
      refine R_getF dX7_hand_44 lfX7_161 kv1 rfl (q := v1 + 2) rfl ?_
      refine R_iload_n dX7_hand_47 rfl rfl ?_
      obtain ⟨c6, H⟩ := it_some H
      refine R_ildY dX7_hand_48 (kV_2 kv1) (nV_2 kv1) (ck_in c6) (j := tn x1) rfl (x := h (v1 + 2) (tn x1)) rfl ?_
      obtain rfl := Option.some.inj H
      exact R_retI dX7_hand_49 rfl (Or.inl rfl)
    · rcases it_split H with ⟨c7, H⟩ | ⟨c7, H⟩
      · refine R_tableIn dX7_hand_15 (by rw [c7]; decide) (by rw [c7]; decide) (off := 35) (by rw [c7]; decide) (tgt := 50) (by decide) ?_
        refine R_aload_n dX7_hand_50 rfl rfl ?_
        refine R_getW dX7_hand_51 lfX7_64 rfl rfl (v := v1) ev1 ?_
        refine R_getF dX7_hand_54 lfX7_164 kv1 rfl (q := v1 + 3) rfl ?_
        refine R_iload_n dX7_hand_57 rfl rfl ?_
        obtain ⟨c8, H⟩ := it_some H
        refine R_ildY dX7_hand_58 (kV_3 kv1) (nV_3 kv1) (ck_in c8) (j := tn x1) rfl (x := h (v1 + 3) (tn x1)) rfl ?_
        obtain rfl := Option.some.inj H
        exact R_retI dX7_hand_59 rfl (Or.inl rfl)
      · rcases it_split H with ⟨c9, H⟩ | ⟨c9, H⟩
        · refine R_tableIn dX7_hand_15 (by rw [c9]; decide) (by rw [c9]; decide) (off := 45) (by rw [c9]; decide) (tgt := 60) (by decide) ?_
          refine R_aload_n dX7_hand_60 rfl rfl ?_
          refine R_getW dX7_hand_61 lfX7_64 rfl rfl (v := v1) ev1 ?_
          refine R_getF dX7_hand_64 lfX7_167 kv1 rfl (q := v1 + 4) rfl ?_
          refine R_iload_n dX7_hand_67 rfl rfl ?_
          obtain ⟨c10, H⟩ := it_some H
          refine R_ildY dX7_hand_68 (kV_4 kv1) (nV_4 kv1) (ck_in c10) (j := tn x1) rfl (x := h (v1 + 4) (tn x1)) rfl ?_
          obtain rfl := Option.some.inj H
          exact R_retI dX7_hand_69 rfl (Or.inl rfl)
        · have nc5 : Int32.toInt x2 ≠ 0 := ti_ne c5
          have nc7 : Int32.toInt x2 ≠ 1 := ti_ne c7
          have nc9 : Int32.toInt x2 ≠ 2 := ti_ne c9
          refine R_tableOut dX7_hand_15 (x := x2) (by omega) (tgt := 70) (by decide) ?_
          refine R_ldc dX7_hand_70 lcX7_75 ?_
          obtain rfl := Option.some.inj H
          exact R_retI dX7_hand_72 rfl (Or.inl rfl)

set_option maxRecDepth 100000 in
set_option maxHeartbeats 4000000 in
theorem tX7_ofAllLetters {h : aH} {x1 : Int32} {x2 : Int32} {r : Int32} (H : fX7_ofAllLetters h x1 x2 = some r) : Ev mX7_ofAllLetters [.ref 0, .int x1, .int x2] h (some (.int r)) h := by
  unfold fX7_ofAllLetters at H
  refine Ev_of (sp := (0, fun _ => 0)) oX7_ofAllLetters nlX7 (Nat.le_of_ble_eq_true rfl) (ls0 := [.ref 0, .int x1, .int x2]) rfl ?_
  refine R_iload_n dX7_ofAllLetters_0 rfl rfl ?_
  rcases it_split H with ⟨c1, H⟩ | ⟨c1, H⟩
  · refine R_if_ne_f dX7_ofAllLetters_1 (tgt := 13) (by decide) c1 ?_
    refine R_aload_n dX7_ofAllLetters_4 rfl rfl ?_
    refine R_getF dX7_ofAllLetters_5 lfX7_19 rfl rfl (q := 3) rfl ?_
    refine R_iload_n dX7_ofAllLetters_8 rfl rfl ?_
    obtain ⟨r3, e2, H⟩ := bn_some H
    refine R_cV dX7_ofAllLetters_9 lvX7_204 ⟨Nat.le_of_ble_eq_true rfl, Nat.le_of_ble_eq_true rfl⟩ (r := 3) rfl (av := [.int x1]) (st := []) rfl rfl (Nat.le_of_ble_eq_true rfl) (tX0_countOf rfl e2) ?_
    obtain rfl := Option.some.inj H
    exact R_retI dX7_ofAllLetters_12 rfl (Or.inl rfl)
  · refine R_if_ne_t dX7_ofAllLetters_1 (tgt := 13) (by decide) c1 ?_
    refine R_iload_n dX7_ofAllLetters_13 rfl rfl ?_
    refine R_iconst dX7_ofAllLetters_14 (v := 1) (by decide) ?_
    rcases it_split H with ⟨c4, H⟩ | ⟨c4, H⟩
    · refine R_icmp_ne_f dX7_ofAllLetters_15 (tgt := 29) (by decide) c4 ?_
      refine R_aload_n dX7_ofAllLetters_18 rfl rfl ?_
      refine R_getF dX7_ofAllLetters_19 lfX7_19 rfl rfl (q := 3) rfl ?_
      refine R_iload_n dX7_ofAllLetters_22 rfl rfl ?_
      obtain ⟨r6, e5, H⟩ := bn_some H
      refine R_cV dX7_ofAllLetters_23 lvX7_308 ⟨Nat.le_of_ble_eq_true rfl, Nat.le_of_ble_eq_true rfl⟩ (r := 3) rfl (av := [.int x1]) (st := []) rfl rfl (Nat.le_of_ble_eq_true rfl) (tX0_countForged rfl e5) ?_
      refine R_goto dX7_ofAllLetters_26 (tgt := 31) (by decide) ?_
      obtain rfl := Option.some.inj H
      exact R_retI dX7_ofAllLetters_31 rfl (Or.inl rfl)
    · refine R_icmp_ne_t dX7_ofAllLetters_15 (tgt := 29) (by decide) c4 ?_
      refine R_ldc dX7_ofAllLetters_29 lcX7_75 ?_
      obtain rfl := Option.some.inj H
      exact R_retI dX7_ofAllLetters_31 rfl (Or.inl rfl)

set_option maxRecDepth 100000 in
set_option maxHeartbeats 4000000 in
theorem tX7_isMeasured {h : aH} {x1 : Int32} {x2 : Int32} {r : Bool} (H : fX7_isMeasured h x1 x2 = some r) : Ev mX7_isMeasured [.ref 0, .int x1, .int x2] h (some (.int (bi r))) h := by
  unfold fX7_isMeasured at H
  refine Ev_of (sp := (0, fun _ => 0)) oX7_isMeasured nlX7 (Nat.le_of_ble_eq_true rfl) (ls0 := [.ref 0, .int x1, .int x2]) rfl ?_
  refine R_aload_n dX7_isMeasured_0 rfl rfl ?_
  refine R_getF dX7_isMeasured_1 lfX7_57 rfl rfl (q := 35) rfl ?_
  refine R_iload_n dX7_isMeasured_4 rfl rfl ?_
  obtain ⟨c1, H⟩ := it_some H
  refine R_ildY dX7_isMeasured_5 rfl rfl (ck_in c1) (j := tn x1) rfl (x := h 35 (tn x1)) rfl ?_
  refine R_iload_n dX7_isMeasured_6 rfl rfl ?_
  refine R_ishr dX7_isMeasured_7 ?_
  refine R_iconst dX7_isMeasured_8 (v := 1) (by decide) ?_
  refine R_iand dX7_isMeasured_9 ?_
  refine R_iconst dX7_isMeasured_10 (v := 1) (by decide) ?_
  rcases it_split H with ⟨c2, H⟩ | ⟨c2, H⟩
  · refine R_icmp_ne_f dX7_isMeasured_11 (tgt := 18) (by decide) c2 ?_
    refine R_iconst dX7_isMeasured_14 (v := 1) (by decide) ?_
    refine R_goto dX7_isMeasured_15 (tgt := 19) (by decide) ?_
    obtain rfl := Option.some.inj H
    exact R_retI dX7_isMeasured_19 rfl (Or.inr ⟨rfl, bi_01 _⟩)
  · refine R_icmp_ne_t dX7_isMeasured_11 (tgt := 18) (by decide) c2 ?_
    refine R_iconst dX7_isMeasured_18 (v := 0) (by decide) ?_
    obtain rfl := Option.some.inj H
    exact R_retI dX7_isMeasured_19 rfl (Or.inr ⟨rfl, bi_01 _⟩)

set_option maxRecDepth 100000 in
set_option maxHeartbeats 4000000 in
theorem tX7_letter {h : aH} {x1 : Int32} {x2 : Int32} {x3 : Int32} {r : Int32} (H : fX7_letter h x1 x2 x3 = some r) : Ev mX7_letter [.ref 0, .int x1, .int x2, .int x3] h (some (.int r)) h := by
  unfold fX7_letter at H
  refine Ev_of (sp := (0, fun _ => 0)) oX7_letter nlX7 (Nat.le_of_ble_eq_true rfl) (ls0 := [.ref 0, .int x1, .int x2, .int x3]) rfl ?_
  refine R_aload_n dX7_letter_0 rfl rfl ?_
  obtain ⟨v1, e0, H⟩ := bn_some H
  obtain ⟨ev1, kv1⟩ := vl_some e0
  refine R_getW dX7_letter_1 lfX7_64 rfl rfl (v := v1) ev1 ?_
  refine R_iload_n dX7_letter_4 rfl rfl ?_
  obtain ⟨r3, e2, H⟩ := bn_some H
  refine R_cV dX7_letter_5 lvX7_170 ⟨Nat.le_of_ble_eq_true rfl, Nat.le_of_ble_eq_true rfl⟩ (r := v1) kv1 (av := [.int x1]) (st := []) rfl rfl (Nat.le_of_ble_eq_true rfl) (tX6_hasPaper kv1 e2) ?_
  rcases it_split H with ⟨c4, H⟩ | ⟨c4, H⟩
  · refine R_if_ne_f dX7_letter_8 (tgt := 14) (by decide) c4 ?_
    refine R_ldc dX7_letter_11 lcX7_160 ?_
    obtain rfl := Option.some.inj H
    exact R_retI dX7_letter_13 rfl (Or.inl rfl)
  · refine R_if_ne_t dX7_letter_8 (tgt := 14) (by decide) c4 ?_
    refine R_iload_n dX7_letter_14 rfl rfl ?_
    refine R_iconst dX7_letter_15 (v := (-1)) (by decide) ?_
    rcases it_split H with ⟨c5, H⟩ | ⟨c5, H⟩
    · refine R_icmp_ne_f dX7_letter_16 (tgt := 26) (by decide) c5 ?_
      refine R_aload_n dX7_letter_19 rfl rfl ?_
      refine R_iload_n dX7_letter_20 rfl rfl ?_
      refine R_iload_n dX7_letter_21 rfl rfl ?_
      obtain ⟨r7, e6, H⟩ := bn_some H
      refine R_cV dX7_letter_22 lvX7_173 ⟨Nat.le_of_ble_eq_true rfl, Nat.le_of_ble_eq_true rfl⟩ (r := 0) rfl (av := [.int x1, .int x3]) (st := []) rfl rfl (Nat.le_of_ble_eq_true rfl) (tX7_ofAllLetters e6) ?_
      obtain rfl := Option.some.inj H
      exact R_retI dX7_letter_25 rfl (Or.inl rfl)
    · refine R_icmp_ne_t dX7_letter_16 (tgt := 26) (by decide) c5 ?_
      refine R_aload_n dX7_letter_26 rfl rfl ?_
      refine R_getF dX7_letter_27 lfX7_19 rfl rfl (q := 3) rfl ?_
      refine R_iload_n dX7_letter_30 rfl rfl ?_
      refine R_iload_n dX7_letter_31 rfl rfl ?_
      obtain ⟨r9, e8, H⟩ := bn_some H
      refine R_cV dX7_letter_32 lvX7_176 ⟨Nat.le_of_ble_eq_true rfl, Nat.le_of_ble_eq_true rfl⟩ (r := 3) rfl (av := [.int x1, .int x2]) (st := []) rfl rfl (Nat.le_of_ble_eq_true rfl) (tX0_hasLetter rfl e8) ?_
      rcases it_split H with ⟨c10, H⟩ | ⟨c10, H⟩
      · refine R_if_ne_f dX7_letter_35 (tgt := 41) (by decide) c10 ?_
        refine R_ldc dX7_letter_38 lcX7_160 ?_
        obtain rfl := Option.some.inj H
        exact R_retI dX7_letter_40 rfl (Or.inl rfl)
      · refine R_if_ne_t dX7_letter_35 (tgt := 41) (by decide) c10 ?_
        refine R_iload_n dX7_letter_41 rfl rfl ?_
        rcases it_split H with ⟨c11, H⟩ | ⟨c11, H⟩
        · refine R_tableIn dX7_letter_42 (by rw [c11]; decide) (by rw [c11]; decide) (off := 34) (by rw [c11]; decide) (tgt := 76) (by decide) ?_
          refine R_aload_n dX7_letter_76 rfl rfl ?_
          refine R_getF dX7_letter_77 lfX7_19 rfl rfl (q := 3) rfl ?_
          refine R_aload_n dX7_letter_80 rfl rfl ?_
          refine R_getW dX7_letter_81 lfX7_64 rfl rfl (v := v1) ev1 ?_
          refine R_iload_n dX7_letter_84 rfl rfl ?_
          refine R_iload_n dX7_letter_85 rfl rfl ?_
          obtain ⟨r13, e12, H⟩ := bn_some H
          refine R_cV dX7_letter_86 lvX7_180 ⟨Nat.le_of_ble_eq_true rfl, Nat.le_of_ble_eq_true rfl⟩ (r := 3) rfl (av := [.ref v1, .int x1, .int x2]) (st := []) rfl rfl (Nat.le_of_ble_eq_true rfl) (tX0_lookOf rfl kv1 e12) ?_
          obtain rfl := Option.some.inj H
          exact R_retI dX7_letter_89 rfl (Or.inl rfl)
        · rcases it_split H with ⟨c14, H⟩ | ⟨c14, H⟩
          · refine R_tableIn dX7_letter_42 (by rw [c14]; decide) (by rw [c14]; decide) (off := 48) (by rw [c14]; decide) (tgt := 90) (by decide) ?_
            refine R_aload_n dX7_letter_90 rfl rfl ?_
            refine R_getF dX7_letter_91 lfX7_19 rfl rfl (q := 3) rfl ?_
            refine R_iload_n dX7_letter_94 rfl rfl ?_
            refine R_iload_n dX7_letter_95 rfl rfl ?_
            obtain ⟨r16, e15, H⟩ := bn_some H
            refine R_cV dX7_letter_96 lvX7_184 ⟨Nat.le_of_ble_eq_true rfl, Nat.le_of_ble_eq_true rfl⟩ (r := 3) rfl (av := [.int x1, .int x2]) (st := []) rfl rfl (Nat.le_of_ble_eq_true rfl) (tX0_hourOf rfl e15) ?_
            obtain rfl := Option.some.inj H
            exact R_retI dX7_letter_99 rfl (Or.inl rfl)
          · rcases it_split H with ⟨c17, H⟩ | ⟨c17, H⟩
            · refine R_tableIn dX7_letter_42 (by rw [c17]; decide) (by rw [c17]; decide) (off := 58) (by rw [c17]; decide) (tgt := 100) (by decide) ?_
              refine R_aload_n dX7_letter_100 rfl rfl ?_
              refine R_getF dX7_letter_101 lfX7_19 rfl rfl (q := 3) rfl ?_
              refine R_iload_n dX7_letter_104 rfl rfl ?_
              refine R_iload_n dX7_letter_105 rfl rfl ?_
              obtain ⟨r19, e18, H⟩ := bn_some H
              refine R_cV dX7_letter_106 lvX7_187 ⟨Nat.le_of_ble_eq_true rfl, Nat.le_of_ble_eq_true rfl⟩ (r := 3) rfl (av := [.int x1, .int x2]) (st := []) rfl rfl (Nat.le_of_ble_eq_true rfl) (tX0_writerOf rfl e18) ?_
              obtain rfl := Option.some.inj H
              exact R_retI dX7_letter_109 rfl (Or.inl rfl)
            · rcases it_split H with ⟨c20, H⟩ | ⟨c20, H⟩
              · refine R_tableIn dX7_letter_42 (by rw [c20]; decide) (by rw [c20]; decide) (off := 68) (by rw [c20]; decide) (tgt := 110) (by decide) ?_
                refine R_aload_n dX7_letter_110 rfl rfl ?_
                refine R_iload_n dX7_letter_111 rfl rfl ?_
                refine R_iload_n dX7_letter_112 rfl rfl ?_
                obtain ⟨r22, e21, H⟩ := bn_some H
                refine R_cV dX7_letter_113 lvX7_190 ⟨Nat.le_of_ble_eq_true rfl, Nat.le_of_ble_eq_true rfl⟩ (r := 0) rfl (av := [.int x1, .int x2]) (st := []) rfl rfl (Nat.le_of_ble_eq_true rfl) (tX7_isMeasured e21) ?_
                rcases it_split H with ⟨c23, H⟩ | ⟨c23, H⟩
                · refine R_if_eq_t dX7_letter_116 (tgt := 123) (by decide) c23 ?_
                  refine R_iconst dX7_letter_123 (v := 0) (by decide) ?_
                  obtain rfl := Option.some.inj H
                  exact R_retI dX7_letter_124 rfl (Or.inl rfl)
                · refine R_if_eq_f dX7_letter_116 (tgt := 123) (by decide) c23 ?_
                  refine R_iconst dX7_letter_119 (v := 1) (by decide) ?_
                  refine R_goto dX7_letter_120 (tgt := 124) (by decide) ?_
                  obtain rfl := Option.some.inj H
                  exact R_retI dX7_letter_124 rfl (Or.inl rfl)
              · rcases it_split H with ⟨c24, H⟩ | ⟨c24, H⟩
                · refine R_tableIn dX7_letter_42 (by rw [c24]; decide) (by rw [c24]; decide) (off := 83) (by rw [c24]; decide) (tgt := 125) (by decide) ?_
                  refine R_aload_n dX7_letter_125 rfl rfl ?_
                  refine R_getF dX7_letter_126 lfX7_19 rfl rfl (q := 3) rfl ?_
                  refine R_iload_n dX7_letter_129 rfl rfl ?_
                  refine R_iload_n dX7_letter_130 rfl rfl ?_
                  obtain ⟨r26, e25, H⟩ := bn_some H
                  refine R_cV dX7_letter_131 lvX7_193 ⟨Nat.le_of_ble_eq_true rfl, Nat.le_of_ble_eq_true rfl⟩ (r := 3) rfl (av := [.int x1, .int x2]) (st := []) rfl rfl (Nat.le_of_ble_eq_true rfl) (tX0_isForged rfl e25) ?_
                  rcases it_split H with ⟨c27, H⟩ | ⟨c27, H⟩
                  · refine R_if_eq_t dX7_letter_134 (tgt := 141) (by decide) c27 ?_
                    refine R_iconst dX7_letter_141 (v := 0) (by decide) ?_
                    obtain rfl := Option.some.inj H
                    exact R_retI dX7_letter_142 rfl (Or.inl rfl)
                  · refine R_if_eq_f dX7_letter_134 (tgt := 141) (by decide) c27 ?_
                    refine R_iconst dX7_letter_137 (v := 1) (by decide) ?_
                    refine R_goto dX7_letter_138 (tgt := 142) (by decide) ?_
                    obtain rfl := Option.some.inj H
                    exact R_retI dX7_letter_142 rfl (Or.inl rfl)
                · have nc11 : Int32.toInt x3 ≠ 0 := ti_ne c11
                  have nc14 : Int32.toInt x3 ≠ 1 := ti_ne c14
                  have nc17 : Int32.toInt x3 ≠ 2 := ti_ne c17
                  have nc20 : Int32.toInt x3 ≠ 3 := ti_ne c20
                  have nc24 : Int32.toInt x3 ≠ 4 := ti_ne c24
                  refine R_tableOut dX7_letter_42 (x := x3) (by omega) (tgt := 143) (by decide) ?_
                  refine R_ldc dX7_letter_143 lcX7_75 ?_
                  obtain rfl := Option.some.inj H
                  exact R_retI dX7_letter_145 rfl (Or.inl rfl)

set_option maxRecDepth 100000 in
set_option maxHeartbeats 4000000 in
theorem tX7_append {h : aH} {x1 : Int32} {x2 : Int32} {x3 : Int32} {x4 : Int32} {h2 : aH} (H : fX7_append h x1 x2 x3 x4 = some h2) : Ev mX7_append [.ref 0, .int x1, .int x2, .int x3, .int x4] h none h2 := by
  unfold fX7_append at H
  refine Ev_of (sp := (0, fun _ => 0)) oX7_append nlX7 (Nat.le_of_ble_eq_true rfl) (ls0 := [.ref 0, .int x1, .int x2, .int x3, .int x4]) rfl ?_
  refine R_aload_n dX7_append_0 rfl rfl ?_
  refine R_getF dX7_append_1 lfX7_19 rfl rfl (q := 3) rfl ?_
  refine R_iload_n dX7_append_4 rfl rfl ?_
  refine R_iload_n dX7_append_5 rfl rfl ?_
  refine R_iload_n dX7_append_6 rfl rfl ?_
  refine R_iload dX7_append_7 rfl ?_
  obtain ⟨h2, e1, H⟩ := bn_some H
  refine R_cV dX7_append_9 lvX7_311 ⟨Nat.le_of_ble_eq_true rfl, Nat.le_of_ble_eq_true rfl⟩ (r := 3) rfl (av := [.int x1, .int x2, .int x3, .int x4]) (st := []) rfl rfl (Nat.le_of_ble_eq_true rfl) (tX0_put rfl e1) ?_
  refine R_aload_n dX7_append_12 rfl rfl ?_
  refine R_getF dX7_append_13 lfX7_32 rfl rfl (q := 18) rfl ?_
  refine R_iload_n dX7_append_16 rfl rfl ?_
  obtain ⟨h4, e3, H⟩ := bn_some H
  refine R_cV dX7_append_17 lvX7_314 ⟨Nat.le_of_ble_eq_true rfl, Nat.le_of_ble_eq_true rfl⟩ (r := 18) rfl (av := [.int x1]) (st := []) rfl rfl (Nat.le_of_ble_eq_true rfl) (tX3_noteAdded e3) ?_
  obtain rfl := Option.some.inj H
  exact R_ret (o := none) dX7_append_20 rfl

set_option maxRecDepth 100000 in
set_option maxHeartbeats 4000000 in
theorem tX7_add {h : aH} {x1 : Int32} {x2 : Int32} {x3 : Int32} {x4 : Int32} {r : Int32} {h2 : aH} (H : fX7_add h x1 x2 x3 x4 = some (r, h2)) : Ev mX7_add [.ref 0, .int x1, .int x2, .int x3, .int x4] h (some (.int r)) h2 := by
  unfold fX7_add at H
  refine Ev_of (sp := (0, fun _ => 0)) oX7_add nlX7 (Nat.le_of_ble_eq_true rfl) (ls0 := [.ref 0, .int x1, .int x2, .int x3, .int x4]) rfl ?_
  refine R_aload_n dX7_add_0 rfl rfl ?_
  obtain ⟨v1, e0, H⟩ := bn_some H
  obtain ⟨ev1, kv1⟩ := vl_some e0
  refine R_getW dX7_add_1 lfX7_64 rfl rfl (v := v1) ev1 ?_
  refine R_iload_n dX7_add_4 rfl rfl ?_
  obtain ⟨r3, e2, H⟩ := bn_some H
  refine R_cV dX7_add_5 lvX7_170 ⟨Nat.le_of_ble_eq_true rfl, Nat.le_of_ble_eq_true rfl⟩ (r := v1) kv1 (av := [.int x1]) (st := []) rfl rfl (Nat.le_of_ble_eq_true rfl) (tX6_hasPaper kv1 e2) ?_
  rcases it_split H with ⟨c4, H⟩ | ⟨c4, H⟩
  · refine R_if_eq_t dX7_add_8 (tgt := 22) (by decide) c4 ?_
    refine R_ldc dX7_add_22 lcX7_160 ?_
    obtain ⟨rfl, rfl⟩ := so2 H
    exact R_retI dX7_add_24 rfl (Or.inl rfl)
  · refine R_if_eq_f dX7_add_8 (tgt := 22) (by decide) c4 ?_
    refine R_aload_n dX7_add_11 rfl rfl ?_
    refine R_getW dX7_add_12 lfX7_64 rfl rfl (v := v1) ev1 ?_
    refine R_iload_n dX7_add_15 rfl rfl ?_
    obtain ⟨r6, e5, H⟩ := bn_some H
    refine R_cV dX7_add_16 lvX7_157 ⟨Nat.le_of_ble_eq_true rfl, Nat.le_of_ble_eq_true rfl⟩ (r := v1) kv1 (av := [.int x2]) (st := []) rfl rfl (Nat.le_of_ble_eq_true rfl) (tX6_hasHand kv1 e5) ?_
    rcases it_split H with ⟨c7, H⟩ | ⟨c7, H⟩
    · refine R_if_ne_f dX7_add_19 (tgt := 25) (by decide) c7 ?_
      refine R_ldc dX7_add_22 lcX7_160 ?_
      obtain ⟨rfl, rfl⟩ := so2 H
      exact R_retI dX7_add_24 rfl (Or.inl rfl)
    · refine R_if_ne_t dX7_add_19 (tgt := 25) (by decide) c7 ?_
      refine R_iload_n dX7_add_25 rfl rfl ?_
      obtain ⟨r9, e8, H⟩ := bn_some H
      refine R_cS dX7_add_26 lvX7_139 ⟨Nat.le_of_ble_eq_true rfl, Nat.le_of_ble_eq_true rfl⟩ (av := [.int x3]) (st := []) rfl rfl (Nat.le_of_ble_eq_true rfl) (tX7_isHour e8) ?_
      rcases it_split H with ⟨c10, H⟩ | ⟨c10, H⟩
      · refine R_if_ne_f dX7_add_29 (tgt := 35) (by decide) c10 ?_
        refine R_ldc dX7_add_32 lcX7_75 ?_
        obtain ⟨rfl, rfl⟩ := so2 H
        exact R_retI dX7_add_34 rfl (Or.inl rfl)
      · refine R_if_ne_t dX7_add_29 (tgt := 35) (by decide) c10 ?_
        refine R_iload dX7_add_35 rfl ?_
        rcases it_split H with ⟨c11, H⟩ | ⟨c11, H⟩
        · refine R_if_eq_t dX7_add_37 (tgt := 54) (by decide) c11 ?_
          refine R_aload_n dX7_add_54 rfl rfl ?_
          refine R_getF dX7_add_55 lfX7_19 rfl rfl (q := 3) rfl ?_
          refine R_iload_n dX7_add_58 rfl rfl ?_
          obtain ⟨r13, e12, H⟩ := bn_some H
          refine R_cV dX7_add_59 lvX7_196 ⟨Nat.le_of_ble_eq_true rfl, Nat.le_of_ble_eq_true rfl⟩ (r := 3) rfl (av := [.int x1]) (st := []) rfl rfl (Nat.le_of_ble_eq_true rfl) (tX0_isFull rfl e12) ?_
          rcases it_split H with ⟨c14, H⟩ | ⟨c14, H⟩
          · refine R_if_eq_t dX7_add_62 (tgt := 68) (by decide) c14 ?_
            refine R_aload_n dX7_add_68 rfl rfl ?_
            refine R_iload_n dX7_add_69 rfl rfl ?_
            refine R_iload_n dX7_add_70 rfl rfl ?_
            refine R_iload_n dX7_add_71 rfl rfl ?_
            refine R_iload dX7_add_72 rfl ?_
            refine R_if_eq_t dX7_add_74 (tgt := 87) (by decide) c11 ?_
            refine R_iconst dX7_add_87 (v := (-1)) (by decide) ?_
            obtain ⟨h16, e15, H⟩ := bn_some H
            refine R_cV dX7_add_88 lvX7_200 ⟨Nat.le_of_ble_eq_true rfl, Nat.le_of_ble_eq_true rfl⟩ (r := 0) rfl (av := [.int x1, .int x2, .int x3, .int (-1)]) (st := []) rfl rfl (Nat.le_of_ble_eq_true rfl) (tX7_append e15) ?_
            refine R_aload_n dX7_add_91 rfl rfl ?_
            refine R_getF dX7_add_92 lfX7_19 rfl rfl (q := 3) rfl ?_
            refine R_iload_n dX7_add_95 rfl rfl ?_
            obtain ⟨r18, e17, H⟩ := bn_some H
            refine R_cV dX7_add_96 lvX7_204 ⟨Nat.le_of_ble_eq_true rfl, Nat.le_of_ble_eq_true rfl⟩ (r := 3) rfl (av := [.int x1]) (st := []) rfl rfl (Nat.le_of_ble_eq_true rfl) (tX0_countOf rfl e17) ?_
            obtain ⟨rfl, rfl⟩ := so2 H
            exact R_retI dX7_add_99 rfl (Or.inl rfl)
          · refine R_if_eq_f dX7_add_62 (tgt := 68) (by decide) c14 ?_
            refine R_ldc dX7_add_65 lcX7_199 ?_
            obtain ⟨rfl, rfl⟩ := so2 H
            exact R_retI dX7_add_67 rfl (Or.inl rfl)
        · refine R_if_eq_f dX7_add_37 (tgt := 54) (by decide) c11 ?_
          refine R_aload_n dX7_add_40 rfl rfl ?_
          refine R_getF dX7_add_41 lfX7_19 rfl rfl (q := 3) rfl ?_
          refine R_getX dX7_add_44 lfX7_130 rfl rfl (x := h 3 4) rfl ?_
          refine R_iconst dX7_add_47 (v := (-1)) (by decide) ?_
          rcases it_split H with ⟨c19, H⟩ | ⟨c19, H⟩
          · refine R_icmp_ne_f dX7_add_48 (tgt := 54) (by decide) c19 ?_
            refine R_ldc dX7_add_51 lcX7_143 ?_
            obtain ⟨rfl, rfl⟩ := so2 H
            exact R_retI dX7_add_53 rfl (Or.inl rfl)
          · refine R_icmp_ne_t dX7_add_48 (tgt := 54) (by decide) c19 ?_
            refine R_aload_n dX7_add_54 rfl rfl ?_
            refine R_getF dX7_add_55 lfX7_19 rfl rfl (q := 3) rfl ?_
            refine R_iload_n dX7_add_58 rfl rfl ?_
            obtain ⟨r21, e20, H⟩ := bn_some H
            refine R_cV dX7_add_59 lvX7_196 ⟨Nat.le_of_ble_eq_true rfl, Nat.le_of_ble_eq_true rfl⟩ (r := 3) rfl (av := [.int x1]) (st := []) rfl rfl (Nat.le_of_ble_eq_true rfl) (tX0_isFull rfl e20) ?_
            rcases it_split H with ⟨c22, H⟩ | ⟨c22, H⟩
            · refine R_if_eq_t dX7_add_62 (tgt := 68) (by decide) c22 ?_
              refine R_aload_n dX7_add_68 rfl rfl ?_
              refine R_iload_n dX7_add_69 rfl rfl ?_
              refine R_iload_n dX7_add_70 rfl rfl ?_
              refine R_iload_n dX7_add_71 rfl rfl ?_
              refine R_iload dX7_add_72 rfl ?_
              refine R_if_eq_f dX7_add_74 (tgt := 87) (by decide) c11 ?_
              refine R_aload_n dX7_add_77 rfl rfl ?_
              refine R_getF dX7_add_78 lfX7_19 rfl rfl (q := 3) rfl ?_
              refine R_getX dX7_add_81 lfX7_130 rfl rfl (x := h 3 4) rfl ?_
              refine R_goto dX7_add_84 (tgt := 88) (by decide) ?_
              obtain ⟨h24, e23, H⟩ := bn_some H
              refine R_cV dX7_add_88 lvX7_200 ⟨Nat.le_of_ble_eq_true rfl, Nat.le_of_ble_eq_true rfl⟩ (r := 0) rfl (av := [.int x1, .int x2, .int x3, .int (h 3 4)]) (st := []) rfl rfl (Nat.le_of_ble_eq_true rfl) (tX7_append e23) ?_
              refine R_aload_n dX7_add_91 rfl rfl ?_
              refine R_getF dX7_add_92 lfX7_19 rfl rfl (q := 3) rfl ?_
              refine R_iload_n dX7_add_95 rfl rfl ?_
              obtain ⟨r26, e25, H⟩ := bn_some H
              refine R_cV dX7_add_96 lvX7_204 ⟨Nat.le_of_ble_eq_true rfl, Nat.le_of_ble_eq_true rfl⟩ (r := 3) rfl (av := [.int x1]) (st := []) rfl rfl (Nat.le_of_ble_eq_true rfl) (tX0_countOf rfl e25) ?_
              obtain ⟨rfl, rfl⟩ := so2 H
              exact R_retI dX7_add_99 rfl (Or.inl rfl)
            · refine R_if_eq_f dX7_add_62 (tgt := 68) (by decide) c22 ?_
              refine R_ldc dX7_add_65 lcX7_199 ?_
              obtain ⟨rfl, rfl⟩ := so2 H
              exact R_retI dX7_add_67 rfl (Or.inl rfl)

set_option maxRecDepth 100000 in
set_option maxHeartbeats 4000000 in
theorem tX7_blot {h : aH} {x1 : Int32} {r : Int32} {h2 : aH} (H : fX7_blot h x1 = some (r, h2)) : Ev mX7_blot [.ref 0, .int x1] h (some (.int r)) h2 := by
  unfold fX7_blot at H
  refine Ev_of (sp := (0, fun _ => 0)) oX7_blot nlX7 (Nat.le_of_ble_eq_true rfl) (ls0 := [.ref 0, .int x1, .null, .null]) rfl ?_
  refine R_aload_n dX7_blot_0 rfl rfl ?_
  obtain ⟨v1, e0, H⟩ := bn_some H
  obtain ⟨ev1, kv1⟩ := vl_some e0
  refine R_getW dX7_blot_1 lfX7_64 rfl rfl (v := v1) ev1 ?_
  refine R_iload_n dX7_blot_4 rfl rfl ?_
  obtain ⟨r3, e2, H⟩ := bn_some H
  refine R_cV dX7_blot_5 lvX7_170 ⟨Nat.le_of_ble_eq_true rfl, Nat.le_of_ble_eq_true rfl⟩ (r := v1) kv1 (av := [.int x1]) (st := []) rfl rfl (Nat.le_of_ble_eq_true rfl) (tX6_hasPaper kv1 e2) ?_
  rcases it_split H with ⟨c4, H⟩ | ⟨c4, H⟩
  · refine R_if_ne_f dX7_blot_8 (tgt := 14) (by decide) c4 ?_
    refine R_ldc dX7_blot_11 lcX7_160 ?_
    obtain ⟨rfl, rfl⟩ := so2 H
    exact R_retI dX7_blot_13 rfl (Or.inl rfl)
  · refine R_if_ne_t dX7_blot_8 (tgt := 14) (by decide) c4 ?_
    refine R_aload_n dX7_blot_14 rfl rfl ?_
    refine R_getF dX7_blot_15 lfX7_19 rfl rfl (q := 3) rfl ?_
    refine R_iload_n dX7_blot_18 rfl rfl ?_
    obtain ⟨r6, e5, H⟩ := bn_some H
    refine R_cV dX7_blot_19 lvX7_204 ⟨Nat.le_of_ble_eq_true rfl, Nat.le_of_ble_eq_true rfl⟩ (r := 3) rfl (av := [.int x1]) (st := []) rfl rfl (Nat.le_of_ble_eq_true rfl) (tX0_countOf rfl e5) ?_
    refine R_iconst dX7_blot_22 (v := 1) (by decide) ?_
    refine R_isub dX7_blot_23 ?_
    refine R_istoreN dX7_blot_24 rfl (by decide) rfl (ls2 := [.ref 0, .int x1, .int (r6 - 1), .null]) rfl ?_
    refine R_iload_n dX7_blot_25 rfl rfl ?_
    rcases it_split H with ⟨c7, H⟩ | ⟨c7, H⟩
    · refine R_if_ge_t dX7_blot_26 (tgt := 32) (by decide) c7 ?_
      refine R_aload_n dX7_blot_32 rfl rfl ?_
      refine R_getF dX7_blot_33 lfX7_19 rfl rfl (q := 3) rfl ?_
      refine R_aload_n dX7_blot_36 rfl rfl ?_
      refine R_getW dX7_blot_37 lfX7_64 rfl rfl (v := v1) ev1 ?_
      refine R_iload_n dX7_blot_40 rfl rfl ?_
      refine R_iload_n dX7_blot_41 rfl rfl ?_
      obtain ⟨r9, e8, H⟩ := bn_some H
      refine R_cV dX7_blot_42 lvX7_180 ⟨Nat.le_of_ble_eq_true rfl, Nat.le_of_ble_eq_true rfl⟩ (r := 3) rfl (av := [.ref v1, .int x1, .int (r6 - 1)]) (st := []) rfl rfl (Nat.le_of_ble_eq_true rfl) (tX0_lookOf rfl kv1 e8) ?_
      refine R_istoreN dX7_blot_45 rfl (by decide) rfl (ls2 := [.ref 0, .int x1, .int (r6 - 1), .int r9]) rfl ?_
      refine R_aload_n dX7_blot_46 rfl rfl ?_
      refine R_getF dX7_blot_47 lfX7_32 rfl rfl (q := 18) rfl ?_
      refine R_iload_n dX7_blot_50 rfl rfl ?_
      refine R_aload_n dX7_blot_51 rfl rfl ?_
      refine R_getF dX7_blot_52 lfX7_19 rfl rfl (q := 3) rfl ?_
      refine R_iload_n dX7_blot_55 rfl rfl ?_
      refine R_iload_n dX7_blot_56 rfl rfl ?_
      obtain ⟨r11, e10, H⟩ := bn_some H
      refine R_cV dX7_blot_57 lvX7_187 ⟨Nat.le_of_ble_eq_true rfl, Nat.le_of_ble_eq_true rfl⟩ (r := 3) rfl (av := [.int x1, .int (r6 - 1)]) (st := [.int x1, .ref 18]) rfl rfl (Nat.le_of_ble_eq_true rfl) (tX0_writerOf rfl e10) ?_
      refine R_aload_n dX7_blot_60 rfl rfl ?_
      refine R_getF dX7_blot_61 lfX7_19 rfl rfl (q := 3) rfl ?_
      refine R_iload_n dX7_blot_64 rfl rfl ?_
      refine R_iload_n dX7_blot_65 rfl rfl ?_
      obtain ⟨r13, e12, H⟩ := bn_some H
      refine R_cV dX7_blot_66 lvX7_184 ⟨Nat.le_of_ble_eq_true rfl, Nat.le_of_ble_eq_true rfl⟩ (r := 3) rfl (av := [.int x1, .int (r6 - 1)]) (st := [.int r11, .int x1, .ref 18]) rfl rfl (Nat.le_of_ble_eq_true rfl) (tX0_hourOf rfl e12) ?_
      refine R_aload_n dX7_blot_69 rfl rfl ?_
      refine R_getF dX7_blot_70 lfX7_19 rfl rfl (q := 3) rfl ?_
      refine R_iload_n dX7_blot_73 rfl rfl ?_
      refine R_iload_n dX7_blot_74 rfl rfl ?_
      obtain ⟨r15, e14, H⟩ := bn_some H
      refine R_cV dX7_blot_75 lvX7_207 ⟨Nat.le_of_ble_eq_true rfl, Nat.le_of_ble_eq_true rfl⟩ (r := 3) rfl (av := [.int x1, .int (r6 - 1)]) (st := [.int r13, .int r11, .int x1, .ref 18]) rfl rfl (Nat.le_of_ble_eq_true rfl) (tX0_airOf rfl e14) ?_
      obtain ⟨h17, e16, H⟩ := bn_some H
      refine R_cV dX7_blot_78 lvX7_210 ⟨Nat.le_of_ble_eq_true rfl, Nat.le_of_ble_eq_true rfl⟩ (r := 18) rfl (av := [.int x1, .int r11, .int r13, .int r15]) (st := []) rfl rfl (Nat.le_of_ble_eq_true rfl) (tX3_noteBlotted e16) ?_
      refine R_aload_n dX7_blot_81 rfl rfl ?_
      refine R_getF dX7_blot_82 lfX7_19 rfl rfl (q := 3) rfl ?_
      refine R_iload_n dX7_blot_85 rfl rfl ?_
      obtain ⟨h19, e18, H⟩ := bn_some H
      refine R_cV dX7_blot_86 lvX7_213 ⟨Nat.le_of_ble_eq_true rfl, Nat.le_of_ble_eq_true rfl⟩ (r := 3) rfl (av := [.int x1]) (st := []) rfl rfl (Nat.le_of_ble_eq_true rfl) (tX0_dropLast rfl e18) ?_
      refine R_iload_n dX7_blot_89 rfl rfl ?_
      obtain ⟨rfl, rfl⟩ := so2 H
      exact R_retI dX7_blot_90 rfl (Or.inl rfl)
    · refine R_if_ge_f dX7_blot_26 (tgt := 32) (by decide) c7 ?_
      refine R_ldc dX7_blot_29 lcX7_143 ?_
      obtain ⟨rfl, rfl⟩ := so2 H
      exact R_retI dX7_blot_31 rfl (Or.inl rfl)

set_option maxRecDepth 100000 in
set_option maxHeartbeats 4000000 in
theorem tX7_bottle {h : aH} {x1 : Int32} {r : Int32} {h2 : aH} (H : fX7_bottle h x1 = some (r, h2)) : Ev mX7_bottle [.ref 0, .int x1] h (some (.int r)) h2 := by
  unfold fX7_bottle at H
  refine Ev_of (sp := (0, fun _ => 0)) oX7_bottle nlX7 (Nat.le_of_ble_eq_true rfl) (ls0 := [.ref 0, .int x1, .null]) rfl ?_
  refine R_iload_n dX7_bottle_0 rfl rfl ?_
  refine R_iconst dX7_bottle_1 (v := (-1)) (by decide) ?_
  rcases it_split H with ⟨c1, H⟩ | ⟨c1, H⟩
  · refine R_icmp_eq_t dX7_bottle_2 (tgt := 15) (by decide) c1 ?_
    refine R_aload_n dX7_bottle_15 rfl rfl ?_
    obtain ⟨v2, e0, H⟩ := bn_some H
    obtain ⟨ev2, kv2⟩ := vl_some e0
    refine R_getW dX7_bottle_16 lfX7_64 rfl rfl (v := v2) ev2 ?_
    refine R_getX dX7_bottle_19 lfX7_112 kv2 rfl (x := h v2 0) rfl ?_
    rcases it_split H with ⟨c3, H⟩ | ⟨c3, H⟩
    · refine R_if_ne_f dX7_bottle_22 (tgt := 28) (by decide) c3 ?_
      refine R_ldc dX7_bottle_25 lcX7_143 ?_
      obtain ⟨rfl, rfl⟩ := so2 H
      exact R_retI dX7_bottle_27 rfl (Or.inl rfl)
    · refine R_if_ne_t dX7_bottle_22 (tgt := 28) (by decide) c3 ?_
      refine R_aload_n dX7_bottle_28 rfl rfl ?_
      refine R_getF dX7_bottle_29 lfX7_19 rfl rfl (q := 3) rfl ?_
      refine R_getX dX7_bottle_32 lfX7_130 rfl rfl (x := h 3 4) rfl ?_
      refine R_istoreN dX7_bottle_35 rfl (by decide) rfl (ls2 := [.ref 0, .int x1, .int (h 3 4)]) rfl ?_
      refine R_aload_n dX7_bottle_36 rfl rfl ?_
      refine R_getF dX7_bottle_37 lfX7_32 rfl rfl (q := 18) rfl ?_
      refine R_iload_n dX7_bottle_40 rfl rfl ?_
      obtain ⟨h5, e4, H⟩ := bn_some H
      refine R_cV dX7_bottle_41 lvX7_217 ⟨Nat.le_of_ble_eq_true rfl, Nat.le_of_ble_eq_true rfl⟩ (r := 18) rfl (av := [.int (h 3 4)]) (st := []) rfl rfl (Nat.le_of_ble_eq_true rfl) (tX3_noteBottled e4) ?_
      refine R_aload_n dX7_bottle_44 rfl rfl ?_
      refine R_getF dX7_bottle_45 lfX7_19 rfl rfl (q := 3) rfl ?_
      refine R_iload_n dX7_bottle_48 rfl rfl ?_
      refine R_putI dX7_bottle_49 lfX7_130 rfl rfl ?_
      refine R_iload_n dX7_bottle_52 rfl rfl ?_
      obtain ⟨rfl, rfl⟩ := so2 H
      exact R_retI dX7_bottle_53 rfl (Or.inl rfl)
  · refine R_icmp_eq_f dX7_bottle_2 (tgt := 15) (by decide) c1 ?_
    refine R_iload_n dX7_bottle_5 rfl rfl ?_
    obtain ⟨r7, e6, H⟩ := bn_some H
    refine R_cS dX7_bottle_6 lvX7_139 ⟨Nat.le_of_ble_eq_true rfl, Nat.le_of_ble_eq_true rfl⟩ (av := [.int x1]) (st := []) rfl rfl (Nat.le_of_ble_eq_true rfl) (tX7_isHour e6) ?_
    rcases it_split H with ⟨c8, H⟩ | ⟨c8, H⟩
    · refine R_if_ne_f dX7_bottle_9 (tgt := 15) (by decide) c8 ?_
      refine R_ldc dX7_bottle_12 lcX7_75 ?_
      obtain ⟨rfl, rfl⟩ := so2 H
      exact R_retI dX7_bottle_14 rfl (Or.inl rfl)
    · refine R_if_ne_t dX7_bottle_9 (tgt := 15) (by decide) c8 ?_
      refine R_aload_n dX7_bottle_15 rfl rfl ?_
      obtain ⟨v9, e0, H⟩ := bn_some H
      obtain ⟨ev9, kv9⟩ := vl_some e0
      refine R_getW dX7_bottle_16 lfX7_64 rfl rfl (v := v9) ev9 ?_
      refine R_getX dX7_bottle_19 lfX7_112 kv9 rfl (x := h v9 0) rfl ?_
      rcases it_split H with ⟨c10, H⟩ | ⟨c10, H⟩
      · refine R_if_ne_f dX7_bottle_22 (tgt := 28) (by decide) c10 ?_
        refine R_ldc dX7_bottle_25 lcX7_143 ?_
        obtain ⟨rfl, rfl⟩ := so2 H
        exact R_retI dX7_bottle_27 rfl (Or.inl rfl)
      · refine R_if_ne_t dX7_bottle_22 (tgt := 28) (by decide) c10 ?_
        refine R_aload_n dX7_bottle_28 rfl rfl ?_
        refine R_getF dX7_bottle_29 lfX7_19 rfl rfl (q := 3) rfl ?_
        refine R_getX dX7_bottle_32 lfX7_130 rfl rfl (x := h 3 4) rfl ?_
        refine R_istoreN dX7_bottle_35 rfl (by decide) rfl (ls2 := [.ref 0, .int x1, .int (h 3 4)]) rfl ?_
        refine R_aload_n dX7_bottle_36 rfl rfl ?_
        refine R_getF dX7_bottle_37 lfX7_32 rfl rfl (q := 18) rfl ?_
        refine R_iload_n dX7_bottle_40 rfl rfl ?_
        obtain ⟨h12, e11, H⟩ := bn_some H
        refine R_cV dX7_bottle_41 lvX7_217 ⟨Nat.le_of_ble_eq_true rfl, Nat.le_of_ble_eq_true rfl⟩ (r := 18) rfl (av := [.int (h 3 4)]) (st := []) rfl rfl (Nat.le_of_ble_eq_true rfl) (tX3_noteBottled e11) ?_
        refine R_aload_n dX7_bottle_44 rfl rfl ?_
        refine R_getF dX7_bottle_45 lfX7_19 rfl rfl (q := 3) rfl ?_
        refine R_iload_n dX7_bottle_48 rfl rfl ?_
        refine R_putI dX7_bottle_49 lfX7_130 rfl rfl ?_
        refine R_iload_n dX7_bottle_52 rfl rfl ?_
        obtain ⟨rfl, rfl⟩ := so2 H
        exact R_retI dX7_bottle_53 rfl (Or.inl rfl)

set_option maxRecDepth 100000 in
set_option maxHeartbeats 4000000 in
theorem tX7_drift_L41 {sp : Nat × (Nat → Int32)} {K : aH → Option (Int32 × aH)} {x1 : Int32} (hK : ∀ (hk : aH) (r : Int32) (h2 : aH), K hk = some (r, h2) → Rn sp mX7_drift 115 [.ref 0, .null, .null, .null, .null, .null] [] hk (some (.int r)) h2) : ∀ (n : Nat) (h : aH) (x2 : Int32) (r : Int32) (h2 : aH), fX7_drift_L41 K x1 n h x2 = some (r, h2) → Rn sp mX7_drift 41 [.ref 0, .int x1, .int x2, .null, .null, .null] [] h (some (.int r)) h2 := by
  intro n
  induction n with
  | zero =>
    intro h x2 r h2 H
    rw [fX7_drift_L41] at H
    cases H
  | succ n ih =>
    intro h x2 r h2 H
    rw [fX7_drift_L41] at H
    refine R_iload_n dX7_drift_41 rfl rfl ?_
    refine R_iload_n dX7_drift_42 rfl rfl ?_
    rcases it_split H with ⟨c6, H⟩ | ⟨c6, H⟩
    · refine R_icmp_ge_t dX7_drift_43 (tgt := 115) (by decide) c6 ?_
      refine R_null (i := 1) (ls2 := [.ref 0, .null, .int x2, .null, .null, .null]) rfl ?_
      refine R_null (i := 2) (ls2 := [.ref 0, .null, .null, .null, .null, .null]) rfl ?_
      exact hK _ _ _ H
    · refine R_icmp_ge_f dX7_drift_43 (tgt := 115) (by decide) c6 ?_
      refine R_aload_n dX7_drift_46 rfl rfl ?_
      refine R_getF dX7_drift_47 lfX7_19 rfl rfl (q := 3) rfl ?_
      refine R_aload_n dX7_drift_50 rfl rfl ?_
      obtain ⟨v7, e0, H⟩ := bn_some H
      obtain ⟨ev7, kv7⟩ := vl_some e0
      refine R_getW dX7_drift_51 lfX7_64 rfl rfl (v := v7) ev7 ?_
      refine R_getX dX7_drift_54 lfX7_109 kv7 rfl (x := h v7 6) rfl ?_
      obtain ⟨r10, h9, e8, H⟩ := bn2_some H
      refine R_cV dX7_drift_57 lvX7_220 ⟨Nat.le_of_ble_eq_true rfl, Nat.le_of_ble_eq_true rfl⟩ (r := 3) rfl (av := [.int (h v7 6)]) (st := []) rfl rfl (Nat.le_of_ble_eq_true rfl) (tX0_draw rfl e8) ?_
      refine R_istoreN dX7_drift_60 rfl (by decide) rfl (ls2 := [.ref 0, .int x1, .int x2, .int r10, .null, .null]) rfl ?_
      refine R_aload_n dX7_drift_61 rfl rfl ?_
      refine R_getF dX7_drift_62 lfX7_19 rfl rfl (q := 3) rfl ?_
      refine R_aload_n dX7_drift_65 rfl rfl ?_
      obtain ⟨v11, e0, H⟩ := bn_some H
      obtain ⟨ev11, kv11⟩ := vl_some e0
      refine R_getW dX7_drift_66 lfX7_64 rfl rfl (v := v11) ev11 ?_
      refine R_getX dX7_drift_69 lfX7_124 kv11 rfl (x := h9 v11 5) rfl ?_
      obtain ⟨r14, h13, e12, H⟩ := bn2_some H
      refine R_cV dX7_drift_72 lvX7_220 ⟨Nat.le_of_ble_eq_true rfl, Nat.le_of_ble_eq_true rfl⟩ (r := 3) rfl (av := [.int (h9 v11 5)]) (st := []) rfl rfl (Nat.le_of_ble_eq_true rfl) (tX0_draw rfl e12) ?_
      refine R_istoreW dX7_drift_75 (by decide) rfl (ls2 := [.ref 0, .int x1, .int x2, .int r10, .int r14, .null]) rfl ?_
      refine R_aload_n dX7_drift_77 rfl rfl ?_
      refine R_getF dX7_drift_78 lfX7_19 rfl rfl (q := 3) rfl ?_
      refine R_bipush dX7_drift_81 (v := 96) (by decide) ?_
      obtain ⟨r17, h16, e15, H⟩ := bn2_some H
      refine R_cV dX7_drift_83 lvX7_220 ⟨Nat.le_of_ble_eq_true rfl, Nat.le_of_ble_eq_true rfl⟩ (r := 3) rfl (av := [.int 96]) (st := []) rfl rfl (Nat.le_of_ble_eq_true rfl) (tX0_draw rfl e15) ?_
      refine R_istoreW dX7_drift_86 (by decide) rfl (ls2 := [.ref 0, .int x1, .int x2, .int r10, .int r14, .int r17]) rfl ?_
      refine R_aload_n dX7_drift_88 rfl rfl ?_
      refine R_getF dX7_drift_89 lfX7_19 rfl rfl (q := 3) rfl ?_
      refine R_iload_n dX7_drift_92 rfl rfl ?_
      obtain ⟨r19, e18, H⟩ := bn_some H
      refine R_cV dX7_drift_93 lvX7_196 ⟨Nat.le_of_ble_eq_true rfl, Nat.le_of_ble_eq_true rfl⟩ (r := 3) rfl (av := [.int r10]) (st := []) rfl rfl (Nat.le_of_ble_eq_true rfl) (tX0_isFull rfl e18) ?_
      rcases it_split H with ⟨c20, H⟩ | ⟨c20, H⟩
      · refine R_if_ne_f dX7_drift_96 (tgt := 109) (by decide) c20 ?_
        refine R_aload_n dX7_drift_99 rfl rfl ?_
        refine R_iload_n dX7_drift_100 rfl rfl ?_
        refine R_iload dX7_drift_101 rfl ?_
        refine R_iload dX7_drift_103 rfl ?_
        refine R_iconst dX7_drift_105 (v := (-1)) (by decide) ?_
        obtain ⟨h22, e21, H⟩ := bn_some H
        refine R_cV dX7_drift_106 lvX7_200 ⟨Nat.le_of_ble_eq_true rfl, Nat.le_of_ble_eq_true rfl⟩ (r := 0) rfl (av := [.int r10, .int r14, .int r17, .int (-1)]) (st := []) rfl rfl (Nat.le_of_ble_eq_true rfl) (tX7_append e21) ?_
        refine R_iincW dX7_drift_109 rfl (v := x2 + 1) rfl (by decide) rfl (ls2 := [.ref 0, .int x1, .int (x2 + 1), .int r10, .int r14, .int r17]) rfl ?_
        refine R_goto dX7_drift_112 (tgt := 41) (by decide) ?_
        refine R_null (i := 3) (ls2 := [.ref 0, .int x1, .int (x2 + 1), .null, .int r14, .int r17]) rfl ?_
        refine R_null (i := 4) (ls2 := [.ref 0, .int x1, .int (x2 + 1), .null, .null, .int r17]) rfl ?_
        refine R_null (i := 5) (ls2 := [.ref 0, .int x1, .int (x2 + 1), .null, .null, .null]) rfl ?_
        exact ih _ _ _ _ H
      · refine R_if_ne_t dX7_drift_96 (tgt := 109) (by decide) c20 ?_
        refine R_iincW dX7_drift_109 rfl (v := x2 + 1) rfl (by decide) rfl (ls2 := [.ref 0, .int x1, .int (x2 + 1), .int r10, .int r14, .int r17]) rfl ?_
        refine R_goto dX7_drift_112 (tgt := 41) (by decide) ?_
        refine R_null (i := 3) (ls2 := [.ref 0, .int x1, .int (x2 + 1), .null, .int r14, .int r17]) rfl ?_
        refine R_null (i := 4) (ls2 := [.ref 0, .int x1, .int (x2 + 1), .null, .null, .int r17]) rfl ?_
        refine R_null (i := 5) (ls2 := [.ref 0, .int x1, .int (x2 + 1), .null, .null, .null]) rfl ?_
        exact ih _ _ _ _ H

set_option maxRecDepth 100000 in
set_option maxHeartbeats 4000000 in
theorem tX7_drift {h : aH} {x1 : Int32} {r : Int32} {h2 : aH} (H : fX7_drift h x1 = some (r, h2)) : Ev mX7_drift [.ref 0, .int x1] h (some (.int r)) h2 := by
  unfold fX7_drift at H
  refine Ev_of (sp := (0, fun _ => 0)) oX7_drift nlX7 (Nat.le_of_ble_eq_true rfl) (ls0 := [.ref 0, .int x1, .null, .null, .null, .null]) rfl ?_
  refine R_iload_n dX7_drift_0 rfl rfl ?_
  refine R_iconst dX7_drift_1 (v := 1) (by decide) ?_
  rcases it_split H with ⟨c1, H⟩ | ⟨c1, H⟩
  · refine R_icmp_lt_t dX7_drift_2 (tgt := 11) (by decide) c1 ?_
    refine R_ldc dX7_drift_11 lcX7_75 ?_
    obtain ⟨rfl, rfl⟩ := so2 H
    exact R_retI dX7_drift_13 rfl (Or.inl rfl)
  · refine R_icmp_lt_f dX7_drift_2 (tgt := 11) (by decide) c1 ?_
    refine R_iload_n dX7_drift_5 rfl rfl ?_
    refine R_bipush dX7_drift_6 (v := 30) (by decide) ?_
    rcases it_split H with ⟨c2, H⟩ | ⟨c2, H⟩
    · refine R_icmp_le_t dX7_drift_8 (tgt := 14) (by decide) c2 ?_
      refine R_aload_n dX7_drift_14 rfl rfl ?_
      obtain ⟨v3, e0, H⟩ := bn_some H
      obtain ⟨ev3, kv3⟩ := vl_some e0
      refine R_getW dX7_drift_15 lfX7_64 rfl rfl (v := v3) ev3 ?_
      refine R_getX dX7_drift_18 lfX7_124 kv3 rfl (x := h v3 5) rfl ?_
      refine R_iconst dX7_drift_21 (v := 1) (by decide) ?_
      rcases it_split H with ⟨c4, H⟩ | ⟨c4, H⟩
      · refine R_icmp_lt_t dX7_drift_22 (tgt := 36) (by decide) c4 ?_
        refine R_ldc dX7_drift_36 lcX7_143 ?_
        obtain ⟨rfl, rfl⟩ := so2 H
        exact R_retI dX7_drift_38 rfl (Or.inl rfl)
      · refine R_icmp_lt_f dX7_drift_22 (tgt := 36) (by decide) c4 ?_
        refine R_aload_n dX7_drift_25 rfl rfl ?_
        refine R_getW dX7_drift_26 lfX7_64 rfl rfl (v := v3) ev3 ?_
        refine R_getX dX7_drift_29 lfX7_109 kv3 rfl (x := h v3 6) rfl ?_
        refine R_iconst dX7_drift_32 (v := 1) (by decide) ?_
        rcases it_split H with ⟨c5, H⟩ | ⟨c5, H⟩
        · refine R_icmp_ge_t dX7_drift_33 (tgt := 39) (by decide) c5 ?_
          refine R_iconst dX7_drift_39 (v := 0) (by decide) ?_
          refine R_istoreN dX7_drift_40 rfl (by decide) rfl (ls2 := [.ref 0, .int x1, .int 0, .null, .null, .null]) rfl ?_
          refine tX7_drift_L41 (fun h23 r h2 H => ?_) _ _ _ _ _ H
          refine R_aload_n dX7_drift_115 rfl rfl ?_
          refine R_getF dX7_drift_116 lfX7_19 rfl rfl (q := 3) rfl ?_
          obtain ⟨r25, e24, H⟩ := bn_some H
          refine R_cV dX7_drift_119 lvX7_133 ⟨Nat.le_of_ble_eq_true rfl, Nat.le_of_ble_eq_true rfl⟩ (r := 3) rfl (av := []) (st := []) rfl rfl (Nat.le_of_ble_eq_true rfl) (tX0_countAll rfl e24) ?_
          obtain ⟨rfl, rfl⟩ := so2 H
          exact R_retI dX7_drift_122 rfl (Or.inl rfl)
        · refine R_icmp_ge_f dX7_drift_33 (tgt := 39) (by decide) c5 ?_
          refine R_ldc dX7_drift_36 lcX7_143 ?_
          obtain ⟨rfl, rfl⟩ := so2 H
          exact R_retI dX7_drift_38 rfl (Or.inl rfl)
    · refine R_icmp_le_f dX7_drift_8 (tgt := 14) (by decide) c2 ?_
      refine R_ldc dX7_drift_11 lcX7_75 ?_
      obtain ⟨rfl, rfl⟩ := so2 H
      exact R_retI dX7_drift_13 rfl (Or.inl rfl)

set_option maxRecDepth 100000 in
set_option maxHeartbeats 4000000 in
theorem tX7_undo_L30 {sp : Nat × (Nat → Int32)} {K : aH → Option (Int32 × aH)} {x1 : Int32} (hK : ∀ (hk : aH) (r : Int32) (h2 : aH), K hk = some (r, h2) → Rn sp mX7_undo 52 [.ref 0, .null, .null] [] hk (some (.int r)) h2) : ∀ (n : Nat) (h : aH) (x2 : Int32) (r : Int32) (h2 : aH), fX7_undo_L30 K x1 n h x2 = some (r, h2) → Rn sp mX7_undo 30 [.ref 0, .int x1, .int x2] [] h (some (.int r)) h2 := by
  intro n
  induction n with
  | zero =>
    intro h x2 r h2 H
    rw [fX7_undo_L30] at H
    cases H
  | succ n ih =>
    intro h x2 r h2 H
    rw [fX7_undo_L30] at H
    refine R_iload_n dX7_undo_30 rfl rfl ?_
    refine R_iload_n dX7_undo_31 rfl rfl ?_
    rcases it_split H with ⟨c4, H⟩ | ⟨c4, H⟩
    · refine R_icmp_ge_t dX7_undo_32 (tgt := 52) (by decide) c4 ?_
      refine R_null (i := 1) (ls2 := [.ref 0, .null, .int x2]) rfl ?_
      refine R_null (i := 2) (ls2 := [.ref 0, .null, .null]) rfl ?_
      exact hK _ _ _ H
    · refine R_icmp_ge_f dX7_undo_32 (tgt := 52) (by decide) c4 ?_
      refine R_aload_n dX7_undo_35 rfl rfl ?_
      refine R_getF dX7_undo_36 lfX7_32 rfl rfl (q := 18) rfl ?_
      refine R_aload_n dX7_undo_39 rfl rfl ?_
      refine R_getF dX7_undo_40 lfX7_19 rfl rfl (q := 3) rfl ?_
      obtain ⟨h6, e5, H⟩ := bn_some H
      refine R_cV dX7_undo_43 lvX7_223 ⟨Nat.le_of_ble_eq_true rfl, Nat.le_of_ble_eq_true rfl⟩ (r := 18) rfl (av := [.ref 3]) (st := []) rfl rfl (Nat.le_of_ble_eq_true rfl) (tX3_takeBackLast rfl e5) ?_
      refine R_iincW dX7_undo_46 rfl (v := x2 + 1) rfl (by decide) rfl (ls2 := [.ref 0, .int x1, .int (x2 + 1)]) rfl ?_
      refine R_goto dX7_undo_49 (tgt := 30) (by decide) ?_
      exact ih _ _ _ _ H

set_option maxRecDepth 100000 in
set_option maxHeartbeats 4000000 in
theorem tX7_undo {h : aH} {x1 : Int32} {r : Int32} {h2 : aH} (H : fX7_undo h x1 = some (r, h2)) : Ev mX7_undo [.ref 0, .int x1] h (some (.int r)) h2 := by
  unfold fX7_undo at H
  refine Ev_of (sp := (0, fun _ => 0)) oX7_undo nlX7 (Nat.le_of_ble_eq_true rfl) (ls0 := [.ref 0, .int x1, .null]) rfl ?_
  refine R_iload_n dX7_undo_0 rfl rfl ?_
  refine R_iconst dX7_undo_1 (v := 1) (by decide) ?_
  rcases it_split H with ⟨c1, H⟩ | ⟨c1, H⟩
  · refine R_icmp_lt_t dX7_undo_2 (tgt := 11) (by decide) c1 ?_
    refine R_ldc dX7_undo_11 lcX7_75 ?_
    obtain ⟨rfl, rfl⟩ := so2 H
    exact R_retI dX7_undo_13 rfl (Or.inl rfl)
  · refine R_icmp_lt_f dX7_undo_2 (tgt := 11) (by decide) c1 ?_
    refine R_iload_n dX7_undo_5 rfl rfl ?_
    refine R_bipush dX7_undo_6 (v := 30) (by decide) ?_
    rcases it_split H with ⟨c2, H⟩ | ⟨c2, H⟩
    · refine R_icmp_le_t dX7_undo_8 (tgt := 14) (by decide) c2 ?_
      refine R_iload_n dX7_undo_14 rfl rfl ?_
      refine R_aload_n dX7_undo_15 rfl rfl ?_
      refine R_getF dX7_undo_16 lfX7_32 rfl rfl (q := 18) rfl ?_
      refine R_getX dX7_undo_19 lfX7_136 rfl rfl (x := h 18 6) rfl ?_
      rcases it_split H with ⟨c3, H⟩ | ⟨c3, H⟩
      · refine R_icmp_le_t dX7_undo_22 (tgt := 28) (by decide) c3 ?_
        refine R_iconst dX7_undo_28 (v := 0) (by decide) ?_
        refine R_istoreN dX7_undo_29 rfl (by decide) rfl (ls2 := [.ref 0, .int x1, .int 0]) rfl ?_
        refine tX7_undo_L30 (fun h7 r h2 H => ?_) _ _ _ _ _ H
        refine R_aload_n dX7_undo_52 rfl rfl ?_
        refine R_getF dX7_undo_53 lfX7_19 rfl rfl (q := 3) rfl ?_
        obtain ⟨r9, e8, H⟩ := bn_some H
        refine R_cV dX7_undo_56 lvX7_133 ⟨Nat.le_of_ble_eq_true rfl, Nat.le_of_ble_eq_true rfl⟩ (r := 3) rfl (av := []) (st := []) rfl rfl (Nat.le_of_ble_eq_true rfl) (tX0_countAll rfl e8) ?_
        obtain ⟨rfl, rfl⟩ := so2 H
        exact R_retI dX7_undo_59 rfl (Or.inl rfl)
      · refine R_icmp_le_f dX7_undo_22 (tgt := 28) (by decide) c3 ?_
        refine R_ldc dX7_undo_25 lcX7_143 ?_
        obtain ⟨rfl, rfl⟩ := so2 H
        exact R_retI dX7_undo_27 rfl (Or.inl rfl)
    · refine R_icmp_le_f dX7_undo_8 (tgt := 14) (by decide) c2 ?_
      refine R_ldc dX7_undo_11 lcX7_75 ?_
      obtain ⟨rfl, rfl⟩ := so2 H
      exact R_retI dX7_undo_13 rfl (Or.inl rfl)

set_option maxRecDepth 100000 in
set_option maxHeartbeats 4000000 in
theorem tX7_look {h : aH} {x1 : Int32} {x2 : Int32} {r : Int32} (H : fX7_look h x1 x2 = some r) : Ev mX7_look [.ref 0, .int x1, .int x2] h (some (.int r)) h := by
  unfold fX7_look at H
  refine Ev_of (sp := (0, fun _ => 0)) oX7_look nlX7 (Nat.le_of_ble_eq_true rfl) (ls0 := [.ref 0, .int x1, .int x2]) rfl ?_
  refine R_aload_n dX7_look_0 rfl rfl ?_
  obtain ⟨v1, e0, H⟩ := bn_some H
  obtain ⟨ev1, kv1⟩ := vl_some e0
  refine R_getW dX7_look_1 lfX7_64 rfl rfl (v := v1) ev1 ?_
  refine R_iload_n dX7_look_4 rfl rfl ?_
  obtain ⟨r3, e2, H⟩ := bn_some H
  refine R_cV dX7_look_5 lvX7_157 ⟨Nat.le_of_ble_eq_true rfl, Nat.le_of_ble_eq_true rfl⟩ (r := v1) kv1 (av := [.int x1]) (st := []) rfl rfl (Nat.le_of_ble_eq_true rfl) (tX6_hasHand kv1 e2) ?_
  rcases it_split H with ⟨c4, H⟩ | ⟨c4, H⟩
  · refine R_if_ne_f dX7_look_8 (tgt := 14) (by decide) c4 ?_
    refine R_ldc dX7_look_11 lcX7_160 ?_
    obtain rfl := Option.some.inj H
    exact R_retI dX7_look_13 rfl (Or.inl rfl)
  · refine R_if_ne_t dX7_look_8 (tgt := 14) (by decide) c4 ?_
    refine R_iload_n dX7_look_14 rfl rfl ?_
    obtain ⟨r6, e5, H⟩ := bn_some H
    refine R_cS dX7_look_15 lvX7_139 ⟨Nat.le_of_ble_eq_true rfl, Nat.le_of_ble_eq_true rfl⟩ (av := [.int x2]) (st := []) rfl rfl (Nat.le_of_ble_eq_true rfl) (tX7_isHour e5) ?_
    rcases it_split H with ⟨c7, H⟩ | ⟨c7, H⟩
    · refine R_if_eq_t dX7_look_18 (tgt := 33) (by decide) c7 ?_
      refine R_ldc dX7_look_33 lcX7_75 ?_
      obtain rfl := Option.some.inj H
      exact R_retI dX7_look_35 rfl (Or.inl rfl)
    · refine R_if_eq_f dX7_look_18 (tgt := 33) (by decide) c7 ?_
      refine R_aload_n dX7_look_21 rfl rfl ?_
      refine R_getW dX7_look_22 lfX7_64 rfl rfl (v := v1) ev1 ?_
      refine R_iload_n dX7_look_25 rfl rfl ?_
      refine R_iload_n dX7_look_26 rfl rfl ?_
      obtain ⟨r9, e8, H⟩ := bn_some H
      refine R_cV dX7_look_27 lvX7_227 ⟨Nat.le_of_ble_eq_true rfl, Nat.le_of_ble_eq_true rfl⟩ (r := v1) kv1 (av := [.int x1, .int x2]) (st := []) rfl rfl (Nat.le_of_ble_eq_true rfl) (tX6_lookAt kv1 e8) ?_
      refine R_goto dX7_look_30 (tgt := 35) (by decide) ?_
      obtain rfl := Option.some.inj H
      exact R_retI dX7_look_35 rfl (Or.inl rfl)

set_option maxRecDepth 100000 in
set_option maxHeartbeats 4000000 in
theorem tX7_written {h : aH} {x1 : Int32} {x2 : Int32} {x3 : Int32} {x4 : Int32} {r : Int32} (H : fX7_written h x1 x2 x3 x4 = some r) : Ev mX7_written [.ref 0, .int x1, .int x2, .int x3, .int x4] h (some (.int r)) h := by
  unfold fX7_written at H
  refine Ev_of (sp := (0, fun _ => 0)) oX7_written nlX7 (Nat.le_of_ble_eq_true rfl) (ls0 := [.ref 0, .int x1, .int x2, .int x3, .int x4]) rfl ?_
  refine R_aload_n dX7_written_0 rfl rfl ?_
  obtain ⟨v1, e0, H⟩ := bn_some H
  obtain ⟨ev1, kv1⟩ := vl_some e0
  refine R_getW dX7_written_1 lfX7_64 rfl rfl (v := v1) ev1 ?_
  refine R_iload_n dX7_written_4 rfl rfl ?_
  obtain ⟨r3, e2, H⟩ := bn_some H
  refine R_cV dX7_written_5 lvX7_170 ⟨Nat.le_of_ble_eq_true rfl, Nat.le_of_ble_eq_true rfl⟩ (r := v1) kv1 (av := [.int x1]) (st := []) rfl rfl (Nat.le_of_ble_eq_true rfl) (tX6_hasPaper kv1 e2) ?_
  rcases it_split H with ⟨c4, H⟩ | ⟨c4, H⟩
  · refine R_if_eq_t dX7_written_8 (tgt := 34) (by decide) c4 ?_
    refine R_ldc dX7_written_34 lcX7_160 ?_
    obtain rfl := Option.some.inj H
    exact R_retI dX7_written_36 rfl (Or.inl rfl)
  · refine R_if_eq_f dX7_written_8 (tgt := 34) (by decide) c4 ?_
    refine R_aload_n dX7_written_11 rfl rfl ?_
    refine R_getF dX7_written_12 lfX7_19 rfl rfl (q := 3) rfl ?_
    refine R_iload_n dX7_written_15 rfl rfl ?_
    refine R_iload_n dX7_written_16 rfl rfl ?_
    obtain ⟨r6, e5, H⟩ := bn_some H
    refine R_cV dX7_written_17 lvX7_176 ⟨Nat.le_of_ble_eq_true rfl, Nat.le_of_ble_eq_true rfl⟩ (r := 3) rfl (av := [.int x1, .int x2]) (st := []) rfl rfl (Nat.le_of_ble_eq_true rfl) (tX0_hasLetter rfl e5) ?_
    rcases it_split H with ⟨c7, H⟩ | ⟨c7, H⟩
    · refine R_if_eq_t dX7_written_20 (tgt := 34) (by decide) c7 ?_
      refine R_ldc dX7_written_34 lcX7_160 ?_
      obtain rfl := Option.some.inj H
      exact R_retI dX7_written_36 rfl (Or.inl rfl)
    · refine R_if_eq_f dX7_written_20 (tgt := 34) (by decide) c7 ?_
      refine R_aload_n dX7_written_23 rfl rfl ?_
      refine R_getW dX7_written_24 lfX7_64 rfl rfl (v := v1) ev1 ?_
      refine R_iload_n dX7_written_27 rfl rfl ?_
      obtain ⟨r9, e8, H⟩ := bn_some H
      refine R_cV dX7_written_28 lvX7_157 ⟨Nat.le_of_ble_eq_true rfl, Nat.le_of_ble_eq_true rfl⟩ (r := v1) kv1 (av := [.int x3]) (st := []) rfl rfl (Nat.le_of_ble_eq_true rfl) (tX6_hasHand kv1 e8) ?_
      rcases it_split H with ⟨c10, H⟩ | ⟨c10, H⟩
      · refine R_if_ne_f dX7_written_31 (tgt := 37) (by decide) c10 ?_
        refine R_ldc dX7_written_34 lcX7_160 ?_
        obtain rfl := Option.some.inj H
        exact R_retI dX7_written_36 rfl (Or.inl rfl)
      · refine R_if_ne_t dX7_written_31 (tgt := 37) (by decide) c10 ?_
        refine R_aload_n dX7_written_37 rfl rfl ?_
        refine R_getW dX7_written_38 lfX7_64 rfl rfl (v := v1) ev1 ?_
        refine R_iload_n dX7_written_41 rfl rfl ?_
        refine R_aload_n dX7_written_42 rfl rfl ?_
        refine R_getF dX7_written_43 lfX7_19 rfl rfl (q := 3) rfl ?_
        refine R_aload_n dX7_written_46 rfl rfl ?_
        refine R_getW dX7_written_47 lfX7_64 rfl rfl (v := v1) ev1 ?_
        refine R_iload_n dX7_written_50 rfl rfl ?_
        refine R_iload_n dX7_written_51 rfl rfl ?_
        obtain ⟨r12, e11, H⟩ := bn_some H
        refine R_cV dX7_written_52 lvX7_180 ⟨Nat.le_of_ble_eq_true rfl, Nat.le_of_ble_eq_true rfl⟩ (r := 3) rfl (av := [.ref v1, .int x1, .int x2]) (st := [.int x3, .ref v1]) rfl rfl (Nat.le_of_ble_eq_true rfl) (tX0_lookOf rfl kv1 e11) ?_
        refine R_iload dX7_written_55 rfl ?_
        obtain ⟨r14, e13, H⟩ := bn_some H
        refine R_cV dX7_written_57 lvX7_230 ⟨Nat.le_of_ble_eq_true rfl, Nat.le_of_ble_eq_true rfl⟩ (r := v1) kv1 (av := [.int x3, .int r12, .int x4]) (st := []) rfl rfl (Nat.le_of_ble_eq_true rfl) (tX6_hoursOfLook kv1 e13) ?_
        obtain rfl := Option.some.inj H
        exact R_retI dX7_written_60 rfl (Or.inl rfl)

set_option maxRecDepth 100000 in
set_option maxHeartbeats 4000000 in
theorem tX7_who_L46 {sp : Nat × (Nat → Int32)} {K : Int32 → Option Int32} {h : aH} {x3 : Int32} (hK : ∀ (y4 : Int32) (r : Int32), K y4 = some r → Rn sp mX7_who 88 [.null, .null, .null, .null, .int y4, .null] [] h (some (.int r)) h) : ∀ (n : Nat) (x4 x5 : Int32) (r : Int32), fX7_who_L46 K h x3 n x4 x5 = some r → Rn sp mX7_who 46 [.ref 0, .null, .null, .int x3, .int x4, .int x5] [] h (some (.int r)) h := by
  intro n
  induction n with
  | zero =>
    intro x4 x5 r H
    rw [fX7_who_L46] at H
    cases H
  | succ n ih =>
    intro x4 x5 r H
    rw [fX7_who_L46] at H
    refine R_iload dX7_who_46 rfl ?_
    refine R_aload_n dX7_who_48 rfl rfl ?_
    obtain ⟨v10, e0, H⟩ := bn_some H
    obtain ⟨ev10, kv10⟩ := vl_some e0
    refine R_getW dX7_who_49 lfX7_64 rfl rfl (v := v10) ev10 ?_
    refine R_getX dX7_who_52 lfX7_124 kv10 rfl (x := h v10 5) rfl ?_
    rcases it_split H with ⟨c11, H⟩ | ⟨c11, H⟩
    · refine R_icmp_ge_t dX7_who_55 (tgt := 88) (by decide) c11 ?_
      refine R_null (i := 0) (ls2 := [.null, .null, .null, .int x3, .int x4, .int x5]) rfl ?_
      refine R_null (i := 3) (ls2 := [.null, .null, .null, .null, .int x4, .int x5]) rfl ?_
      refine R_null (i := 5) (ls2 := [.null, .null, .null, .null, .int x4, .null]) rfl ?_
      exact hK _ _ H
    · refine R_icmp_ge_f dX7_who_55 (tgt := 88) (by decide) c11 ?_
      refine R_aload_n dX7_who_58 rfl rfl ?_
      refine R_getW dX7_who_59 lfX7_64 rfl rfl (v := v10) ev10 ?_
      refine R_iload dX7_who_62 rfl ?_
      refine R_iload_n dX7_who_64 rfl rfl ?_
      refine R_iconst dX7_who_65 (v := 0) (by decide) ?_
      obtain ⟨r13, e12, H⟩ := bn_some H
      refine R_cV dX7_who_66 lvX7_234 ⟨Nat.le_of_ble_eq_true rfl, Nat.le_of_ble_eq_true rfl⟩ (r := v10) kv10 (av := [.int x5, .int x3, .int 0]) (st := []) rfl rfl (Nat.le_of_ble_eq_true rfl) (tX6_firstHour kv10 e12) ?_
      refine R_iconst dX7_who_69 (v := (-1)) (by decide) ?_
      rcases it_split H with ⟨c14, H⟩ | ⟨c14, H⟩
      · refine R_icmp_eq_t dX7_who_70 (tgt := 82) (by decide) c14 ?_
        refine R_iincW dX7_who_82 rfl (v := x5 + 1) rfl (by decide) rfl (ls2 := [.ref 0, .null, .null, .int x3, .int x4, .int (x5 + 1)]) rfl ?_
        refine R_goto dX7_who_85 (tgt := 46) (by decide) ?_
        exact ih _ _ _ H
      · refine R_icmp_eq_f dX7_who_70 (tgt := 82) (by decide) c14 ?_
        refine R_iload dX7_who_73 rfl ?_
        refine R_iconst dX7_who_75 (v := 1) (by decide) ?_
        refine R_iload dX7_who_76 rfl ?_
        refine R_ishl dX7_who_78 ?_
        refine R_ior dX7_who_79 ?_
        refine R_istoreW dX7_who_80 (by decide) rfl (ls2 := [.ref 0, .null, .null, .int x3, .int (x4 ||| (1 <<< (x5 &&& 31))), .int x5]) rfl ?_
        refine R_iincW dX7_who_82 rfl (v := x5 + 1) rfl (by decide) rfl (ls2 := [.ref 0, .null, .null, .int x3, .int (x4 ||| (1 <<< (x5 &&& 31))), .int (x5 + 1)]) rfl ?_
        refine R_goto dX7_who_85 (tgt := 46) (by decide) ?_
        exact ih _ _ _ H

set_option maxRecDepth 100000 in
set_option maxHeartbeats 4000000 in
theorem tX7_who {h : aH} {x1 : Int32} {x2 : Int32} {r : Int32} (H : fX7_who h x1 x2 = some r) : Ev mX7_who [.ref 0, .int x1, .int x2] h (some (.int r)) h := by
  unfold fX7_who at H
  refine Ev_of (sp := (0, fun _ => 0)) oX7_who nlX7 (Nat.le_of_ble_eq_true rfl) (ls0 := [.ref 0, .int x1, .int x2, .null, .null, .null]) rfl ?_
  refine R_aload_n dX7_who_0 rfl rfl ?_
  obtain ⟨v1, e0, H⟩ := bn_some H
  obtain ⟨ev1, kv1⟩ := vl_some e0
  refine R_getW dX7_who_1 lfX7_64 rfl rfl (v := v1) ev1 ?_
  refine R_iload_n dX7_who_4 rfl rfl ?_
  obtain ⟨r3, e2, H⟩ := bn_some H
  refine R_cV dX7_who_5 lvX7_170 ⟨Nat.le_of_ble_eq_true rfl, Nat.le_of_ble_eq_true rfl⟩ (r := v1) kv1 (av := [.int x1]) (st := []) rfl rfl (Nat.le_of_ble_eq_true rfl) (tX6_hasPaper kv1 e2) ?_
  rcases it_split H with ⟨c4, H⟩ | ⟨c4, H⟩
  · refine R_if_eq_t dX7_who_8 (tgt := 23) (by decide) c4 ?_
    refine R_ldc dX7_who_23 lcX7_160 ?_
    obtain rfl := Option.some.inj H
    exact R_retI dX7_who_25 rfl (Or.inl rfl)
  · refine R_if_eq_f dX7_who_8 (tgt := 23) (by decide) c4 ?_
    refine R_aload_n dX7_who_11 rfl rfl ?_
    refine R_getF dX7_who_12 lfX7_19 rfl rfl (q := 3) rfl ?_
    refine R_iload_n dX7_who_15 rfl rfl ?_
    refine R_iload_n dX7_who_16 rfl rfl ?_
    obtain ⟨r6, e5, H⟩ := bn_some H
    refine R_cV dX7_who_17 lvX7_176 ⟨Nat.le_of_ble_eq_true rfl, Nat.le_of_ble_eq_true rfl⟩ (r := 3) rfl (av := [.int x1, .int x2]) (st := []) rfl rfl (Nat.le_of_ble_eq_true rfl) (tX0_hasLetter rfl e5) ?_
    rcases it_split H with ⟨c7, H⟩ | ⟨c7, H⟩
    · refine R_if_ne_f dX7_who_20 (tgt := 26) (by decide) c7 ?_
      refine R_ldc dX7_who_23 lcX7_160 ?_
      obtain rfl := Option.some.inj H
      exact R_retI dX7_who_25 rfl (Or.inl rfl)
    · refine R_if_ne_t dX7_who_20 (tgt := 26) (by decide) c7 ?_
      refine R_aload_n dX7_who_26 rfl rfl ?_
      refine R_getF dX7_who_27 lfX7_19 rfl rfl (q := 3) rfl ?_
      refine R_aload_n dX7_who_30 rfl rfl ?_
      refine R_getW dX7_who_31 lfX7_64 rfl rfl (v := v1) ev1 ?_
      refine R_iload_n dX7_who_34 rfl rfl ?_
      refine R_iload_n dX7_who_35 rfl rfl ?_
      obtain ⟨r9, e8, H⟩ := bn_some H
      refine R_cV dX7_who_36 lvX7_180 ⟨Nat.le_of_ble_eq_true rfl, Nat.le_of_ble_eq_true rfl⟩ (r := 3) rfl (av := [.ref v1, .int x1, .int x2]) (st := []) rfl rfl (Nat.le_of_ble_eq_true rfl) (tX0_lookOf rfl kv1 e8) ?_
      refine R_istoreN dX7_who_39 rfl (by decide) rfl (ls2 := [.ref 0, .int x1, .int x2, .int r9, .null, .null]) rfl ?_
      refine R_iconst dX7_who_40 (v := 0) (by decide) ?_
      refine R_istoreW dX7_who_41 (by decide) rfl (ls2 := [.ref 0, .int x1, .int x2, .int r9, .int 0, .null]) rfl ?_
      refine R_iconst dX7_who_43 (v := 0) (by decide) ?_
      refine R_istoreW dX7_who_44 (by decide) rfl (ls2 := [.ref 0, .int x1, .int x2, .int r9, .int 0, .int 0]) rfl ?_
      refine R_null (i := 1) (ls2 := [.ref 0, .null, .int x2, .int r9, .int 0, .int 0]) rfl ?_
      refine R_null (i := 2) (ls2 := [.ref 0, .null, .null, .int r9, .int 0, .int 0]) rfl ?_
      refine tX7_who_L46 (fun z15 r H => ?_) _ _ _ _ H
      refine R_iload dX7_who_88 rfl ?_
      obtain rfl := Option.some.inj H
      exact R_retI dX7_who_90 rfl (Or.inl rfl)

set_option maxRecDepth 100000 in
set_option maxHeartbeats 4000000 in
theorem tX7_dated_L59 {sp : Nat × (Nat → Int32)} {K : Int32 → Int32 → Int32 → Option Int32} {h : aH} {x1 : Int32} {x2 : Int32} {x3 : Int32} {x4 : Int32} (hK : ∀ (y5 y6 y7 : Int32) (r : Int32), K y5 y6 y7 = some r → Rn sp mX7_dated 125 [.null, .null, .null, .int x3, .null, .int y5, .int y6, .int y7, .null] [] h (some (.int r)) h) : ∀ (n : Nat) (x5 x6 x7 x8 : Int32) (r : Int32), fX7_dated_L59 K h x1 x2 x3 x4 n x5 x6 x7 x8 = some r → Rn sp mX7_dated 59 [.ref 0, .int x1, .int x2, .int x3, .int x4, .int x5, .int x6, .int x7, .int x8] [] h (some (.int r)) h := by
  intro n
  induction n with
  | zero =>
    intro x5 x6 x7 x8 r H
    rw [fX7_dated_L59] at H
    cases H
  | succ n ih =>
    intro x5 x6 x7 x8 r H
    rw [fX7_dated_L59] at H
    refine R_iload dX7_dated_59 rfl ?_
    refine R_bipush dX7_dated_61 (v := 96) (by decide) ?_
    rcases it_split H with ⟨c12, H⟩ | ⟨c12, H⟩
    · refine R_icmp_ge_t dX7_dated_63 (tgt := 125) (by decide) c12 ?_
      refine R_null (i := 0) (ls2 := [.null, .int x1, .int x2, .int x3, .int x4, .int x5, .int x6, .int x7, .int x8]) rfl ?_
      refine R_null (i := 1) (ls2 := [.null, .null, .int x2, .int x3, .int x4, .int x5, .int x6, .int x7, .int x8]) rfl ?_
      refine R_null (i := 2) (ls2 := [.null, .null, .null, .int x3, .int x4, .int x5, .int x6, .int x7, .int x8]) rfl ?_
      refine R_null (i := 4) (ls2 := [.null, .null, .null, .int x3, .null, .int x5, .int x6, .int x7, .int x8]) rfl ?_
      refine R_null (i := 8) (ls2 := [.null, .null, .null, .int x3, .null, .int x5, .int x6, .int x7, .null]) rfl ?_
      exact hK _ _ _ _ H
    · refine R_icmp_ge_f dX7_dated_63 (tgt := 125) (by decide) c12 ?_
      refine R_iload dX7_dated_66 rfl ?_
      refine R_iload dX7_dated_68 rfl ?_
      refine R_iadd dX7_dated_70 ?_
      refine R_bipush dX7_dated_71 (v := 96) (by decide) ?_
      rcases it_split H with ⟨c13, H⟩ | ⟨c13, H⟩
      · refine R_icmp_gt_t dX7_dated_73 (tgt := 125) (by decide) c13 ?_
        refine R_null (i := 0) (ls2 := [.null, .int x1, .int x2, .int x3, .int x4, .int x5, .int x6, .int x7, .int x8]) rfl ?_
        refine R_null (i := 1) (ls2 := [.null, .null, .int x2, .int x3, .int x4, .int x5, .int x6, .int x7, .int x8]) rfl ?_
        refine R_null (i := 2) (ls2 := [.null, .null, .null, .int x3, .int x4, .int x5, .int x6, .int x7, .int x8]) rfl ?_
        refine R_null (i := 4) (ls2 := [.null, .null, .null, .int x3, .null, .int x5, .int x6, .int x7, .int x8]) rfl ?_
        refine R_null (i := 8) (ls2 := [.null, .null, .null, .int x3, .null, .int x5, .int x6, .int x7, .null]) rfl ?_
        exact hK _ _ _ _ H
      · refine R_icmp_gt_f dX7_dated_73 (tgt := 125) (by decide) c13 ?_
        refine R_aload_n dX7_dated_76 rfl rfl ?_
        refine R_getF dX7_dated_77 lfX7_19 rfl rfl (q := 3) rfl ?_
        refine R_aload_n dX7_dated_80 rfl rfl ?_
        obtain ⟨v14, e0, H⟩ := bn_some H
        obtain ⟨ev14, kv14⟩ := vl_some e0
        refine R_getW dX7_dated_81 lfX7_64 rfl rfl (v := v14) ev14 ?_
        refine R_iload_n dX7_dated_84 rfl rfl ?_
        refine R_iconst dX7_dated_85 (v := 0) (by decide) ?_
        refine R_iload_n dX7_dated_86 rfl rfl ?_
        refine R_iload dX7_dated_87 rfl ?_
        obtain ⟨r16, e15, H⟩ := bn_some H
        refine R_cV dX7_dated_89 lvX7_237 ⟨Nat.le_of_ble_eq_true rfl, Nat.le_of_ble_eq_true rfl⟩ (r := 3) rfl (av := [.ref v14, .int x1, .int 0, .int x2, .int x8]) (st := []) rfl rfl (Nat.le_of_ble_eq_true rfl) (tX0_rowFrom rfl kv14 e15) ?_
        refine R_iload dX7_dated_92 rfl ?_
        rcases it_split H with ⟨c17, H⟩ | ⟨c17, H⟩
        · refine R_icmp_ne_f dX7_dated_94 (tgt := 119) (by decide) c17 ?_
          refine R_iincW dX7_dated_97 rfl (v := x5 + 1) rfl (by decide) rfl (ls2 := [.ref 0, .int x1, .int x2, .int x3, .int x4, .int (x5 + 1), .int x6, .int x7, .int x8]) rfl ?_
          refine R_iload dX7_dated_100 rfl ?_
          refine R_iconst dX7_dated_102 (v := (-1)) (by decide) ?_
          rcases it_split H with ⟨c18, H⟩ | ⟨c18, H⟩
          · refine R_icmp_ne_f dX7_dated_103 (tgt := 111) (by decide) c18 ?_
            refine R_iload dX7_dated_106 rfl ?_
            refine R_goto dX7_dated_108 (tgt := 113) (by decide) ?_
            refine R_istoreW dX7_dated_113 (by decide) rfl (ls2 := [.ref 0, .int x1, .int x2, .int x3, .int x4, .int (x5 + 1), .int x8, .int x7, .int x8]) rfl ?_
            refine R_iload dX7_dated_115 rfl ?_
            refine R_istoreW dX7_dated_117 (by decide) rfl (ls2 := [.ref 0, .int x1, .int x2, .int x3, .int x4, .int (x5 + 1), .int x8, .int x8, .int x8]) rfl ?_
            refine R_iincW dX7_dated_119 rfl (v := x8 + 1) rfl (by decide) rfl (ls2 := [.ref 0, .int x1, .int x2, .int x3, .int x4, .int (x5 + 1), .int x8, .int x8, .int (x8 + 1)]) rfl ?_
            refine R_goto dX7_dated_122 (tgt := 59) (by decide) ?_
            exact ih _ _ _ _ _ H
          · refine R_icmp_ne_t dX7_dated_103 (tgt := 111) (by decide) c18 ?_
            refine R_iload dX7_dated_111 rfl ?_
            refine R_istoreW dX7_dated_113 (by decide) rfl (ls2 := [.ref 0, .int x1, .int x2, .int x3, .int x4, .int (x5 + 1), .int x6, .int x7, .int x8]) rfl ?_
            refine R_iload dX7_dated_115 rfl ?_
            refine R_istoreW dX7_dated_117 (by decide) rfl (ls2 := [.ref 0, .int x1, .int x2, .int x3, .int x4, .int (x5 + 1), .int x6, .int x8, .int x8]) rfl ?_
            refine R_iincW dX7_dated_119 rfl (v := x8 + 1) rfl (by decide) rfl (ls2 := [.ref 0, .int x1, .int x2, .int x3, .int x4, .int (x5 + 1), .int x6, .int x8, .int (x8 + 1)]) rfl ?_
            refine R_goto dX7_dated_122 (tgt := 59) (by decide) ?_
            exact ih _ _ _ _ _ H
        · refine R_icmp_ne_t dX7_dated_94 (tgt := 119) (by decide) c17 ?_
          refine R_iincW dX7_dated_119 rfl (v := x8 + 1) rfl (by decide) rfl (ls2 := [.ref 0, .int x1, .int x2, .int x3, .int x4, .int x5, .int x6, .int x7, .int (x8 + 1)]) rfl ?_
          refine R_goto dX7_dated_122 (tgt := 59) (by decide) ?_
          exact ih _ _ _ _ _ H

set_option maxRecDepth 100000 in
set_option maxHeartbeats 4000000 in
theorem tX7_dated {h : aH} {x1 : Int32} {x2 : Int32} {x3 : Int32} {r : Int32} (H : fX7_dated h x1 x2 x3 = some r) : Ev mX7_dated [.ref 0, .int x1, .int x2, .int x3] h (some (.int r)) h := by
  unfold fX7_dated at H
  refine Ev_of (sp := (0, fun _ => 0)) oX7_dated nlX7 (Nat.le_of_ble_eq_true rfl) (ls0 := [.ref 0, .int x1, .int x2, .int x3, .null, .null, .null, .null, .null]) rfl ?_
  refine R_aload_n dX7_dated_0 rfl rfl ?_
  obtain ⟨v1, e0, H⟩ := bn_some H
  obtain ⟨ev1, kv1⟩ := vl_some e0
  refine R_getW dX7_dated_1 lfX7_64 rfl rfl (v := v1) ev1 ?_
  refine R_iload_n dX7_dated_4 rfl rfl ?_
  obtain ⟨r3, e2, H⟩ := bn_some H
  refine R_cV dX7_dated_5 lvX7_170 ⟨Nat.le_of_ble_eq_true rfl, Nat.le_of_ble_eq_true rfl⟩ (r := v1) kv1 (av := [.int x1]) (st := []) rfl rfl (Nat.le_of_ble_eq_true rfl) (tX6_hasPaper kv1 e2) ?_
  rcases it_split H with ⟨c4, H⟩ | ⟨c4, H⟩
  · refine R_if_eq_t dX7_dated_8 (tgt := 22) (by decide) c4 ?_
    refine R_ldc dX7_dated_22 lcX7_160 ?_
    obtain rfl := Option.some.inj H
    exact R_retI dX7_dated_24 rfl (Or.inl rfl)
  · refine R_if_eq_f dX7_dated_8 (tgt := 22) (by decide) c4 ?_
    refine R_aload_n dX7_dated_11 rfl rfl ?_
    refine R_getW dX7_dated_12 lfX7_64 rfl rfl (v := v1) ev1 ?_
    refine R_iload_n dX7_dated_15 rfl rfl ?_
    obtain ⟨r6, e5, H⟩ := bn_some H
    refine R_cV dX7_dated_16 lvX7_157 ⟨Nat.le_of_ble_eq_true rfl, Nat.le_of_ble_eq_true rfl⟩ (r := v1) kv1 (av := [.int x2]) (st := []) rfl rfl (Nat.le_of_ble_eq_true rfl) (tX6_hasHand kv1 e5) ?_
    rcases it_split H with ⟨c7, H⟩ | ⟨c7, H⟩
    · refine R_if_ne_f dX7_dated_19 (tgt := 25) (by decide) c7 ?_
      refine R_ldc dX7_dated_22 lcX7_160 ?_
      obtain rfl := Option.some.inj H
      exact R_retI dX7_dated_24 rfl (Or.inl rfl)
    · refine R_if_ne_t dX7_dated_19 (tgt := 25) (by decide) c7 ?_
      refine R_iload_n dX7_dated_25 rfl rfl ?_
      rcases it_split H with ⟨c8, H⟩ | ⟨c8, H⟩
      · refine R_if_lt_t dX7_dated_26 (tgt := 34) (by decide) c8 ?_
        refine R_ldc dX7_dated_34 lcX7_75 ?_
        obtain rfl := Option.some.inj H
        exact R_retI dX7_dated_36 rfl (Or.inl rfl)
      · refine R_if_lt_f dX7_dated_26 (tgt := 34) (by decide) c8 ?_
        refine R_iload_n dX7_dated_29 rfl rfl ?_
        refine R_iconst dX7_dated_30 (v := 2) (by decide) ?_
        rcases it_split H with ⟨c9, H⟩ | ⟨c9, H⟩
        · refine R_icmp_le_t dX7_dated_31 (tgt := 37) (by decide) c9 ?_
          refine R_aload_n dX7_dated_37 rfl rfl ?_
          refine R_getF dX7_dated_38 lfX7_19 rfl rfl (q := 3) rfl ?_
          refine R_iload_n dX7_dated_41 rfl rfl ?_
          obtain ⟨r11, e10, H⟩ := bn_some H
          refine R_cV dX7_dated_42 lvX7_204 ⟨Nat.le_of_ble_eq_true rfl, Nat.le_of_ble_eq_true rfl⟩ (r := 3) rfl (av := [.int x1]) (st := []) rfl rfl (Nat.le_of_ble_eq_true rfl) (tX0_countOf rfl e10) ?_
          refine R_istoreW dX7_dated_45 (by decide) rfl (ls2 := [.ref 0, .int x1, .int x2, .int x3, .int r11, .null, .null, .null, .null]) rfl ?_
          refine R_iconst dX7_dated_47 (v := 0) (by decide) ?_
          refine R_istoreW dX7_dated_48 (by decide) rfl (ls2 := [.ref 0, .int x1, .int x2, .int x3, .int r11, .int 0, .null, .null, .null]) rfl ?_
          refine R_iconst dX7_dated_50 (v := (-1)) (by decide) ?_
          refine R_istoreW dX7_dated_51 (by decide) rfl (ls2 := [.ref 0, .int x1, .int x2, .int x3, .int r11, .int 0, .int (-1), .null, .null]) rfl ?_
          refine R_iconst dX7_dated_53 (v := (-1)) (by decide) ?_
          refine R_istoreW dX7_dated_54 (by decide) rfl (ls2 := [.ref 0, .int x1, .int x2, .int x3, .int r11, .int 0, .int (-1), .int (-1), .null]) rfl ?_
          refine R_iconst dX7_dated_56 (v := 0) (by decide) ?_
          refine R_istoreW dX7_dated_57 (by decide) rfl (ls2 := [.ref 0, .int x1, .int x2, .int x3, .int r11, .int 0, .int (-1), .int (-1), .int 0]) rfl ?_
          refine tX7_dated_L59 (fun z19 z20 z21 r H => ?_) _ _ _ _ _ _ H
          refine R_iload_n dX7_dated_125 rfl rfl ?_
          rcases it_split H with ⟨c22, H⟩ | ⟨c22, H⟩
          · refine R_if_ne_f dX7_dated_126 (tgt := 132) (by decide) c22 ?_
            refine R_iload dX7_dated_129 rfl ?_
            obtain rfl := Option.some.inj H
            exact R_retI dX7_dated_131 rfl (Or.inl rfl)
          · refine R_if_ne_t dX7_dated_126 (tgt := 132) (by decide) c22 ?_
            refine R_iload_n dX7_dated_132 rfl rfl ?_
            refine R_iconst dX7_dated_133 (v := 1) (by decide) ?_
            rcases it_split H with ⟨c23, H⟩ | ⟨c23, H⟩
            · refine R_icmp_ne_f dX7_dated_134 (tgt := 142) (by decide) c23 ?_
              refine R_iload dX7_dated_137 rfl ?_
              refine R_goto dX7_dated_139 (tgt := 144) (by decide) ?_
              obtain rfl := Option.some.inj H
              exact R_retI dX7_dated_144 rfl (Or.inl rfl)
            · refine R_icmp_ne_t dX7_dated_134 (tgt := 142) (by decide) c23 ?_
              refine R_iload dX7_dated_142 rfl ?_
              obtain rfl := Option.some.inj H
              exact R_retI dX7_dated_144 rfl (Or.inl rfl)
        · refine R_icmp_le_f dX7_dated_31 (tgt := 37) (by decide) c9 ?_
          refine R_ldc dX7_dated_34 lcX7_75 ?_
          obtain rfl := Option.some.inj H
          exact R_retI dX7_dated_36 rfl (Or.inl rfl)

set_option maxRecDepth 100000 in
set_option maxHeartbeats 4000000 in
theorem tX7_addedAt {h : aH} {x1 : Int32} {x2 : Int32} {x3 : Int32} {r : Int32} (H : fX7_addedAt h x1 x2 x3 = some r) : Ev mX7_addedAt [.ref 0, .int x1, .int x2, .int x3] h (some (.int r)) h := by
  unfold fX7_addedAt at H
  refine Ev_of (sp := (0, fun _ => 0)) oX7_addedAt nlX7 (Nat.le_of_ble_eq_true rfl) (ls0 := [.ref 0, .int x1, .int x2, .int x3]) rfl ?_
  refine R_aload_n dX7_addedAt_0 rfl rfl ?_
  obtain ⟨v1, e0, H⟩ := bn_some H
  obtain ⟨ev1, kv1⟩ := vl_some e0
  refine R_getW dX7_addedAt_1 lfX7_64 rfl rfl (v := v1) ev1 ?_
  refine R_iload_n dX7_addedAt_4 rfl rfl ?_
  obtain ⟨r3, e2, H⟩ := bn_some H
  refine R_cV dX7_addedAt_5 lvX7_170 ⟨Nat.le_of_ble_eq_true rfl, Nat.le_of_ble_eq_true rfl⟩ (r := v1) kv1 (av := [.int x1]) (st := []) rfl rfl (Nat.le_of_ble_eq_true rfl) (tX6_hasPaper kv1 e2) ?_
  rcases it_split H with ⟨c4, H⟩ | ⟨c4, H⟩
  · refine R_if_eq_t dX7_addedAt_8 (tgt := 22) (by decide) c4 ?_
    refine R_ldc dX7_addedAt_22 lcX7_160 ?_
    obtain rfl := Option.some.inj H
    exact R_retI dX7_addedAt_24 rfl (Or.inl rfl)
  · refine R_if_eq_f dX7_addedAt_8 (tgt := 22) (by decide) c4 ?_
    refine R_aload_n dX7_addedAt_11 rfl rfl ?_
    refine R_getW dX7_addedAt_12 lfX7_64 rfl rfl (v := v1) ev1 ?_
    refine R_iload_n dX7_addedAt_15 rfl rfl ?_
    obtain ⟨r6, e5, H⟩ := bn_some H
    refine R_cV dX7_addedAt_16 lvX7_157 ⟨Nat.le_of_ble_eq_true rfl, Nat.le_of_ble_eq_true rfl⟩ (r := v1) kv1 (av := [.int x2]) (st := []) rfl rfl (Nat.le_of_ble_eq_true rfl) (tX6_hasHand kv1 e5) ?_
    rcases it_split H with ⟨c7, H⟩ | ⟨c7, H⟩
    · refine R_if_ne_f dX7_addedAt_19 (tgt := 25) (by decide) c7 ?_
      refine R_ldc dX7_addedAt_22 lcX7_160 ?_
      obtain rfl := Option.some.inj H
      exact R_retI dX7_addedAt_24 rfl (Or.inl rfl)
    · refine R_if_ne_t dX7_addedAt_19 (tgt := 25) (by decide) c7 ?_
      refine R_iload_n dX7_addedAt_25 rfl rfl ?_
      rcases it_split H with ⟨c8, H⟩ | ⟨c8, H⟩
      · refine R_if_ne_f dX7_addedAt_26 (tgt := 44) (by decide) c8 ?_
        refine R_aload_n dX7_addedAt_29 rfl rfl ?_
        refine R_getF dX7_addedAt_30 lfX7_19 rfl rfl (q := 3) rfl ?_
        refine R_aload_n dX7_addedAt_33 rfl rfl ?_
        refine R_getW dX7_addedAt_34 lfX7_64 rfl rfl (v := v1) ev1 ?_
        refine R_iload_n dX7_addedAt_37 rfl rfl ?_
        refine R_iconst dX7_addedAt_38 (v := 0) (by decide) ?_
        refine R_iload_n dX7_addedAt_39 rfl rfl ?_
        obtain ⟨r10, e9, H⟩ := bn_some H
        refine R_cV dX7_addedAt_40 lvX7_241 ⟨Nat.le_of_ble_eq_true rfl, Nat.le_of_ble_eq_true rfl⟩ (r := 3) rfl (av := [.ref v1, .int x1, .int 0, .int x2]) (st := []) rfl rfl (Nat.le_of_ble_eq_true rfl) (tX0_longestRow rfl kv1 e9) ?_
        obtain rfl := Option.some.inj H
        exact R_retI dX7_addedAt_43 rfl (Or.inl rfl)
      · refine R_if_ne_t dX7_addedAt_26 (tgt := 44) (by decide) c8 ?_
        refine R_iload_n dX7_addedAt_44 rfl rfl ?_
        refine R_iconst dX7_addedAt_45 (v := 1) (by decide) ?_
        rcases it_split H with ⟨c11, H⟩ | ⟨c11, H⟩
        · refine R_icmp_ne_f dX7_addedAt_46 (tgt := 65) (by decide) c11 ?_
          refine R_aload_n dX7_addedAt_49 rfl rfl ?_
          refine R_getF dX7_addedAt_50 lfX7_19 rfl rfl (q := 3) rfl ?_
          refine R_aload_n dX7_addedAt_53 rfl rfl ?_
          refine R_getW dX7_addedAt_54 lfX7_64 rfl rfl (v := v1) ev1 ?_
          refine R_iload_n dX7_addedAt_57 rfl rfl ?_
          refine R_iload_n dX7_addedAt_58 rfl rfl ?_
          obtain ⟨r13, e12, H⟩ := bn_some H
          refine R_cV dX7_addedAt_59 lvX7_245 ⟨Nat.le_of_ble_eq_true rfl, Nat.le_of_ble_eq_true rfl⟩ (r := 3) rfl (av := [.ref v1, .int x1, .int x2]) (st := []) rfl rfl (Nat.le_of_ble_eq_true rfl) (tX0_fewestRows rfl kv1 e12) ?_
          refine R_goto dX7_addedAt_62 (tgt := 67) (by decide) ?_
          obtain rfl := Option.some.inj H
          exact R_retI dX7_addedAt_67 rfl (Or.inl rfl)
        · refine R_icmp_ne_t dX7_addedAt_46 (tgt := 65) (by decide) c11 ?_
          refine R_ldc dX7_addedAt_65 lcX7_75 ?_
          obtain rfl := Option.some.inj H
          exact R_retI dX7_addedAt_67 rfl (Or.inl rfl)

set_option maxRecDepth 100000 in
set_option maxHeartbeats 4000000 in
theorem tX7_next {h : aH} {x1 : Int32} {x2 : Int32} {r : Int32} {h2 : aH} (H : fX7_next h x1 x2 = some (r, h2)) : Ev mX7_next [.ref 0, .int x1, .int x2] h (some (.int r)) h2 := by
  unfold fX7_next at H
  refine Ev_of (sp := (0, fun _ => 0)) oX7_next nlX7 (Nat.le_of_ble_eq_true rfl) (ls0 := [.ref 0, .int x1, .int x2]) rfl ?_
  refine R_aload_n dX7_next_0 rfl rfl ?_
  obtain ⟨v1, e0, H⟩ := bn_some H
  obtain ⟨ev1, kv1⟩ := vl_some e0
  refine R_getW dX7_next_1 lfX7_64 rfl rfl (v := v1) ev1 ?_
  refine R_iload_n dX7_next_4 rfl rfl ?_
  obtain ⟨r3, e2, H⟩ := bn_some H
  refine R_cV dX7_next_5 lvX7_170 ⟨Nat.le_of_ble_eq_true rfl, Nat.le_of_ble_eq_true rfl⟩ (r := v1) kv1 (av := [.int x1]) (st := []) rfl rfl (Nat.le_of_ble_eq_true rfl) (tX6_hasPaper kv1 e2) ?_
  rcases it_split H with ⟨c4, H⟩ | ⟨c4, H⟩
  · refine R_if_ne_f dX7_next_8 (tgt := 14) (by decide) c4 ?_
    refine R_ldc dX7_next_11 lcX7_160 ?_
    obtain ⟨rfl, rfl⟩ := so2 H
    exact R_retI dX7_next_13 rfl (Or.inl rfl)
  · refine R_if_ne_t dX7_next_8 (tgt := 14) (by decide) c4 ?_
    refine R_iload_n dX7_next_14 rfl rfl ?_
    rcases it_split H with ⟨c5, H⟩ | ⟨c5, H⟩
    · refine R_if_lt_t dX7_next_15 (tgt := 23) (by decide) c5 ?_
      refine R_ldc dX7_next_23 lcX7_75 ?_
      obtain ⟨rfl, rfl⟩ := so2 H
      exact R_retI dX7_next_25 rfl (Or.inl rfl)
    · refine R_if_lt_f dX7_next_15 (tgt := 23) (by decide) c5 ?_
      refine R_iload_n dX7_next_18 rfl rfl ?_
      refine R_iconst dX7_next_19 (v := 1) (by decide) ?_
      rcases it_split H with ⟨c6, H⟩ | ⟨c6, H⟩
      · refine R_icmp_le_t dX7_next_20 (tgt := 26) (by decide) c6 ?_
        refine R_aload_n dX7_next_26 rfl rfl ?_
        refine R_getF dX7_next_27 lfX7_46 rfl rfl (q := 28) rfl ?_
        refine R_aload_n dX7_next_30 rfl rfl ?_
        refine R_getW dX7_next_31 lfX7_64 rfl rfl (v := v1) ev1 ?_
        refine R_aload_n dX7_next_34 rfl rfl ?_
        refine R_getF dX7_next_35 lfX7_19 rfl rfl (q := 3) rfl ?_
        refine R_iload_n dX7_next_38 rfl rfl ?_
        refine R_aload_n dX7_next_39 rfl rfl ?_
        refine R_getF dX7_next_40 lfX7_57 rfl rfl (q := 35) rfl ?_
        refine R_iload_n dX7_next_43 rfl rfl ?_
        obtain ⟨c7, H⟩ := it_some H
        refine R_ildY dX7_next_44 rfl rfl (ck_in c7) (j := tn x1) rfl (x := h 35 (tn x1)) rfl ?_
        obtain ⟨h9, e8, H⟩ := bn_some H
        refine R_cV dX7_next_45 lvX7_248 ⟨Nat.le_of_ble_eq_true rfl, Nat.le_of_ble_eq_true rfl⟩ (r := 28) rfl (av := [.ref v1, .ref 3, .int x1, .int (h 35 (tn x1))]) (st := []) rfl rfl (Nat.le_of_ble_eq_true rfl) (tX1_gather kv1 rfl e8) ?_
        refine R_iload_n dX7_next_48 rfl rfl ?_
        rcases it_split H with ⟨c10, H⟩ | ⟨c10, H⟩
        · refine R_if_ne_f dX7_next_49 (tgt := 62) (by decide) c10 ?_
          refine R_aload_n dX7_next_52 rfl rfl ?_
          refine R_getF dX7_next_53 lfX7_46 rfl rfl (q := 28) rfl ?_
          refine R_getX dX7_next_56 lfX7_252 rfl rfl (x := h9 28 4) rfl ?_
          refine R_goto dX7_next_59 (tgt := 81) (by decide) ?_
          obtain ⟨rfl, rfl⟩ := so2 H
          exact R_retI dX7_next_81 rfl (Or.inl rfl)
        · refine R_if_ne_t dX7_next_49 (tgt := 62) (by decide) c10 ?_
          refine R_aload_n dX7_next_62 rfl rfl ?_
          refine R_getF dX7_next_63 lfX7_46 rfl rfl (q := 28) rfl ?_
          refine R_aload_n dX7_next_66 rfl rfl ?_
          obtain ⟨v11, e0, H⟩ := bn_some H
          obtain ⟨ev11, kv11⟩ := vl_some e0
          refine R_getW dX7_next_67 lfX7_64 rfl rfl (v := v11) ev11 ?_
          refine R_aload_n dX7_next_70 rfl rfl ?_
          refine R_getF dX7_next_71 lfX7_19 rfl rfl (q := 3) rfl ?_
          refine R_iload_n dX7_next_74 rfl rfl ?_
          obtain ⟨r13, e12, H⟩ := bn_some H
          refine R_cV dX7_next_75 lvX7_204 ⟨Nat.le_of_ble_eq_true rfl, Nat.le_of_ble_eq_true rfl⟩ (r := 3) rfl (av := [.int x1]) (st := [.ref v11, .ref 28]) rfl rfl (Nat.le_of_ble_eq_true rfl) (tX0_countOf rfl e12) ?_
          obtain ⟨r16, h15, e14, H⟩ := bn2_some H
          refine R_cV dX7_next_78 lvX7_253 ⟨Nat.le_of_ble_eq_true rfl, Nat.le_of_ble_eq_true rfl⟩ (r := 28) rfl (av := [.ref v11, .int r13]) (st := []) rfl rfl (Nat.le_of_ble_eq_true rfl) (tX1_bestLetter kv11 e14) ?_
          obtain ⟨rfl, rfl⟩ := so2 H
          exact R_retI dX7_next_81 rfl (Or.inl rfl)
      · refine R_icmp_le_f dX7_next_20 (tgt := 26) (by decide) c6 ?_
        refine R_ldc dX7_next_23 lcX7_75 ?_
        obtain ⟨rfl, rfl⟩ := so2 H
        exact R_retI dX7_next_25 rfl (Or.inl rfl)

set_option maxRecDepth 100000 in
set_option maxHeartbeats 4000000 in
theorem tX7_isLook {h : aH} {x0 : Int32} {r : Bool} (H : fX7_isLook x0 = some r) : Ev mX7_isLook [.int x0] h (some (.int (bi r))) h := by
  unfold fX7_isLook at H
  refine Ev_of (sp := (0, fun _ => 0)) oX7_isLook nlX7 (Nat.le_of_ble_eq_true rfl) (ls0 := [.int x0]) rfl ?_
  refine R_iload_n dX7_isLook_0 rfl rfl ?_
  rcases it_split H with ⟨c1, H⟩ | ⟨c1, H⟩
  · refine R_if_lt_t dX7_isLook_1 (tgt := 15) (by decide) c1 ?_
    refine R_iconst dX7_isLook_15 (v := 0) (by decide) ?_
    obtain rfl := Option.some.inj H
    exact R_retI dX7_isLook_16 rfl (Or.inr ⟨rfl, bi_01 _⟩)
  · refine R_if_lt_f dX7_isLook_1 (tgt := 15) (by decide) c1 ?_
    refine R_iload_n dX7_isLook_4 rfl rfl ?_
    refine R_sipush dX7_isLook_5 (v := 9999) (by decide) ?_
    rcases it_split H with ⟨c2, H⟩ | ⟨c2, H⟩
    · refine R_icmp_gt_t dX7_isLook_8 (tgt := 15) (by decide) c2 ?_
      refine R_iconst dX7_isLook_15 (v := 0) (by decide) ?_
      obtain rfl := Option.some.inj H
      exact R_retI dX7_isLook_16 rfl (Or.inr ⟨rfl, bi_01 _⟩)
    · refine R_icmp_gt_f dX7_isLook_8 (tgt := 15) (by decide) c2 ?_
      refine R_iconst dX7_isLook_11 (v := 1) (by decide) ?_
      refine R_goto dX7_isLook_12 (tgt := 16) (by decide) ?_
      obtain rfl := Option.some.inj H
      exact R_retI dX7_isLook_16 rfl (Or.inr ⟨rfl, bi_01 _⟩)

set_option maxRecDepth 100000 in
set_option maxHeartbeats 4000000 in
theorem tX7_soonest {h : aH} {x1 : Int32} {x2 : Int32} {x3 : Int32} {r : Int32} (H : fX7_soonest h x1 x2 x3 = some r) : Ev mX7_soonest [.ref 0, .int x1, .int x2, .int x3] h (some (.int r)) h := by
  unfold fX7_soonest at H
  refine Ev_of (sp := (0, fun _ => 0)) oX7_soonest nlX7 (Nat.le_of_ble_eq_true rfl) (ls0 := [.ref 0, .int x1, .int x2, .int x3]) rfl ?_
  refine R_aload_n dX7_soonest_0 rfl rfl ?_
  obtain ⟨v1, e0, H⟩ := bn_some H
  obtain ⟨ev1, kv1⟩ := vl_some e0
  refine R_getW dX7_soonest_1 lfX7_64 rfl rfl (v := v1) ev1 ?_
  refine R_iload_n dX7_soonest_4 rfl rfl ?_
  obtain ⟨r3, e2, H⟩ := bn_some H
  refine R_cV dX7_soonest_5 lvX7_157 ⟨Nat.le_of_ble_eq_true rfl, Nat.le_of_ble_eq_true rfl⟩ (r := v1) kv1 (av := [.int x1]) (st := []) rfl rfl (Nat.le_of_ble_eq_true rfl) (tX6_hasHand kv1 e2) ?_
  rcases it_split H with ⟨c4, H⟩ | ⟨c4, H⟩
  · refine R_if_ne_f dX7_soonest_8 (tgt := 14) (by decide) c4 ?_
    refine R_ldc dX7_soonest_11 lcX7_160 ?_
    obtain rfl := Option.some.inj H
    exact R_retI dX7_soonest_13 rfl (Or.inl rfl)
  · refine R_if_ne_t dX7_soonest_8 (tgt := 14) (by decide) c4 ?_
    refine R_iload_n dX7_soonest_14 rfl rfl ?_
    obtain ⟨r6, e5, H⟩ := bn_some H
    refine R_cS dX7_soonest_15 lvX7_257 ⟨Nat.le_of_ble_eq_true rfl, Nat.le_of_ble_eq_true rfl⟩ (av := [.int x2]) (st := []) rfl rfl (Nat.le_of_ble_eq_true rfl) (tX7_isLook e5) ?_
    rcases it_split H with ⟨c7, H⟩ | ⟨c7, H⟩
    · refine R_if_eq_t dX7_soonest_18 (tgt := 28) (by decide) c7 ?_
      refine R_ldc dX7_soonest_28 lcX7_75 ?_
      obtain rfl := Option.some.inj H
      exact R_retI dX7_soonest_30 rfl (Or.inl rfl)
    · refine R_if_eq_f dX7_soonest_18 (tgt := 28) (by decide) c7 ?_
      refine R_iload_n dX7_soonest_21 rfl rfl ?_
      obtain ⟨r9, e8, H⟩ := bn_some H
      refine R_cS dX7_soonest_22 lvX7_139 ⟨Nat.le_of_ble_eq_true rfl, Nat.le_of_ble_eq_true rfl⟩ (av := [.int x3]) (st := []) rfl rfl (Nat.le_of_ble_eq_true rfl) (tX7_isHour e8) ?_
      rcases it_split H with ⟨c10, H⟩ | ⟨c10, H⟩
      · refine R_if_ne_f dX7_soonest_25 (tgt := 31) (by decide) c10 ?_
        refine R_ldc dX7_soonest_28 lcX7_75 ?_
        obtain rfl := Option.some.inj H
        exact R_retI dX7_soonest_30 rfl (Or.inl rfl)
      · refine R_if_ne_t dX7_soonest_25 (tgt := 31) (by decide) c10 ?_
        refine R_aload_n dX7_soonest_31 rfl rfl ?_
        refine R_getW dX7_soonest_32 lfX7_64 rfl rfl (v := v1) ev1 ?_
        refine R_iload_n dX7_soonest_35 rfl rfl ?_
        refine R_iload_n dX7_soonest_36 rfl rfl ?_
        refine R_iload_n dX7_soonest_37 rfl rfl ?_
        obtain ⟨r12, e11, H⟩ := bn_some H
        refine R_cV dX7_soonest_38 lvX7_234 ⟨Nat.le_of_ble_eq_true rfl, Nat.le_of_ble_eq_true rfl⟩ (r := v1) kv1 (av := [.int x1, .int x2, .int x3]) (st := []) rfl rfl (Nat.le_of_ble_eq_true rfl) (tX6_firstHour kv1 e11) ?_
        obtain rfl := Option.some.inj H
        exact R_retI dX7_soonest_41 rfl (Or.inl rfl)

set_option maxRecDepth 100000 in
set_option maxHeartbeats 4000000 in
theorem tX7_likely {h : aH} {x1 : Int32} {x2 : Int32} {r : Int32} (H : fX7_likely h x1 x2 = some r) : Ev mX7_likely [.ref 0, .int x1, .int x2] h (some (.int r)) h := by
  unfold fX7_likely at H
  refine Ev_of (sp := (0, fun _ => 0)) oX7_likely nlX7 (Nat.le_of_ble_eq_true rfl) (ls0 := [.ref 0, .int x1, .int x2]) rfl ?_
  refine R_aload_n dX7_likely_0 rfl rfl ?_
  obtain ⟨v1, e0, H⟩ := bn_some H
  obtain ⟨ev1, kv1⟩ := vl_some e0
  refine R_getW dX7_likely_1 lfX7_64 rfl rfl (v := v1) ev1 ?_
  refine R_iload_n dX7_likely_4 rfl rfl ?_
  obtain ⟨r3, e2, H⟩ := bn_some H
  refine R_cV dX7_likely_5 lvX7_157 ⟨Nat.le_of_ble_eq_true rfl, Nat.le_of_ble_eq_true rfl⟩ (r := v1) kv1 (av := [.int x1]) (st := []) rfl rfl (Nat.le_of_ble_eq_true rfl) (tX6_hasHand kv1 e2) ?_
  rcases it_split H with ⟨c4, H⟩ | ⟨c4, H⟩
  · refine R_if_ne_f dX7_likely_8 (tgt := 14) (by decide) c4 ?_
    refine R_ldc dX7_likely_11 lcX7_160 ?_
    obtain rfl := Option.some.inj H
    exact R_retI dX7_likely_13 rfl (Or.inl rfl)
  · refine R_if_ne_t dX7_likely_8 (tgt := 14) (by decide) c4 ?_
    refine R_iload_n dX7_likely_14 rfl rfl ?_
    obtain ⟨r6, e5, H⟩ := bn_some H
    refine R_cS dX7_likely_15 lvX7_257 ⟨Nat.le_of_ble_eq_true rfl, Nat.le_of_ble_eq_true rfl⟩ (av := [.int x2]) (st := []) rfl rfl (Nat.le_of_ble_eq_true rfl) (tX7_isLook e5) ?_
    rcases it_split H with ⟨c7, H⟩ | ⟨c7, H⟩
    · refine R_if_ne_f dX7_likely_18 (tgt := 24) (by decide) c7 ?_
      refine R_ldc dX7_likely_21 lcX7_75 ?_
      obtain rfl := Option.some.inj H
      exact R_retI dX7_likely_23 rfl (Or.inl rfl)
    · refine R_if_ne_t dX7_likely_18 (tgt := 24) (by decide) c7 ?_
      refine R_aload_n dX7_likely_24 rfl rfl ?_
      refine R_getW dX7_likely_25 lfX7_64 rfl rfl (v := v1) ev1 ?_
      refine R_iload_n dX7_likely_28 rfl rfl ?_
      refine R_iload_n dX7_likely_29 rfl rfl ?_
      refine R_iconst dX7_likely_30 (v := (-1)) (by decide) ?_
      obtain ⟨r9, e8, H⟩ := bn_some H
      refine R_cV dX7_likely_31 lvX7_230 ⟨Nat.le_of_ble_eq_true rfl, Nat.le_of_ble_eq_true rfl⟩ (r := v1) kv1 (av := [.int x1, .int x2, .int (-1)]) (st := []) rfl rfl (Nat.le_of_ble_eq_true rfl) (tX6_hoursOfLook kv1 e8) ?_
      refine R_ldcw dX7_likely_34 lcX7_260 ?_
      refine R_imul dX7_likely_37 ?_
      refine R_bipush dX7_likely_38 (v := 96) (by decide) ?_
      refine R_idiv dX7_likely_40 (by decide) ?_
      obtain rfl := Option.some.inj H
      exact R_retI dX7_likely_41 rfl (Or.inl rfl)

set_option maxRecDepth 100000 in
set_option maxHeartbeats 4000000 in
theorem tX7_hands {h : aH} {x1 : Int32} {r : Int32} {h2 : aH} (H : fX7_hands h x1 = some (r, h2)) : Ev mX7_hands [.ref 0, .int x1] h (some (.int r)) h2 := by
  unfold fX7_hands at H
  refine Ev_of (sp := (0, fun _ => 0)) oX7_hands nlX7 (Nat.le_of_ble_eq_true rfl) (ls0 := [.ref 0, .int x1]) rfl ?_
  refine R_iload_n dX7_hands_0 rfl rfl ?_
  refine R_iconst dX7_hands_1 (v := (-1)) (by decide) ?_
  rcases it_split H with ⟨c1, H⟩ | ⟨c1, H⟩
  · refine R_icmp_eq_t dX7_hands_2 (tgt := 19) (by decide) c1 ?_
    refine R_aload_n dX7_hands_19 rfl rfl ?_
    obtain ⟨v2, e0, H⟩ := bn_some H
    obtain ⟨ev2, kv2⟩ := vl_some e0
    refine R_getW dX7_hands_20 lfX7_64 rfl rfl (v := v2) ev2 ?_
    refine R_getX dX7_hands_23 lfX7_109 kv2 rfl (x := h v2 6) rfl ?_
    refine R_aload_n dX7_hands_26 rfl rfl ?_
    refine R_getW dX7_hands_27 lfX7_64 rfl rfl (v := v2) ev2 ?_
    refine R_getX dX7_hands_30 lfX7_124 kv2 rfl (x := h v2 5) rfl ?_
    rcases it_split H with ⟨c3, H⟩ | ⟨c3, H⟩
    · refine R_icmp_le_t dX7_hands_33 (tgt := 38) (by decide) c3 ?_
      refine R_aload_n dX7_hands_38 rfl rfl ?_
      refine R_getF dX7_hands_39 lfX7_53 rfl rfl (q := 33) rfl ?_
      refine R_aload_n dX7_hands_42 rfl rfl ?_
      refine R_getW dX7_hands_43 lfX7_64 rfl rfl (v := v2) ev2 ?_
      refine R_aload_n dX7_hands_46 rfl rfl ?_
      refine R_getF dX7_hands_47 lfX7_19 rfl rfl (q := 3) rfl ?_
      obtain ⟨h5, e4, H⟩ := bn_some H
      refine R_cV dX7_hands_50 lvX7_261 ⟨Nat.le_of_ble_eq_true rfl, Nat.le_of_ble_eq_true rfl⟩ (r := 33) rfl (av := [.ref v2, .ref 3]) (st := []) rfl rfl (Nat.le_of_ble_eq_true rfl) (tX4_compare kv2 rfl e4) ?_
      refine R_aload_n dX7_hands_53 rfl rfl ?_
      refine R_getF dX7_hands_54 lfX7_53 rfl rfl (q := 33) rfl ?_
      refine R_aload_n dX7_hands_57 rfl rfl ?_
      obtain ⟨v6, e0, H⟩ := bn_some H
      obtain ⟨ev6, kv6⟩ := vl_some e0
      refine R_getW dX7_hands_58 lfX7_64 rfl rfl (v := v6) ev6 ?_
      refine R_getX dX7_hands_61 lfX7_109 kv6 rfl (x := h5 v6 6) rfl ?_
      refine R_aload_n dX7_hands_64 rfl rfl ?_
      refine R_getW dX7_hands_65 lfX7_64 rfl rfl (v := v6) ev6 ?_
      refine R_getX dX7_hands_68 lfX7_124 kv6 rfl (x := h5 v6 5) rfl ?_
      obtain ⟨h8, e7, H⟩ := bn_some H
      refine R_cV dX7_hands_71 lvX7_265 ⟨Nat.le_of_ble_eq_true rfl, Nat.le_of_ble_eq_true rfl⟩ (r := 33) rfl (av := [.int (h5 v6 6), .int (h5 v6 5)]) (st := []) rfl rfl (Nat.le_of_ble_eq_true rfl) (tX4_search e7) ?_
      refine R_iload_n dX7_hands_74 rfl rfl ?_
      refine R_iconst dX7_hands_75 (v := (-1)) (by decide) ?_
      refine R_icmp_ne_f dX7_hands_76 (tgt := 89) (by decide) c1 ?_
      refine R_aload_n dX7_hands_79 rfl rfl ?_
      refine R_getF dX7_hands_80 lfX7_53 rfl rfl (q := 33) rfl ?_
      refine R_getX dX7_hands_83 lfX7_269 rfl rfl (x := h8 33 1) rfl ?_
      refine R_goto dX7_hands_86 (tgt := 104) (by decide) ?_
      obtain ⟨rfl, rfl⟩ := so2 H
      exact R_retI dX7_hands_104 rfl (Or.inl rfl)
    · refine R_icmp_le_f dX7_hands_33 (tgt := 38) (by decide) c3 ?_
      refine R_iconst dX7_hands_36 (v := (-1)) (by decide) ?_
      obtain ⟨rfl, rfl⟩ := so2 H
      exact R_retI dX7_hands_37 rfl (Or.inl rfl)
  · refine R_icmp_eq_f dX7_hands_2 (tgt := 19) (by decide) c1 ?_
    refine R_aload_n dX7_hands_5 rfl rfl ?_
    obtain ⟨v9, e0, H⟩ := bn_some H
    obtain ⟨ev9, kv9⟩ := vl_some e0
    refine R_getW dX7_hands_6 lfX7_64 rfl rfl (v := v9) ev9 ?_
    refine R_iload_n dX7_hands_9 rfl rfl ?_
    obtain ⟨r11, e10, H⟩ := bn_some H
    refine R_cV dX7_hands_10 lvX7_170 ⟨Nat.le_of_ble_eq_true rfl, Nat.le_of_ble_eq_true rfl⟩ (r := v9) kv9 (av := [.int x1]) (st := []) rfl rfl (Nat.le_of_ble_eq_true rfl) (tX6_hasPaper kv9 e10) ?_
    rcases it_split H with ⟨c12, H⟩ | ⟨c12, H⟩
    · refine R_if_ne_f dX7_hands_13 (tgt := 19) (by decide) c12 ?_
      refine R_ldc dX7_hands_16 lcX7_160 ?_
      obtain ⟨rfl, rfl⟩ := so2 H
      exact R_retI dX7_hands_18 rfl (Or.inl rfl)
    · refine R_if_ne_t dX7_hands_13 (tgt := 19) (by decide) c12 ?_
      refine R_aload_n dX7_hands_19 rfl rfl ?_
      refine R_getW dX7_hands_20 lfX7_64 rfl rfl (v := v9) ev9 ?_
      refine R_getX dX7_hands_23 lfX7_109 kv9 rfl (x := h v9 6) rfl ?_
      refine R_aload_n dX7_hands_26 rfl rfl ?_
      refine R_getW dX7_hands_27 lfX7_64 rfl rfl (v := v9) ev9 ?_
      refine R_getX dX7_hands_30 lfX7_124 kv9 rfl (x := h v9 5) rfl ?_
      rcases it_split H with ⟨c13, H⟩ | ⟨c13, H⟩
      · refine R_icmp_le_t dX7_hands_33 (tgt := 38) (by decide) c13 ?_
        refine R_aload_n dX7_hands_38 rfl rfl ?_
        refine R_getF dX7_hands_39 lfX7_53 rfl rfl (q := 33) rfl ?_
        refine R_aload_n dX7_hands_42 rfl rfl ?_
        refine R_getW dX7_hands_43 lfX7_64 rfl rfl (v := v9) ev9 ?_
        refine R_aload_n dX7_hands_46 rfl rfl ?_
        refine R_getF dX7_hands_47 lfX7_19 rfl rfl (q := 3) rfl ?_
        obtain ⟨h15, e14, H⟩ := bn_some H
        refine R_cV dX7_hands_50 lvX7_261 ⟨Nat.le_of_ble_eq_true rfl, Nat.le_of_ble_eq_true rfl⟩ (r := 33) rfl (av := [.ref v9, .ref 3]) (st := []) rfl rfl (Nat.le_of_ble_eq_true rfl) (tX4_compare kv9 rfl e14) ?_
        refine R_aload_n dX7_hands_53 rfl rfl ?_
        refine R_getF dX7_hands_54 lfX7_53 rfl rfl (q := 33) rfl ?_
        refine R_aload_n dX7_hands_57 rfl rfl ?_
        obtain ⟨v16, e0, H⟩ := bn_some H
        obtain ⟨ev16, kv16⟩ := vl_some e0
        refine R_getW dX7_hands_58 lfX7_64 rfl rfl (v := v16) ev16 ?_
        refine R_getX dX7_hands_61 lfX7_109 kv16 rfl (x := h15 v16 6) rfl ?_
        refine R_aload_n dX7_hands_64 rfl rfl ?_
        refine R_getW dX7_hands_65 lfX7_64 rfl rfl (v := v16) ev16 ?_
        refine R_getX dX7_hands_68 lfX7_124 kv16 rfl (x := h15 v16 5) rfl ?_
        obtain ⟨h18, e17, H⟩ := bn_some H
        refine R_cV dX7_hands_71 lvX7_265 ⟨Nat.le_of_ble_eq_true rfl, Nat.le_of_ble_eq_true rfl⟩ (r := 33) rfl (av := [.int (h15 v16 6), .int (h15 v16 5)]) (st := []) rfl rfl (Nat.le_of_ble_eq_true rfl) (tX4_search e17) ?_
        refine R_iload_n dX7_hands_74 rfl rfl ?_
        refine R_iconst dX7_hands_75 (v := (-1)) (by decide) ?_
        refine R_icmp_ne_t dX7_hands_76 (tgt := 89) (by decide) c1 ?_
        refine R_aload_n dX7_hands_89 rfl rfl ?_
        refine R_getF dX7_hands_90 lfX7_53 rfl rfl (q := 33) rfl ?_
        refine R_iload_n dX7_hands_93 rfl rfl ?_
        refine R_aload_n dX7_hands_94 rfl rfl ?_
        obtain ⟨v19, e0, H⟩ := bn_some H
        obtain ⟨ev19, kv19⟩ := vl_some e0
        refine R_getW dX7_hands_95 lfX7_64 rfl rfl (v := v19) ev19 ?_
        refine R_getX dX7_hands_98 lfX7_109 kv19 rfl (x := h18 v19 6) rfl ?_
        obtain ⟨r21, e20, H⟩ := bn_some H
        refine R_cV dX7_hands_101 lvX7_272 ⟨Nat.le_of_ble_eq_true rfl, Nat.le_of_ble_eq_true rfl⟩ (r := 33) rfl (av := [.int x1, .int (h18 v19 6)]) (st := []) rfl rfl (Nat.le_of_ble_eq_true rfl) (tX4_handOf e20) ?_
        obtain ⟨rfl, rfl⟩ := so2 H
        exact R_retI dX7_hands_104 rfl (Or.inl rfl)
      · refine R_icmp_le_f dX7_hands_33 (tgt := 38) (by decide) c13 ?_
        refine R_iconst dX7_hands_36 (v := (-1)) (by decide) ?_
        obtain ⟨rfl, rfl⟩ := so2 H
        exact R_retI dX7_hands_37 rfl (Or.inl rfl)

set_option maxRecDepth 100000 in
set_option maxHeartbeats 4000000 in
theorem tX7_forged_L44 {sp : Nat × (Nat → Int32)} {K : Int32 → Int32 → Option Int32} {h : aH} {x1 : Int32} {x2 : Int32} {x3 : Int32} (hK : ∀ (y4 y5 : Int32) (r : Int32), K y4 y5 = some r → Rn sp mX7_forged 111 [.null, .null, .int x2, .null, .int y4, .int y5, .null] [] h (some (.int r)) h) : ∀ (n : Nat) (x4 x5 x6 : Int32) (r : Int32), fX7_forged_L44 K h x1 x2 x3 n x4 x5 x6 = some r → Rn sp mX7_forged 44 [.ref 0, .int x1, .int x2, .int x3, .int x4, .int x5, .int x6] [] h (some (.int r)) h := by
  intro n
  induction n with
  | zero =>
    intro x4 x5 x6 r H
    rw [fX7_forged_L44] at H
    cases H
  | succ n ih =>
    intro x4 x5 x6 r H
    rw [fX7_forged_L44] at H
    refine R_iload dX7_forged_44 rfl ?_
    refine R_iload_n dX7_forged_46 rfl rfl ?_
    rcases it_split H with ⟨c9, H⟩ | ⟨c9, H⟩
    · refine R_icmp_ge_t dX7_forged_47 (tgt := 111) (by decide) c9 ?_
      refine R_null (i := 0) (ls2 := [.null, .int x1, .int x2, .int x3, .int x4, .int x5, .int x6]) rfl ?_
      refine R_null (i := 1) (ls2 := [.null, .null, .int x2, .int x3, .int x4, .int x5, .int x6]) rfl ?_
      refine R_null (i := 3) (ls2 := [.null, .null, .int x2, .null, .int x4, .int x5, .int x6]) rfl ?_
      refine R_null (i := 6) (ls2 := [.null, .null, .int x2, .null, .int x4, .int x5, .null]) rfl ?_
      exact hK _ _ _ H
    · refine R_icmp_ge_f dX7_forged_47 (tgt := 111) (by decide) c9 ?_
      refine R_aload_n dX7_forged_50 rfl rfl ?_
      refine R_getF dX7_forged_51 lfX7_19 rfl rfl (q := 3) rfl ?_
      refine R_iload_n dX7_forged_54 rfl rfl ?_
      refine R_iload dX7_forged_55 rfl ?_
      obtain ⟨r11, e10, H⟩ := bn_some H
      refine R_cV dX7_forged_57 lvX7_193 ⟨Nat.le_of_ble_eq_true rfl, Nat.le_of_ble_eq_true rfl⟩ (r := 3) rfl (av := [.int x1, .int x6]) (st := []) rfl rfl (Nat.le_of_ble_eq_true rfl) (tX0_isForged rfl e10) ?_
      rcases it_split H with ⟨c12, H⟩ | ⟨c12, H⟩
      · refine R_if_eq_t dX7_forged_60 (tgt := 105) (by decide) c12 ?_
        refine R_iincW dX7_forged_105 rfl (v := x6 + 1) rfl (by decide) rfl (ls2 := [.ref 0, .int x1, .int x2, .int x3, .int x4, .int x5, .int (x6 + 1)]) rfl ?_
        refine R_goto dX7_forged_108 (tgt := 44) (by decide) ?_
        exact ih _ _ _ _ H
      · refine R_if_eq_f dX7_forged_60 (tgt := 105) (by decide) c12 ?_
        refine R_aload_n dX7_forged_63 rfl rfl ?_
        refine R_getF dX7_forged_64 lfX7_19 rfl rfl (q := 3) rfl ?_
        refine R_aload_n dX7_forged_67 rfl rfl ?_
        obtain ⟨v13, e0, H⟩ := bn_some H
        obtain ⟨ev13, kv13⟩ := vl_some e0
        refine R_getW dX7_forged_68 lfX7_64 rfl rfl (v := v13) ev13 ?_
        refine R_iload_n dX7_forged_71 rfl rfl ?_
        refine R_iload dX7_forged_72 rfl ?_
        refine R_aload_n dX7_forged_74 rfl rfl ?_
        refine R_getF dX7_forged_75 lfX7_19 rfl rfl (q := 3) rfl ?_
        refine R_iload_n dX7_forged_78 rfl rfl ?_
        refine R_iload dX7_forged_79 rfl ?_
        obtain ⟨r15, e14, H⟩ := bn_some H
        refine R_cV dX7_forged_81 lvX7_187 ⟨Nat.le_of_ble_eq_true rfl, Nat.le_of_ble_eq_true rfl⟩ (r := 3) rfl (av := [.int x1, .int x6]) (st := [.int x6, .int x1, .ref v13, .ref 3]) rfl rfl (Nat.le_of_ble_eq_true rfl) (tX0_writerOf rfl e14) ?_
        obtain ⟨r17, e16, H⟩ := bn_some H
        refine R_cV dX7_forged_84 lvX7_275 ⟨Nat.le_of_ble_eq_true rfl, Nat.le_of_ble_eq_true rfl⟩ (r := 3) rfl (av := [.ref v13, .int x1, .int x6, .int r15]) (st := []) rfl rfl (Nat.le_of_ble_eq_true rfl) (tX0_looksAsBy rfl kv13 e16) ?_
        rcases it_split H with ⟨c18, H⟩ | ⟨c18, H⟩
        · refine R_if_eq_t dX7_forged_87 (tgt := 96) (by decide) c18 ?_
          refine R_iload dX7_forged_96 rfl ?_
          refine R_iconst dX7_forged_98 (v := 1) (by decide) ?_
          refine R_iload dX7_forged_99 rfl ?_
          refine R_ishl dX7_forged_101 ?_
          refine R_ior dX7_forged_102 ?_
          refine R_istoreW dX7_forged_103 (by decide) rfl (ls2 := [.ref 0, .int x1, .int x2, .int x3, .int x4, .int (x5 ||| (1 <<< (x6 &&& 31))), .int x6]) rfl ?_
          refine R_iincW dX7_forged_105 rfl (v := x6 + 1) rfl (by decide) rfl (ls2 := [.ref 0, .int x1, .int x2, .int x3, .int x4, .int (x5 ||| (1 <<< (x6 &&& 31))), .int (x6 + 1)]) rfl ?_
          refine R_goto dX7_forged_108 (tgt := 44) (by decide) ?_
          exact ih _ _ _ _ H
        · refine R_if_eq_f dX7_forged_87 (tgt := 96) (by decide) c18 ?_
          refine R_iincW dX7_forged_90 rfl (v := x4 + 1) rfl (by decide) rfl (ls2 := [.ref 0, .int x1, .int x2, .int x3, .int (x4 + 1), .int x5, .int x6]) rfl ?_
          refine R_goto dX7_forged_93 (tgt := 105) (by decide) ?_
          refine R_iincW dX7_forged_105 rfl (v := x6 + 1) rfl (by decide) rfl (ls2 := [.ref 0, .int x1, .int x2, .int x3, .int (x4 + 1), .int x5, .int (x6 + 1)]) rfl ?_
          refine R_goto dX7_forged_108 (tgt := 44) (by decide) ?_
          exact ih _ _ _ _ H

set_option maxRecDepth 100000 in
set_option maxHeartbeats 4000000 in
theorem tX7_forged {h : aH} {x1 : Int32} {x2 : Int32} {r : Int32} (H : fX7_forged h x1 x2 = some r) : Ev mX7_forged [.ref 0, .int x1, .int x2] h (some (.int r)) h := by
  unfold fX7_forged at H
  refine Ev_of (sp := (0, fun _ => 0)) oX7_forged nlX7 (Nat.le_of_ble_eq_true rfl) (ls0 := [.ref 0, .int x1, .int x2, .null, .null, .null, .null]) rfl ?_
  refine R_aload_n dX7_forged_0 rfl rfl ?_
  obtain ⟨v1, e0, H⟩ := bn_some H
  obtain ⟨ev1, kv1⟩ := vl_some e0
  refine R_getW dX7_forged_1 lfX7_64 rfl rfl (v := v1) ev1 ?_
  refine R_iload_n dX7_forged_4 rfl rfl ?_
  obtain ⟨r3, e2, H⟩ := bn_some H
  refine R_cV dX7_forged_5 lvX7_170 ⟨Nat.le_of_ble_eq_true rfl, Nat.le_of_ble_eq_true rfl⟩ (r := v1) kv1 (av := [.int x1]) (st := []) rfl rfl (Nat.le_of_ble_eq_true rfl) (tX6_hasPaper kv1 e2) ?_
  rcases it_split H with ⟨c4, H⟩ | ⟨c4, H⟩
  · refine R_if_ne_f dX7_forged_8 (tgt := 14) (by decide) c4 ?_
    refine R_ldc dX7_forged_11 lcX7_160 ?_
    obtain rfl := Option.some.inj H
    exact R_retI dX7_forged_13 rfl (Or.inl rfl)
  · refine R_if_ne_t dX7_forged_8 (tgt := 14) (by decide) c4 ?_
    refine R_iload_n dX7_forged_14 rfl rfl ?_
    rcases it_split H with ⟨c5, H⟩ | ⟨c5, H⟩
    · refine R_if_lt_t dX7_forged_15 (tgt := 23) (by decide) c5 ?_
      refine R_ldc dX7_forged_23 lcX7_75 ?_
      obtain rfl := Option.some.inj H
      exact R_retI dX7_forged_25 rfl (Or.inl rfl)
    · refine R_if_lt_f dX7_forged_15 (tgt := 23) (by decide) c5 ?_
      refine R_iload_n dX7_forged_18 rfl rfl ?_
      refine R_iconst dX7_forged_19 (v := 1) (by decide) ?_
      rcases it_split H with ⟨c6, H⟩ | ⟨c6, H⟩
      · refine R_icmp_le_t dX7_forged_20 (tgt := 26) (by decide) c6 ?_
        refine R_aload_n dX7_forged_26 rfl rfl ?_
        refine R_getF dX7_forged_27 lfX7_19 rfl rfl (q := 3) rfl ?_
        refine R_iload_n dX7_forged_30 rfl rfl ?_
        obtain ⟨r8, e7, H⟩ := bn_some H
        refine R_cV dX7_forged_31 lvX7_204 ⟨Nat.le_of_ble_eq_true rfl, Nat.le_of_ble_eq_true rfl⟩ (r := 3) rfl (av := [.int x1]) (st := []) rfl rfl (Nat.le_of_ble_eq_true rfl) (tX0_countOf rfl e7) ?_
        refine R_istoreN dX7_forged_34 rfl (by decide) rfl (ls2 := [.ref 0, .int x1, .int x2, .int r8, .null, .null, .null]) rfl ?_
        refine R_iconst dX7_forged_35 (v := 0) (by decide) ?_
        refine R_istoreW dX7_forged_36 (by decide) rfl (ls2 := [.ref 0, .int x1, .int x2, .int r8, .int 0, .null, .null]) rfl ?_
        refine R_iconst dX7_forged_38 (v := 0) (by decide) ?_
        refine R_istoreW dX7_forged_39 (by decide) rfl (ls2 := [.ref 0, .int x1, .int x2, .int r8, .int 0, .int 0, .null]) rfl ?_
        refine R_iconst dX7_forged_41 (v := 0) (by decide) ?_
        refine R_istoreW dX7_forged_42 (by decide) rfl (ls2 := [.ref 0, .int x1, .int x2, .int r8, .int 0, .int 0, .int 0]) rfl ?_
        refine tX7_forged_L44 (fun z19 z20 r H => ?_) _ _ _ _ _ H
        refine R_iload_n dX7_forged_111 rfl rfl ?_
        rcases it_split H with ⟨c21, H⟩ | ⟨c21, H⟩
        · refine R_if_ne_f dX7_forged_112 (tgt := 120) (by decide) c21 ?_
          refine R_iload dX7_forged_115 rfl ?_
          refine R_goto dX7_forged_117 (tgt := 122) (by decide) ?_
          obtain rfl := Option.some.inj H
          exact R_retI dX7_forged_122 rfl (Or.inl rfl)
        · refine R_if_ne_t dX7_forged_112 (tgt := 120) (by decide) c21 ?_
          refine R_iload dX7_forged_120 rfl ?_
          obtain rfl := Option.some.inj H
          exact R_retI dX7_forged_122 rfl (Or.inl rfl)
      · refine R_icmp_le_f dX7_forged_20 (tgt := 26) (by decide) c6 ?_
        refine R_ldc dX7_forged_23 lcX7_75 ?_
        obtain rfl := Option.some.inj H
        exact R_retI dX7_forged_25 rfl (Or.inl rfl)

set_option maxRecDepth 100000 in
set_option maxHeartbeats 4000000 in
theorem tX7_air {h : aH} {x1 : Int32} {x2 : Int32} {x3 : Int32} {r : Int32} (H : fX7_air h x1 x2 x3 = some r) : Ev mX7_air [.ref 0, .int x1, .int x2, .int x3] h (some (.int r)) h := by
  unfold fX7_air at H
  refine Ev_of (sp := (0, fun _ => 0)) oX7_air nlX7 (Nat.le_of_ble_eq_true rfl) (ls0 := [.ref 0, .int x1, .int x2, .int x3]) rfl ?_
  refine R_aload_n dX7_air_0 rfl rfl ?_
  obtain ⟨v1, e0, H⟩ := bn_some H
  obtain ⟨ev1, kv1⟩ := vl_some e0
  refine R_getW dX7_air_1 lfX7_64 rfl rfl (v := v1) ev1 ?_
  refine R_iload_n dX7_air_4 rfl rfl ?_
  obtain ⟨r3, e2, H⟩ := bn_some H
  refine R_cV dX7_air_5 lvX7_157 ⟨Nat.le_of_ble_eq_true rfl, Nat.le_of_ble_eq_true rfl⟩ (r := v1) kv1 (av := [.int x1]) (st := []) rfl rfl (Nat.le_of_ble_eq_true rfl) (tX6_hasHand kv1 e2) ?_
  rcases it_split H with ⟨c4, H⟩ | ⟨c4, H⟩
  · refine R_if_ne_f dX7_air_8 (tgt := 14) (by decide) c4 ?_
    refine R_ldc dX7_air_11 lcX7_160 ?_
    obtain rfl := Option.some.inj H
    exact R_retI dX7_air_13 rfl (Or.inl rfl)
  · refine R_if_ne_t dX7_air_8 (tgt := 14) (by decide) c4 ?_
    refine R_iload_n dX7_air_14 rfl rfl ?_
    obtain ⟨r6, e5, H⟩ := bn_some H
    refine R_cS dX7_air_15 lvX7_139 ⟨Nat.le_of_ble_eq_true rfl, Nat.le_of_ble_eq_true rfl⟩ (av := [.int x2]) (st := []) rfl rfl (Nat.le_of_ble_eq_true rfl) (tX7_isHour e5) ?_
    rcases it_split H with ⟨c7, H⟩ | ⟨c7, H⟩
    · refine R_if_eq_t dX7_air_18 (tgt := 42) (by decide) c7 ?_
      refine R_ldc dX7_air_42 lcX7_75 ?_
      obtain rfl := Option.some.inj H
      exact R_retI dX7_air_44 rfl (Or.inl rfl)
    · refine R_if_eq_f dX7_air_18 (tgt := 42) (by decide) c7 ?_
      refine R_aload_n dX7_air_21 rfl rfl ?_
      refine R_getW dX7_air_22 lfX7_64 rfl rfl (v := v1) ev1 ?_
      refine R_iload_n dX7_air_25 rfl rfl ?_
      refine R_aload_n dX7_air_26 rfl rfl ?_
      refine R_getW dX7_air_27 lfX7_64 rfl rfl (v := v1) ev1 ?_
      refine R_iload_n dX7_air_30 rfl rfl ?_
      refine R_iload_n dX7_air_31 rfl rfl ?_
      obtain ⟨r9, e8, H⟩ := bn_some H
      refine R_cV dX7_air_32 lvX7_227 ⟨Nat.le_of_ble_eq_true rfl, Nat.le_of_ble_eq_true rfl⟩ (r := v1) kv1 (av := [.int x1, .int x2]) (st := [.int x1, .ref v1]) rfl rfl (Nat.le_of_ble_eq_true rfl) (tX6_lookAt kv1 e8) ?_
      refine R_iload_n dX7_air_35 rfl rfl ?_
      obtain ⟨r11, e10, H⟩ := bn_some H
      refine R_cV dX7_air_36 lvX7_230 ⟨Nat.le_of_ble_eq_true rfl, Nat.le_of_ble_eq_true rfl⟩ (r := v1) kv1 (av := [.int x1, .int r9, .int x3]) (st := []) rfl rfl (Nat.le_of_ble_eq_true rfl) (tX6_hoursOfLook kv1 e10) ?_
      refine R_goto dX7_air_39 (tgt := 44) (by decide) ?_
      obtain rfl := Option.some.inj H
      exact R_retI dX7_air_44 rfl (Or.inl rfl)

set_option maxRecDepth 100000 in
set_option maxHeartbeats 4000000 in
theorem tX7_rain_L30 {sp : Nat × (Nat → Int32)} {K : Int32 → Option Int32} {h : aH} {x1 : Int32} (hK : ∀ (y2 : Int32) (r : Int32), K y2 = some r → Rn sp mX7_rain 64 [.null, .null, .int y2, .null] [] h (some (.int r)) h) : ∀ (n : Nat) (x2 x3 : Int32) (r : Int32), fX7_rain_L30 K h x1 n x2 x3 = some r → Rn sp mX7_rain 30 [.ref 0, .int x1, .int x2, .int x3] [] h (some (.int r)) h := by
  intro n
  induction n with
  | zero =>
    intro x2 x3 r H
    rw [fX7_rain_L30] at H
    cases H
  | succ n ih =>
    intro x2 x3 r H
    rw [fX7_rain_L30] at H
    refine R_iload_n dX7_rain_30 rfl rfl ?_
    refine R_bipush dX7_rain_31 (v := 10) (by decide) ?_
    rcases it_split H with ⟨c5, H⟩ | ⟨c5, H⟩
    · refine R_icmp_ge_t dX7_rain_33 (tgt := 64) (by decide) c5 ?_
      refine R_null (i := 0) (ls2 := [.null, .int x1, .int x2, .int x3]) rfl ?_
      refine R_null (i := 1) (ls2 := [.null, .null, .int x2, .int x3]) rfl ?_
      refine R_null (i := 3) (ls2 := [.null, .null, .int x2, .null]) rfl ?_
      exact hK _ _ H
    · refine R_icmp_ge_f dX7_rain_33 (tgt := 64) (by decide) c5 ?_
      refine R_aload_n dX7_rain_36 rfl rfl ?_
      refine R_getF dX7_rain_37 lfX7_19 rfl rfl (q := 3) rfl ?_
      refine R_aload_n dX7_rain_40 rfl rfl ?_
      obtain ⟨v6, e0, H⟩ := bn_some H
      obtain ⟨ev6, kv6⟩ := vl_some e0
      refine R_getW dX7_rain_41 lfX7_64 rfl rfl (v := v6) ev6 ?_
      refine R_iload_n dX7_rain_44 rfl rfl ?_
      refine R_iload_n dX7_rain_45 rfl rfl ?_
      obtain ⟨r8, e7, H⟩ := bn_some H
      refine R_cV dX7_rain_46 lvX7_279 ⟨Nat.le_of_ble_eq_true rfl, Nat.le_of_ble_eq_true rfl⟩ (r := 3) rfl (av := [.ref v6, .int x1, .int x3]) (st := []) rfl rfl (Nat.le_of_ble_eq_true rfl) (tX0_fitsRain rfl kv6 e7) ?_
      rcases it_split H with ⟨c9, H⟩ | ⟨c9, H⟩
      · refine R_if_eq_t dX7_rain_49 (tgt := 58) (by decide) c9 ?_
        refine R_iincW dX7_rain_58 rfl (v := x3 + 1) rfl (by decide) rfl (ls2 := [.ref 0, .int x1, .int x2, .int (x3 + 1)]) rfl ?_
        refine R_goto dX7_rain_61 (tgt := 30) (by decide) ?_
        exact ih _ _ _ H
      · refine R_if_eq_f dX7_rain_49 (tgt := 58) (by decide) c9 ?_
        refine R_iload_n dX7_rain_52 rfl rfl ?_
        refine R_iconst dX7_rain_53 (v := 1) (by decide) ?_
        refine R_iload_n dX7_rain_54 rfl rfl ?_
        refine R_ishl dX7_rain_55 ?_
        refine R_ior dX7_rain_56 ?_
        refine R_istoreN dX7_rain_57 rfl (by decide) rfl (ls2 := [.ref 0, .int x1, .int (x2 ||| (1 <<< (x3 &&& 31))), .int x3]) rfl ?_
        refine R_iincW dX7_rain_58 rfl (v := x3 + 1) rfl (by decide) rfl (ls2 := [.ref 0, .int x1, .int (x2 ||| (1 <<< (x3 &&& 31))), .int (x3 + 1)]) rfl ?_
        refine R_goto dX7_rain_61 (tgt := 30) (by decide) ?_
        exact ih _ _ _ H

set_option maxRecDepth 100000 in
set_option maxHeartbeats 4000000 in
theorem tX7_rain {h : aH} {x1 : Int32} {r : Int32} (H : fX7_rain h x1 = some r) : Ev mX7_rain [.ref 0, .int x1] h (some (.int r)) h := by
  unfold fX7_rain at H
  refine Ev_of (sp := (0, fun _ => 0)) oX7_rain nlX7 (Nat.le_of_ble_eq_true rfl) (ls0 := [.ref 0, .int x1, .null, .null]) rfl ?_
  refine R_iload_n dX7_rain_0 rfl rfl ?_
  rcases it_split H with ⟨c1, H⟩ | ⟨c1, H⟩
  · refine R_if_lt_t dX7_rain_1 (tgt := 10) (by decide) c1 ?_
    refine R_ldc dX7_rain_10 lcX7_75 ?_
    obtain rfl := Option.some.inj H
    exact R_retI dX7_rain_12 rfl (Or.inl rfl)
  · refine R_if_lt_f dX7_rain_1 (tgt := 10) (by decide) c1 ?_
    refine R_iload_n dX7_rain_4 rfl rfl ?_
    refine R_bipush dX7_rain_5 (v := 8) (by decide) ?_
    rcases it_split H with ⟨c2, H⟩ | ⟨c2, H⟩
    · refine R_icmp_lt_t dX7_rain_7 (tgt := 13) (by decide) c2 ?_
      refine R_aload_n dX7_rain_13 rfl rfl ?_
      obtain ⟨v3, e0, H⟩ := bn_some H
      obtain ⟨ev3, kv3⟩ := vl_some e0
      refine R_getW dX7_rain_14 lfX7_64 rfl rfl (v := v3) ev3 ?_
      refine R_getX dX7_rain_17 lfX7_112 kv3 rfl (x := h v3 0) rfl ?_
      rcases it_split H with ⟨c4, H⟩ | ⟨c4, H⟩
      · refine R_if_ne_f dX7_rain_20 (tgt := 26) (by decide) c4 ?_
        refine R_ldc dX7_rain_23 lcX7_143 ?_
        obtain rfl := Option.some.inj H
        exact R_retI dX7_rain_25 rfl (Or.inl rfl)
      · refine R_if_ne_t dX7_rain_20 (tgt := 26) (by decide) c4 ?_
        refine R_iconst dX7_rain_26 (v := 0) (by decide) ?_
        refine R_istoreN dX7_rain_27 rfl (by decide) rfl (ls2 := [.ref 0, .int x1, .int 0, .null]) rfl ?_
        refine R_iconst dX7_rain_28 (v := 0) (by decide) ?_
        refine R_istoreN dX7_rain_29 rfl (by decide) rfl (ls2 := [.ref 0, .int x1, .int 0, .int 0]) rfl ?_
        refine tX7_rain_L30 (fun z10 r H => ?_) _ _ _ _ H
        refine R_iload_n dX7_rain_64 rfl rfl ?_
        obtain rfl := Option.some.inj H
        exact R_retI dX7_rain_65 rfl (Or.inl rfl)
    · refine R_icmp_lt_f dX7_rain_7 (tgt := 13) (by decide) c2 ?_
      refine R_ldc dX7_rain_10 lcX7_75 ?_
      obtain rfl := Option.some.inj H
      exact R_retI dX7_rain_12 rfl (Or.inl rfl)

set_option maxRecDepth 100000 in
set_option maxHeartbeats 4000000 in
theorem tX7_measure {h : aH} {x1 : Int32} {x2 : Int32} {r : Int32} {h2 : aH} (H : fX7_measure h x1 x2 = some (r, h2)) : Ev mX7_measure [.ref 0, .int x1, .int x2] h (some (.int r)) h2 := by
  unfold fX7_measure at H
  refine Ev_of (sp := (0, fun _ => 0)) oX7_measure nlX7 (Nat.le_of_ble_eq_true rfl) (ls0 := [.ref 0, .int x1, .int x2]) rfl ?_
  refine R_aload_n dX7_measure_0 rfl rfl ?_
  obtain ⟨v1, e0, H⟩ := bn_some H
  obtain ⟨ev1, kv1⟩ := vl_some e0
  refine R_getW dX7_measure_1 lfX7_64 rfl rfl (v := v1) ev1 ?_
  refine R_iload_n dX7_measure_4 rfl rfl ?_
  obtain ⟨r3, e2, H⟩ := bn_some H
  refine R_cV dX7_measure_5 lvX7_170 ⟨Nat.le_of_ble_eq_true rfl, Nat.le_of_ble_eq_true rfl⟩ (r := v1) kv1 (av := [.int x1]) (st := []) rfl rfl (Nat.le_of_ble_eq_true rfl) (tX6_hasPaper kv1 e2) ?_
  rcases it_split H with ⟨c4, H⟩ | ⟨c4, H⟩
  · refine R_if_eq_t dX7_measure_8 (tgt := 23) (by decide) c4 ?_
    refine R_ldc dX7_measure_23 lcX7_160 ?_
    obtain ⟨rfl, rfl⟩ := so2 H
    exact R_retI dX7_measure_25 rfl (Or.inl rfl)
  · refine R_if_eq_f dX7_measure_8 (tgt := 23) (by decide) c4 ?_
    refine R_aload_n dX7_measure_11 rfl rfl ?_
    refine R_getF dX7_measure_12 lfX7_19 rfl rfl (q := 3) rfl ?_
    refine R_iload_n dX7_measure_15 rfl rfl ?_
    refine R_iload_n dX7_measure_16 rfl rfl ?_
    obtain ⟨r6, e5, H⟩ := bn_some H
    refine R_cV dX7_measure_17 lvX7_176 ⟨Nat.le_of_ble_eq_true rfl, Nat.le_of_ble_eq_true rfl⟩ (r := 3) rfl (av := [.int x1, .int x2]) (st := []) rfl rfl (Nat.le_of_ble_eq_true rfl) (tX0_hasLetter rfl e5) ?_
    rcases it_split H with ⟨c7, H⟩ | ⟨c7, H⟩
    · refine R_if_ne_f dX7_measure_20 (tgt := 26) (by decide) c7 ?_
      refine R_ldc dX7_measure_23 lcX7_160 ?_
      obtain ⟨rfl, rfl⟩ := so2 H
      exact R_retI dX7_measure_25 rfl (Or.inl rfl)
    · refine R_if_ne_t dX7_measure_20 (tgt := 26) (by decide) c7 ?_
      refine R_aload_n dX7_measure_26 rfl rfl ?_
      refine R_getF dX7_measure_27 lfX7_57 rfl rfl (q := 35) rfl ?_
      refine R_iload_n dX7_measure_30 rfl rfl ?_
      refine R_dup2 dX7_measure_31 rfl rfl ?_
      obtain ⟨c8, H⟩ := it_some H
      refine R_ildY dX7_measure_32 rfl rfl (ck_in c8) (j := tn x1) rfl (x := h 35 (tn x1)) rfl ?_
      refine R_iconst dX7_measure_33 (v := 1) (by decide) ?_
      refine R_iload_n dX7_measure_34 rfl rfl ?_
      refine R_ishl dX7_measure_35 ?_
      refine R_ior dX7_measure_36 ?_
      refine R_iastX dX7_measure_37 rfl rfl (ck_in c8) (j := tn x1) rfl ?_
      refine R_aload_n dX7_measure_38 rfl rfl ?_
      refine R_getF dX7_measure_39 lfX7_57 rfl rfl (q := 35) rfl ?_
      refine R_iload_n dX7_measure_42 rfl rfl ?_
      refine R_ildY dX7_measure_43 rfl rfl (ck_in c8) (j := tn x1) rfl (x := (h 35 (tn x1)) ||| (1 <<< (x2 &&& 31))) (by simp [aU, upd]) ?_
      obtain ⟨r10, e9, H⟩ := bn_some H
      refine R_cS dX7_measure_44 lvX7_283 ⟨Nat.le_of_ble_eq_true rfl, Nat.le_of_ble_eq_true rfl⟩ (av := [.int ((h 35 (tn x1)) ||| (1 <<< (x2 &&& 31)))]) (st := []) rfl rfl (Nat.le_of_ble_eq_true rfl) (tJ6_bitCount_0f7a4 e9) ?_
      obtain ⟨rfl, rfl⟩ := so2 H
      exact R_retI dX7_measure_47 rfl (Or.inl rfl)

set_option maxRecDepth 100000 in
set_option maxHeartbeats 4000000 in
theorem tX7_write {h : aH} {x1 : Int32} {x2 : Int32} {x3 : Int32} {r : Int32} {h2 : aH} (H : fX7_write h x1 x2 x3 = some (r, h2)) : Ev mX7_write [.ref 0, .int x1, .int x2, .int x3] h (some (.int r)) h2 := by
  unfold fX7_write at H
  refine Ev_of (sp := (0, fun _ => 0)) oX7_write nlX7 (Nat.le_of_ble_eq_true rfl) (ls0 := [.ref 0, .int x1, .int x2, .int x3]) rfl ?_
  refine R_aload_n dX7_write_0 rfl rfl ?_
  obtain ⟨v1, e0, H⟩ := bn_some H
  obtain ⟨ev1, kv1⟩ := vl_some e0
  refine R_getW dX7_write_1 lfX7_64 rfl rfl (v := v1) ev1 ?_
  refine R_iload_n dX7_write_4 rfl rfl ?_
  obtain ⟨r3, e2, H⟩ := bn_some H
  refine R_cV dX7_write_5 lvX7_170 ⟨Nat.le_of_ble_eq_true rfl, Nat.le_of_ble_eq_true rfl⟩ (r := v1) kv1 (av := [.int x1]) (st := []) rfl rfl (Nat.le_of_ble_eq_true rfl) (tX6_hasPaper kv1 e2) ?_
  rcases it_split H with ⟨c4, H⟩ | ⟨c4, H⟩
  · refine R_if_eq_t dX7_write_8 (tgt := 21) (by decide) c4 ?_
    refine R_ldc dX7_write_21 lcX7_160 ?_
    obtain ⟨rfl, rfl⟩ := so2 H
    exact R_retI dX7_write_23 rfl (Or.inl rfl)
  · refine R_if_eq_f dX7_write_8 (tgt := 21) (by decide) c4 ?_
    refine R_iload_n dX7_write_11 rfl rfl ?_
    rcases it_split H with ⟨c5, H⟩ | ⟨c5, H⟩
    · refine R_if_lt_t dX7_write_12 (tgt := 21) (by decide) c5 ?_
      refine R_ldc dX7_write_21 lcX7_160 ?_
      obtain ⟨rfl, rfl⟩ := so2 H
      exact R_retI dX7_write_23 rfl (Or.inl rfl)
    · refine R_if_lt_f dX7_write_12 (tgt := 21) (by decide) c5 ?_
      refine R_iload_n dX7_write_15 rfl rfl ?_
      refine R_bipush dX7_write_16 (v := 12) (by decide) ?_
      rcases it_split H with ⟨c6, H⟩ | ⟨c6, H⟩
      · refine R_icmp_lt_t dX7_write_18 (tgt := 24) (by decide) c6 ?_
        refine R_iload_n dX7_write_24 rfl rfl ?_
        obtain ⟨r8, e7, H⟩ := bn_some H
        refine R_cS dX7_write_25 lvX7_257 ⟨Nat.le_of_ble_eq_true rfl, Nat.le_of_ble_eq_true rfl⟩ (av := [.int x3]) (st := []) rfl rfl (Nat.le_of_ble_eq_true rfl) (tX7_isLook e7) ?_
        rcases it_split H with ⟨c9, H⟩ | ⟨c9, H⟩
        · refine R_if_ne_f dX7_write_28 (tgt := 34) (by decide) c9 ?_
          refine R_ldc dX7_write_31 lcX7_75 ?_
          obtain ⟨rfl, rfl⟩ := so2 H
          exact R_retI dX7_write_33 rfl (Or.inl rfl)
        · refine R_if_ne_t dX7_write_28 (tgt := 34) (by decide) c9 ?_
          refine R_aload_n dX7_write_34 rfl rfl ?_
          refine R_getF dX7_write_35 lfX7_39 rfl rfl (q := 24) rfl ?_
          refine R_iload_n dX7_write_38 rfl rfl ?_
          refine R_iload_n dX7_write_39 rfl rfl ?_
          refine R_iload_n dX7_write_40 rfl rfl ?_
          obtain ⟨r12, h11, e10, H⟩ := bn2_some H
          refine R_cV dX7_write_41 lvX7_288 ⟨Nat.le_of_ble_eq_true rfl, Nat.le_of_ble_eq_true rfl⟩ (r := 24) rfl (av := [.int x1, .int x2, .int x3]) (st := []) rfl rfl (Nat.le_of_ble_eq_true rfl) (tX2_enter e10) ?_
          obtain ⟨rfl, rfl⟩ := so2 H
          exact R_retI dX7_write_44 rfl (Or.inl rfl)
      · refine R_icmp_lt_f dX7_write_18 (tgt := 24) (by decide) c6 ?_
        refine R_ldc dX7_write_21 lcX7_160 ?_
        obtain ⟨rfl, rfl⟩ := so2 H
        exact R_retI dX7_write_23 rfl (Or.inl rfl)

set_option maxRecDepth 100000 in
set_option maxHeartbeats 4000000 in
theorem tX7_judge {h : aH} {r : Int32} (H : fX7_judge h = some r) : Ev mX7_judge [.ref 0] h (some (.int r)) h := by
  unfold fX7_judge at H
  refine Ev_of (sp := (0, fun _ => 0)) oX7_judge nlX7 (Nat.le_of_ble_eq_true rfl) (ls0 := [.ref 0]) rfl ?_
  refine R_aload_n dX7_judge_0 rfl rfl ?_
  refine R_getF dX7_judge_1 lfX7_39 rfl rfl (q := 24) rfl ?_
  refine R_aload_n dX7_judge_4 rfl rfl ?_
  obtain ⟨v1, e0, H⟩ := bn_some H
  obtain ⟨ev1, kv1⟩ := vl_some e0
  refine R_getW dX7_judge_5 lfX7_64 rfl rfl (v := v1) ev1 ?_
  refine R_aload_n dX7_judge_8 rfl rfl ?_
  refine R_getF dX7_judge_9 lfX7_19 rfl rfl (q := 3) rfl ?_
  obtain ⟨r3, e2, H⟩ := bn_some H
  refine R_cV dX7_judge_12 lvX7_291 ⟨Nat.le_of_ble_eq_true rfl, Nat.le_of_ble_eq_true rfl⟩ (r := 24) rfl (av := [.ref v1, .ref 3]) (st := []) rfl rfl (Nat.le_of_ble_eq_true rfl) (tX2_firstWrong kv1 rfl e2) ?_
  obtain rfl := Option.some.inj H
  exact R_retI dX7_judge_15 rfl (Or.inl rfl)

set_option maxRecDepth 100000 in
set_option maxHeartbeats 4000000 in
theorem tX7_tear {h : aH} {r : Int32} {h2 : aH} (H : fX7_tear h = some (r, h2)) : Ev mX7_tear [.ref 0] h (some (.int r)) h2 := by
  unfold fX7_tear at H
  refine Ev_of (sp := (0, fun _ => 0)) oX7_tear nlX7 (Nat.le_of_ble_eq_true rfl) (ls0 := [.ref 0, .null]) rfl ?_
  refine R_aload_n dX7_tear_0 rfl rfl ?_
  refine R_getF dX7_tear_1 lfX7_39 rfl rfl (q := 24) rfl ?_
  refine R_getX dX7_tear_4 lfX7_106 rfl rfl (x := h 24 3) rfl ?_
  refine R_aload_n dX7_tear_7 rfl rfl ?_
  obtain ⟨r3, h2, e1, H⟩ := bn2_some H
  refine R_cV dX7_tear_8 lvX7_102 ⟨Nat.le_of_ble_eq_true rfl, Nat.le_of_ble_eq_true rfl⟩ (r := 0) rfl (av := []) (st := [.int (h 24 3)]) rfl rfl (Nat.le_of_ble_eq_true rfl) (tX7_dropMeasures e1) ?_
  refine R_iadd dX7_tear_11 ?_
  refine R_istoreN dX7_tear_12 rfl (by decide) rfl (ls2 := [.ref 0, .int ((h 24 3) + r3)]) rfl ?_
  refine R_aload_n dX7_tear_13 rfl rfl ?_
  refine R_getF dX7_tear_14 lfX7_39 rfl rfl (q := 24) rfl ?_
  refine R_iconst dX7_tear_17 (v := 0) (by decide) ?_
  refine R_putI dX7_tear_18 lfX7_106 rfl rfl ?_
  refine R_iload_n dX7_tear_21 rfl rfl ?_
  obtain ⟨rfl, rfl⟩ := so2 H
  exact R_retI dX7_tear_22 rfl (Or.inl rfl)

set_option maxRecDepth 100000 in
set_option maxHeartbeats 4000000 in
theorem tX7_seed {h : aH} {x1 : Int32} {r : Int32} {h2 : aH} (H : fX7_seed h x1 = some (r, h2)) : Ev mX7_seed [.ref 0, .int x1] h (some (.int r)) h2 := by
  unfold fX7_seed at H
  refine Ev_of (sp := (0, fun _ => 0)) oX7_seed nlX7 (Nat.le_of_ble_eq_true rfl) (ls0 := [.ref 0, .int x1, .null]) rfl ?_
  refine R_iload_n dX7_seed_0 rfl rfl ?_
  rcases it_split H with ⟨c1, H⟩ | ⟨c1, H⟩
  · refine R_if_ge_t dX7_seed_1 (tgt := 7) (by decide) c1 ?_
    refine R_aload_n dX7_seed_7 rfl rfl ?_
    refine R_getF dX7_seed_8 lfX7_19 rfl rfl (q := 3) rfl ?_
    refine R_getX dX7_seed_11 lfX7_295 rfl rfl (x := h 3 5) rfl ?_
    refine R_istoreN dX7_seed_14 rfl (by decide) rfl (ls2 := [.ref 0, .int x1, .int (h 3 5)]) rfl ?_
    refine R_aload_n dX7_seed_15 rfl rfl ?_
    refine R_getF dX7_seed_16 lfX7_19 rfl rfl (q := 3) rfl ?_
    refine R_iload_n dX7_seed_19 rfl rfl ?_
    refine R_putI dX7_seed_20 lfX7_295 rfl rfl ?_
    refine R_iload_n dX7_seed_23 rfl rfl ?_
    obtain ⟨rfl, rfl⟩ := so2 H
    exact R_retI dX7_seed_24 rfl (Or.inl rfl)
  · refine R_if_ge_f dX7_seed_1 (tgt := 7) (by decide) c1 ?_
    refine R_ldc dX7_seed_4 lcX7_75 ?_
    obtain ⟨rfl, rfl⟩ := so2 H
    exact R_retI dX7_seed_6 rfl (Or.inl rfl)

set_option maxRecDepth 100000 in
set_option maxHeartbeats 4000000 in
theorem tX7_isImage {h : aH} {x0 : Int32} {r : Bool} (H : fX7_isImage x0 = some r) : Ev mX7_isImage [.int x0] h (some (.int (bi r))) h := by
  unfold fX7_isImage at H
  refine Ev_of (sp := (0, fun _ => 0)) oX7_isImage nlX7 (Nat.le_of_ble_eq_true rfl) (ls0 := [.int x0]) rfl ?_
  refine R_iload_n dX7_isImage_0 rfl rfl ?_
  rcases it_split H with ⟨c1, H⟩ | ⟨c1, H⟩
  · refine R_if_eq_t dX7_isImage_1 (tgt := 9) (by decide) c1 ?_
    refine R_iconst dX7_isImage_9 (v := 1) (by decide) ?_
    refine R_goto dX7_isImage_10 (tgt := 14) (by decide) ?_
    obtain rfl := Option.some.inj H
    exact R_retI dX7_isImage_14 rfl (Or.inr ⟨rfl, bi_01 _⟩)
  · refine R_if_eq_f dX7_isImage_1 (tgt := 9) (by decide) c1 ?_
    refine R_iload_n dX7_isImage_4 rfl rfl ?_
    refine R_iconst dX7_isImage_5 (v := 1) (by decide) ?_
    rcases it_split H with ⟨c2, H⟩ | ⟨c2, H⟩
    · refine R_icmp_ne_f dX7_isImage_6 (tgt := 13) (by decide) c2 ?_
      refine R_iconst dX7_isImage_9 (v := 1) (by decide) ?_
      refine R_goto dX7_isImage_10 (tgt := 14) (by decide) ?_
      obtain rfl := Option.some.inj H
      exact R_retI dX7_isImage_14 rfl (Or.inr ⟨rfl, bi_01 _⟩)
    · refine R_icmp_ne_t dX7_isImage_6 (tgt := 13) (by decide) c2 ?_
      refine R_iconst dX7_isImage_13 (v := 0) (by decide) ?_
      obtain rfl := Option.some.inj H
      exact R_retI dX7_isImage_14 rfl (Or.inr ⟨rfl, bi_01 _⟩)

set_option maxRecDepth 100000 in
set_option maxHeartbeats 4000000 in
theorem tX7_imageOf {h : aH} {x1 : Int32} {r : Nat} (H : fX7_imageOf h x1 = some r) : Ev mX7_imageOf [.ref 0, .int x1] h (some (.ref r)) h := by
  unfold fX7_imageOf at H
  refine Ev_of (sp := (0, fun _ => 0)) oX7_imageOf nlX7 (Nat.le_of_ble_eq_true rfl) (ls0 := [.ref 0, .int x1]) rfl ?_
  refine R_iload_n dX7_imageOf_0 rfl rfl ?_
  rcases it_split H with ⟨c1, H⟩ | ⟨c1, H⟩
  · refine R_if_ne_f dX7_imageOf_1 (tgt := 11) (by decide) c1 ?_
    refine R_aload_n dX7_imageOf_4 rfl rfl ?_
    refine R_getF dX7_imageOf_5 lfX7_23 rfl rfl (q := 8) rfl ?_
    refine R_goto dX7_imageOf_8 (tgt := 15) (by decide) ?_
    obtain rfl := Option.some.inj H
    exact R_ret (o := some (.ref _)) dX7_imageOf_15 ⟨_, rfl⟩
  · refine R_if_ne_t dX7_imageOf_1 (tgt := 11) (by decide) c1 ?_
    refine R_aload_n dX7_imageOf_11 rfl rfl ?_
    refine R_getF dX7_imageOf_12 lfX7_26 rfl rfl (q := 13) rfl ?_
    obtain rfl := Option.some.inj H
    exact R_ret (o := some (.ref _)) dX7_imageOf_15 ⟨_, rfl⟩

set_option maxRecDepth 100000 in
set_option maxHeartbeats 4000000 in
theorem tX7_keep {h : aH} {x1 : Int32} {r : Int32} {h2 : aH} (H : fX7_keep h x1 = some (r, h2)) : Ev mX7_keep [.ref 0, .int x1] h (some (.int r)) h2 := by
  unfold fX7_keep at H
  refine Ev_of (sp := (0, fun _ => 0)) oX7_keep nlX7 (Nat.le_of_ble_eq_true rfl) (ls0 := [.ref 0, .int x1, .null]) rfl ?_
  refine R_iload_n dX7_keep_0 rfl rfl ?_
  obtain ⟨r2, e1, H⟩ := bn_some H
  refine R_cS dX7_keep_1 lvX7_298 ⟨Nat.le_of_ble_eq_true rfl, Nat.le_of_ble_eq_true rfl⟩ (av := [.int x1]) (st := []) rfl rfl (Nat.le_of_ble_eq_true rfl) (tX7_isImage e1) ?_
  rcases it_split H with ⟨c3, H⟩ | ⟨c3, H⟩
  · refine R_if_ne_f dX7_keep_4 (tgt := 10) (by decide) c3 ?_
    refine R_ldc dX7_keep_7 lcX7_160 ?_
    obtain ⟨rfl, rfl⟩ := so2 H
    exact R_retI dX7_keep_9 rfl (Or.inl rfl)
  · refine R_if_ne_t dX7_keep_4 (tgt := 10) (by decide) c3 ?_
    refine R_aload_n dX7_keep_10 rfl rfl ?_
    refine R_iload_n dX7_keep_11 rfl rfl ?_
    obtain ⟨r5, e4, H⟩ := bn_some H
    refine R_cV dX7_keep_12 lvX7_301 ⟨Nat.le_of_ble_eq_true rfl, Nat.le_of_ble_eq_true rfl⟩ (r := 0) rfl (av := [.int x1]) (st := []) rfl rfl (Nat.le_of_ble_eq_true rfl) (tX7_imageOf e4) ?_
    obtain ⟨k6, H⟩ := it_some H
    refine R_astoreN dX7_keep_15 rfl (by decide) rfl (ls2 := [.ref 0, .int x1, .ref r5]) rfl ?_
    refine R_aload_n dX7_keep_16 rfl rfl ?_
    refine R_aload_n dX7_keep_17 rfl rfl ?_
    refine R_getF dX7_keep_18 lfX7_19 rfl rfl (q := 3) rfl ?_
    obtain ⟨h8, e7, H⟩ := bn_some H
    refine R_cV dX7_keep_21 lvX7_305 ⟨Nat.le_of_ble_eq_true rfl, Nat.le_of_ble_eq_true rfl⟩ (r := r5) k6 (av := [.ref 3]) (st := []) rfl rfl (Nat.le_of_ble_eq_true rfl) (tX0_copyFrom k6 rfl e7) ?_
    refine R_aload_n dX7_keep_24 rfl rfl ?_
    refine R_iconst dX7_keep_25 (v := 1) (by decide) ?_
    refine R_putZ dX7_keep_26 lfX7_95 k6 rfl (by decide) ?_
    refine R_aload_n dX7_keep_29 rfl rfl ?_
    refine R_getF dX7_keep_30 lfX7_32 rfl rfl (q := 18) rfl ?_
    obtain ⟨h10, e9, H⟩ := bn_some H
    refine R_cV dX7_keep_33 lvX7_99 ⟨Nat.le_of_ble_eq_true rfl, Nat.le_of_ble_eq_true rfl⟩ (r := 18) rfl (av := []) (st := []) rfl rfl (Nat.le_of_ble_eq_true rfl) (tX3_forget e9) ?_
    refine R_iconst dX7_keep_36 (v := 1) (by decide) ?_
    obtain ⟨rfl, rfl⟩ := so2 H
    exact R_retI dX7_keep_37 rfl (Or.inl rfl)

set_option maxRecDepth 100000 in
set_option maxHeartbeats 4000000 in
theorem tX7_goBack {h : aH} {x1 : Int32} {r : Int32} {h2 : aH} (H : fX7_goBack h x1 = some (r, h2)) : Ev mX7_goBack [.ref 0, .int x1] h (some (.int r)) h2 := by
  unfold fX7_goBack at H
  refine Ev_of (sp := (0, fun _ => 0)) oX7_goBack nlX7 (Nat.le_of_ble_eq_true rfl) (ls0 := [.ref 0, .int x1, .null]) rfl ?_
  refine R_iload_n dX7_goBack_0 rfl rfl ?_
  obtain ⟨r2, e1, H⟩ := bn_some H
  refine R_cS dX7_goBack_1 lvX7_298 ⟨Nat.le_of_ble_eq_true rfl, Nat.le_of_ble_eq_true rfl⟩ (av := [.int x1]) (st := []) rfl rfl (Nat.le_of_ble_eq_true rfl) (tX7_isImage e1) ?_
  rcases it_split H with ⟨c3, H⟩ | ⟨c3, H⟩
  · refine R_if_ne_f dX7_goBack_4 (tgt := 10) (by decide) c3 ?_
    refine R_ldc dX7_goBack_7 lcX7_160 ?_
    obtain ⟨rfl, rfl⟩ := so2 H
    exact R_retI dX7_goBack_9 rfl (Or.inl rfl)
  · refine R_if_ne_t dX7_goBack_4 (tgt := 10) (by decide) c3 ?_
    refine R_aload_n dX7_goBack_10 rfl rfl ?_
    refine R_iload_n dX7_goBack_11 rfl rfl ?_
    obtain ⟨r5, e4, H⟩ := bn_some H
    refine R_cV dX7_goBack_12 lvX7_301 ⟨Nat.le_of_ble_eq_true rfl, Nat.le_of_ble_eq_true rfl⟩ (r := 0) rfl (av := [.int x1]) (st := []) rfl rfl (Nat.le_of_ble_eq_true rfl) (tX7_imageOf e4) ?_
    obtain ⟨k6, H⟩ := it_some H
    refine R_astoreN dX7_goBack_15 rfl (by decide) rfl (ls2 := [.ref 0, .int x1, .ref r5]) rfl ?_
    refine R_aload_n dX7_goBack_16 rfl rfl ?_
    refine R_getX dX7_goBack_17 lfX7_95 k6 rfl (x := h r5 6) rfl ?_
    rcases it_split H with ⟨c7, H⟩ | ⟨c7, H⟩
    · refine R_if_ne_f dX7_goBack_20 (tgt := 26) (by decide) c7 ?_
      refine R_ldc dX7_goBack_23 lcX7_143 ?_
      obtain ⟨rfl, rfl⟩ := so2 H
      exact R_retI dX7_goBack_25 rfl (Or.inl rfl)
    · refine R_if_ne_t dX7_goBack_20 (tgt := 26) (by decide) c7 ?_
      refine R_aload_n dX7_goBack_26 rfl rfl ?_
      refine R_getF dX7_goBack_27 lfX7_19 rfl rfl (q := 3) rfl ?_
      refine R_aload_n dX7_goBack_30 rfl rfl ?_
      obtain ⟨h9, e8, H⟩ := bn_some H
      refine R_cV dX7_goBack_31 lvX7_305 ⟨Nat.le_of_ble_eq_true rfl, Nat.le_of_ble_eq_true rfl⟩ (r := 3) rfl (av := [.ref r5]) (st := []) rfl rfl (Nat.le_of_ble_eq_true rfl) (tX0_copyFrom rfl k6 e8) ?_
      refine R_aload_n dX7_goBack_34 rfl rfl ?_
      refine R_getF dX7_goBack_35 lfX7_32 rfl rfl (q := 18) rfl ?_
      obtain ⟨h11, e10, H⟩ := bn_some H
      refine R_cV dX7_goBack_38 lvX7_99 ⟨Nat.le_of_ble_eq_true rfl, Nat.le_of_ble_eq_true rfl⟩ (r := 18) rfl (av := []) (st := []) rfl rfl (Nat.le_of_ble_eq_true rfl) (tX3_forget e10) ?_
      refine R_iconst dX7_goBack_41 (v := 1) (by decide) ?_
      obtain ⟨rfl, rfl⟩ := so2 H
      exact R_retI dX7_goBack_42 rfl (Or.inl rfl)
