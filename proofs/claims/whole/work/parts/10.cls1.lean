set_option maxRecDepth 100000 in
set_option maxHeartbeats 4000000 in
theorem tX6_hasPaper {h : aH} {a0 : Nat} {x1 : Int32} {r : Bool} (ka0 : kC a0 = 6) (H : fX6_hasPaper h a0 x1 = some r) : Ev mX6_hasPaper [.ref a0, .int x1] h (some (.int (bi r))) h := by
  unfold fX6_hasPaper at H
  refine Ev_of (sp := (0, fun _ => 0)) oX6_hasPaper nlX6 (Nat.le_of_ble_eq_true rfl) (ls0 := [.ref a0, .int x1]) rfl ?_
  refine R_iload_n dX6_hasPaper_0 rfl rfl ?_
  rcases it_split H with ⟨c1, H⟩ | ⟨c1, H⟩
  · refine R_if_lt_t dX6_hasPaper_1 (tgt := 16) (by decide) c1 ?_
    refine R_iconst dX6_hasPaper_16 (v := 0) (by decide) ?_
    obtain rfl := Option.some.inj H
    exact R_retI dX6_hasPaper_17 rfl (Or.inr ⟨rfl, bi_01 _⟩)
  · refine R_if_lt_f dX6_hasPaper_1 (tgt := 16) (by decide) c1 ?_
    refine R_iload_n dX6_hasPaper_4 rfl rfl ?_
    refine R_aload_n dX6_hasPaper_5 rfl rfl ?_
    refine R_getX dX6_hasPaper_6 lfX6_56 ka0 rfl (x := h a0 6) rfl ?_
    rcases it_split H with ⟨c2, H⟩ | ⟨c2, H⟩
    · refine R_icmp_ge_t dX6_hasPaper_9 (tgt := 16) (by decide) c2 ?_
      refine R_iconst dX6_hasPaper_16 (v := 0) (by decide) ?_
      obtain rfl := Option.some.inj H
      exact R_retI dX6_hasPaper_17 rfl (Or.inr ⟨rfl, bi_01 _⟩)
    · refine R_icmp_ge_f dX6_hasPaper_9 (tgt := 16) (by decide) c2 ?_
      refine R_iconst dX6_hasPaper_12 (v := 1) (by decide) ?_
      refine R_goto dX6_hasPaper_13 (tgt := 17) (by decide) ?_
      obtain rfl := Option.some.inj H
      exact R_retI dX6_hasPaper_17 rfl (Or.inr ⟨rfl, bi_01 _⟩)

set_option maxRecDepth 100000 in
set_option maxHeartbeats 4000000 in
theorem tX0_put {h : aH} {a0 : Nat} {x1 : Int32} {x2 : Int32} {x3 : Int32} {x4 : Int32} {h2 : aH} (ka0 : kC a0 = 0) (H : fX0_put h a0 x1 x2 x3 x4 = some h2) : Ev mX0_put [.ref a0, .int x1, .int x2, .int x3, .int x4] h none h2 := by
  unfold fX0_put at H
  refine Ev_of (sp := (0, fun _ => 0)) oX0_put nlX0 (Nat.le_of_ble_eq_true rfl) (ls0 := [.ref a0, .int x1, .int x2, .int x3, .int x4, .null]) rfl ?_
  refine R_iload_n dX0_put_0 rfl rfl ?_
  rcases it_split H with ⟨c1, H⟩ | ⟨c1, H⟩
  · refine R_if_lt_t dX0_put_1 (tgt := 29) (by decide) c1 ?_
    obtain rfl := Option.some.inj H
    exact R_ret (o := none) dX0_put_29 rfl
  · refine R_if_lt_f dX0_put_1 (tgt := 29) (by decide) c1 ?_
    refine R_iload_n dX0_put_4 rfl rfl ?_
    refine R_iconst dX0_put_5 (v := 4) (by decide) ?_
    rcases it_split H with ⟨c2, H⟩ | ⟨c2, H⟩
    · refine R_icmp_ge_t dX0_put_6 (tgt := 29) (by decide) c2 ?_
      obtain rfl := Option.some.inj H
      exact R_ret (o := none) dX0_put_29 rfl
    · refine R_icmp_ge_f dX0_put_6 (tgt := 29) (by decide) c2 ?_
      refine R_aload_n dX0_put_9 rfl rfl ?_
      refine R_getF dX0_put_10 lfX0_9 ka0 rfl (q := a0 + 1) rfl ?_
      refine R_iload_n dX0_put_13 rfl rfl ?_
      obtain ⟨c3, H⟩ := it_some H
      refine R_ildY dX0_put_14 (kA_1 ka0) (nA_1 ka0) (ck_in c3) (j := tn x1) rfl (x := h (a0 + 1) (tn x1)) rfl ?_
      rcases it_split H with ⟨c4, H⟩ | ⟨c4, H⟩
      · refine R_if_lt_t dX0_put_15 (tgt := 29) (by decide) c4 ?_
        obtain rfl := Option.some.inj H
        exact R_ret (o := none) dX0_put_29 rfl
      · refine R_if_lt_f dX0_put_15 (tgt := 29) (by decide) c4 ?_
        refine R_aload_n dX0_put_18 rfl rfl ?_
        refine R_getF dX0_put_19 lfX0_9 ka0 rfl (q := a0 + 1) rfl ?_
        refine R_iload_n dX0_put_22 rfl rfl ?_
        refine R_ildY dX0_put_23 (kA_1 ka0) (nA_1 ka0) (ck_in c3) (j := tn x1) rfl (x := h (a0 + 1) (tn x1)) rfl ?_
        refine R_bipush dX0_put_24 (v := 12) (by decide) ?_
        rcases it_split H with ⟨c5, H⟩ | ⟨c5, H⟩
        · refine R_icmp_lt_t dX0_put_26 (tgt := 30) (by decide) c5 ?_
          refine R_iload_n dX0_put_30 rfl rfl ?_
          refine R_bipush dX0_put_31 (v := 12) (by decide) ?_
          refine R_imul dX0_put_33 ?_
          refine R_aload_n dX0_put_34 rfl rfl ?_
          refine R_getF dX0_put_35 lfX0_9 ka0 rfl (q := a0 + 1) rfl ?_
          refine R_iload_n dX0_put_38 rfl rfl ?_
          refine R_ildY dX0_put_39 (kA_1 ka0) (nA_1 ka0) (ck_in c3) (j := tn x1) rfl (x := h (a0 + 1) (tn x1)) rfl ?_
          refine R_iadd dX0_put_40 ?_
          refine R_istoreW dX0_put_41 (by decide) rfl (ls2 := [.ref a0, .int x1, .int x2, .int x3, .int x4, .int ((x1 * 12) + (h (a0 + 1) (tn x1)))]) rfl ?_
          refine R_aload_n dX0_put_43 rfl rfl ?_
          refine R_getF dX0_put_44 lfX0_15 ka0 rfl (q := a0 + 2) rfl ?_
          refine R_iload dX0_put_47 rfl ?_
          refine R_iload_n dX0_put_49 rfl rfl ?_
          obtain ⟨c6, H⟩ := it_some H
          refine R_iastX dX0_put_50 (kA_2 ka0) (nA_2 ka0) (ck_in c6) (j := tn ((x1 * 12) + (h (a0 + 1) (tn x1)))) rfl ?_
          refine R_aload_n dX0_put_51 rfl rfl ?_
          refine R_getF dX0_put_52 lfX0_18 ka0 rfl (q := a0 + 3) rfl ?_
          refine R_iload dX0_put_55 rfl ?_
          refine R_iload_n dX0_put_57 rfl rfl ?_
          refine R_iastX dX0_put_58 (kA_3 ka0) (nA_3 ka0) (ck_in c6) (j := tn ((x1 * 12) + (h (a0 + 1) (tn x1)))) rfl ?_
          refine R_aload_n dX0_put_59 rfl rfl ?_
          refine R_getF dX0_put_60 lfX0_21 ka0 rfl (q := a0 + 4) rfl ?_
          refine R_iload dX0_put_63 rfl ?_
          refine R_iload dX0_put_65 rfl ?_
          refine R_iastX dX0_put_67 (kA_4 ka0) (nA_4 ka0) (ck_in c6) (j := tn ((x1 * 12) + (h (a0 + 1) (tn x1)))) rfl ?_
          refine R_aload_n dX0_put_68 rfl rfl ?_
          refine R_getF dX0_put_69 lfX0_9 ka0 rfl (q := a0 + 1) rfl ?_
          refine R_iload_n dX0_put_72 rfl rfl ?_
          refine R_dup2 dX0_put_73 rfl rfl ?_
          refine R_ildY dX0_put_74 (kA_1 ka0) (nA_1 ka0) (ck_in c3) (j := tn x1) rfl (x := h (a0 + 1) (tn x1)) (by simp [aU, upd]) ?_
          refine R_iconst dX0_put_75 (v := 1) (by decide) ?_
          refine R_iadd dX0_put_76 ?_
          refine R_iastX dX0_put_77 (kA_1 ka0) (nA_1 ka0) (ck_in c3) (j := tn x1) rfl ?_
          obtain rfl := Option.some.inj H
          exact R_ret (o := none) dX0_put_78 rfl
        · refine R_icmp_lt_f dX0_put_26 (tgt := 30) (by decide) c5 ?_
          obtain rfl := Option.some.inj H
          exact R_ret (o := none) dX0_put_29 rfl

set_option maxRecDepth 100000 in
set_option maxHeartbeats 4000000 in
theorem tX0_beginPaper_L3 {sp : Nat × (Nat → Int32)} {K : aH → Option aH} {a0 : Nat} {x1 : Int32} {x2 : Int32} {x3 : Int32} {x4 : Int32} (ka0 : kC a0 = 0) (hK : ∀ (hk : aH) (h2 : aH), K hk = some h2 → Rn sp mX0_beginPaper 36 [.null, .null, .null, .null, .null, .null] [] hk none h2) : ∀ (n : Nat) (h : aH) (x5 : Int32) (h2 : aH), fX0_beginPaper_L3 K a0 x1 x2 x3 x4 n h x5 = some h2 → Rn sp mX0_beginPaper 3 [.ref a0, .int x1, .int x2, .int x3, .int x4, .int x5] [] h none h2 := by
  intro n
  induction n with
  | zero =>
    intro h x5 h2 H
    rw [fX0_beginPaper_L3] at H
    cases H
  | succ n ih =>
    intro h x5 h2 H
    rw [fX0_beginPaper_L3] at H
    refine R_iload dX0_beginPaper_3 rfl ?_
    refine R_iload dX0_beginPaper_5 rfl ?_
    rcases it_split H with ⟨c1, H⟩ | ⟨c1, H⟩
    · refine R_icmp_ge_t dX0_beginPaper_7 (tgt := 36) (by decide) c1 ?_
      refine R_null (i := 0) (ls2 := [.null, .int x1, .int x2, .int x3, .int x4, .int x5]) rfl ?_
      refine R_null (i := 1) (ls2 := [.null, .null, .int x2, .int x3, .int x4, .int x5]) rfl ?_
      refine R_null (i := 2) (ls2 := [.null, .null, .null, .int x3, .int x4, .int x5]) rfl ?_
      refine R_null (i := 3) (ls2 := [.null, .null, .null, .null, .int x4, .int x5]) rfl ?_
      refine R_null (i := 4) (ls2 := [.null, .null, .null, .null, .null, .int x5]) rfl ?_
      refine R_null (i := 5) (ls2 := [.null, .null, .null, .null, .null, .null]) rfl ?_
      exact hK _ _ H
    · refine R_icmp_ge_f dX0_beginPaper_7 (tgt := 36) (by decide) c1 ?_
      refine R_iload_n dX0_beginPaper_10 rfl rfl ?_
      refine R_iload dX0_beginPaper_11 rfl ?_
      refine R_iadd dX0_beginPaper_13 ?_
      refine R_bipush dX0_beginPaper_14 (v := 96) (by decide) ?_
      rcases it_split H with ⟨c2, H⟩ | ⟨c2, H⟩
      · refine R_icmp_ge_t dX0_beginPaper_16 (tgt := 36) (by decide) c2 ?_
        refine R_null (i := 0) (ls2 := [.null, .int x1, .int x2, .int x3, .int x4, .int x5]) rfl ?_
        refine R_null (i := 1) (ls2 := [.null, .null, .int x2, .int x3, .int x4, .int x5]) rfl ?_
        refine R_null (i := 2) (ls2 := [.null, .null, .null, .int x3, .int x4, .int x5]) rfl ?_
        refine R_null (i := 3) (ls2 := [.null, .null, .null, .null, .int x4, .int x5]) rfl ?_
        refine R_null (i := 4) (ls2 := [.null, .null, .null, .null, .null, .int x5]) rfl ?_
        refine R_null (i := 5) (ls2 := [.null, .null, .null, .null, .null, .null]) rfl ?_
        exact hK _ _ H
      · refine R_icmp_ge_f dX0_beginPaper_16 (tgt := 36) (by decide) c2 ?_
        refine R_aload_n dX0_beginPaper_19 rfl rfl ?_
        refine R_iload_n dX0_beginPaper_20 rfl rfl ?_
        refine R_iload_n dX0_beginPaper_21 rfl rfl ?_
        refine R_iload_n dX0_beginPaper_22 rfl rfl ?_
        refine R_iload dX0_beginPaper_23 rfl ?_
        refine R_iadd dX0_beginPaper_25 ?_
        refine R_iconst dX0_beginPaper_26 (v := (-1)) (by decide) ?_
        obtain ⟨h4, e3, H⟩ := bn_some H
        refine R_cV dX0_beginPaper_27 lvX0_47 ⟨Nat.le_of_ble_eq_true rfl, Nat.le_of_ble_eq_true rfl⟩ (r := a0) ka0 (av := [.int x1, .int x2, .int (x3 + x5), .int (-1)]) (st := []) rfl rfl (Nat.le_of_ble_eq_true rfl) (tX0_put ka0 e3) ?_
        refine R_iincW dX0_beginPaper_30 rfl (v := x5 + 1) rfl (by decide) rfl (ls2 := [.ref a0, .int x1, .int x2, .int x3, .int x4, .int (x5 + 1)]) rfl ?_
        refine R_goto dX0_beginPaper_33 (tgt := 3) (by decide) ?_
        exact ih _ _ _ H

set_option maxRecDepth 100000 in
set_option maxHeartbeats 4000000 in
theorem tX0_beginPaper {h : aH} {a0 : Nat} {x1 : Int32} {x2 : Int32} {x3 : Int32} {x4 : Int32} {h2 : aH} (ka0 : kC a0 = 0) (H : fX0_beginPaper h a0 x1 x2 x3 x4 = some h2) : Ev mX0_beginPaper [.ref a0, .int x1, .int x2, .int x3, .int x4] h none h2 := by
  unfold fX0_beginPaper at H
  refine Ev_of (sp := (0, fun _ => 0)) oX0_beginPaper nlX0 (Nat.le_of_ble_eq_true rfl) (ls0 := [.ref a0, .int x1, .int x2, .int x3, .int x4, .null]) rfl ?_
  refine R_iconst dX0_beginPaper_0 (v := 0) (by decide) ?_
  refine R_istoreW dX0_beginPaper_1 (by decide) rfl (ls2 := [.ref a0, .int x1, .int x2, .int x3, .int x4, .int 0]) rfl ?_
  refine tX0_beginPaper_L3 ka0 (fun h5 h2 H => ?_) _ _ _ _ H
  obtain rfl := Option.some.inj H
  exact R_ret (o := none) dX0_beginPaper_36 rfl

set_option maxRecDepth 100000 in
set_option maxHeartbeats 4000000 in
theorem tX0_beginAs_L7 {sp : Nat × (Nat → Int32)} {K : aH → Option aH} {a0 : Nat} {a1 : Nat} (ka0 : kC a0 = 0) (ka1 : kC a1 = 6) (hK : ∀ (hk : aH) (h2 : aH), K hk = some h2 → Rn sp mX0_beginAs 56 [.null, .null, .null] [] hk none h2) : ∀ (n : Nat) (h : aH) (x2 : Int32) (h2 : aH), fX0_beginAs_L7 K a0 a1 n h x2 = some h2 → Rn sp mX0_beginAs 7 [.ref a0, .ref a1, .int x2] [] h none h2 := by
  intro n
  induction n with
  | zero =>
    intro h x2 h2 H
    rw [fX0_beginAs_L7] at H
    cases H
  | succ n ih =>
    intro h x2 h2 H
    rw [fX0_beginAs_L7] at H
    refine R_iload_n dX0_beginAs_7 rfl rfl ?_
    refine R_iconst dX0_beginAs_8 (v := 4) (by decide) ?_
    rcases it_split H with ⟨c1, H⟩ | ⟨c1, H⟩
    · refine R_icmp_ge_t dX0_beginAs_9 (tgt := 56) (by decide) c1 ?_
      refine R_null (i := 0) (ls2 := [.null, .ref a1, .int x2]) rfl ?_
      refine R_null (i := 1) (ls2 := [.null, .null, .int x2]) rfl ?_
      refine R_null (i := 2) (ls2 := [.null, .null, .null]) rfl ?_
      exact hK _ _ H
    · refine R_icmp_ge_f dX0_beginAs_9 (tgt := 56) (by decide) c1 ?_
      refine R_aload_n dX0_beginAs_12 rfl rfl ?_
      refine R_getF dX0_beginAs_13 lfX0_9 ka0 rfl (q := a0 + 1) rfl ?_
      refine R_iload_n dX0_beginAs_16 rfl rfl ?_
      refine R_iconst dX0_beginAs_17 (v := 0) (by decide) ?_
      obtain ⟨c2, H⟩ := it_some H
      refine R_iastX dX0_beginAs_18 (kA_1 ka0) (nA_1 ka0) (ck_in c2) (j := tn x2) rfl ?_
      refine R_aload_n dX0_beginAs_19 rfl rfl ?_
      refine R_iload_n dX0_beginAs_20 rfl rfl ?_
      obtain ⟨r4, e3, H⟩ := bn_some H
      refine R_cV dX0_beginAs_21 lvX0_28 ⟨Nat.le_of_ble_eq_true rfl, Nat.le_of_ble_eq_true rfl⟩ (r := a1) ka1 (av := [.int x2]) (st := []) rfl rfl (Nat.le_of_ble_eq_true rfl) (tX6_hasPaper ka1 e3) ?_
      rcases it_split H with ⟨c5, H⟩ | ⟨c5, H⟩
      · refine R_if_eq_t dX0_beginAs_24 (tgt := 50) (by decide) c5 ?_
        refine R_iincW dX0_beginAs_50 rfl (v := x2 + 1) rfl (by decide) rfl (ls2 := [.ref a0, .ref a1, .int (x2 + 1)]) rfl ?_
        refine R_goto dX0_beginAs_53 (tgt := 7) (by decide) ?_
        exact ih _ _ _ H
      · refine R_if_eq_f dX0_beginAs_24 (tgt := 50) (by decide) c5 ?_
        refine R_aload_n dX0_beginAs_27 rfl rfl ?_
        refine R_iload_n dX0_beginAs_28 rfl rfl ?_
        refine R_aload_n dX0_beginAs_29 rfl rfl ?_
        refine R_getF dX0_beginAs_30 lfX0_34 ka1 rfl (q := a1 + 5) rfl ?_
        refine R_iload_n dX0_beginAs_33 rfl rfl ?_
        refine R_ildY dX0_beginAs_34 (kV_5 ka1) (nV_5 ka1) (ck_in c2) (j := tn x2) rfl (x := (aU h (a0 + 1) (tn x2) 0) (a1 + 5) (tn x2)) rfl ?_
        refine R_aload_n dX0_beginAs_35 rfl rfl ?_
        refine R_getF dX0_beginAs_36 lfX0_37 ka1 rfl (q := a1 + 6) rfl ?_
        refine R_iload_n dX0_beginAs_39 rfl rfl ?_
        refine R_ildY dX0_beginAs_40 (kV_6 ka1) (nV_6 ka1) (ck_in c2) (j := tn x2) rfl (x := (aU h (a0 + 1) (tn x2) 0) (a1 + 6) (tn x2)) rfl ?_
        refine R_aload_n dX0_beginAs_41 rfl rfl ?_
        refine R_getF dX0_beginAs_42 lfX0_40 ka1 rfl (q := a1 + 7) rfl ?_
        refine R_iload_n dX0_beginAs_45 rfl rfl ?_
        refine R_ildY dX0_beginAs_46 (kV_7 ka1) (nV_7 ka1) (ck_in c2) (j := tn x2) rfl (x := (aU h (a0 + 1) (tn x2) 0) (a1 + 7) (tn x2)) rfl ?_
        obtain ⟨h7, e6, H⟩ := bn_some H
        refine R_cV dX0_beginAs_47 lvX0_43 ⟨Nat.le_of_ble_eq_true rfl, Nat.le_of_ble_eq_true rfl⟩ (r := a0) ka0 (av := [.int x2, .int ((aU h (a0 + 1) (tn x2) 0) (a1 + 5) (tn x2)), .int ((aU h (a0 + 1) (tn x2) 0) (a1 + 6) (tn x2)), .int ((aU h (a0 + 1) (tn x2) 0) (a1 + 7) (tn x2))]) (st := []) rfl rfl (Nat.le_of_ble_eq_true rfl) (tX0_beginPaper ka0 e6) ?_
        refine R_iincW dX0_beginAs_50 rfl (v := x2 + 1) rfl (by decide) rfl (ls2 := [.ref a0, .ref a1, .int (x2 + 1)]) rfl ?_
        refine R_goto dX0_beginAs_53 (tgt := 7) (by decide) ?_
        exact ih _ _ _ H

set_option maxRecDepth 100000 in
set_option maxHeartbeats 4000000 in
theorem tX0_beginAs {h : aH} {a0 : Nat} {a1 : Nat} {h2 : aH} (ka0 : kC a0 = 0) (ka1 : kC a1 = 6) (H : fX0_beginAs h a0 a1 = some h2) : Ev mX0_beginAs [.ref a0, .ref a1] h none h2 := by
  unfold fX0_beginAs at H
  refine Ev_of (sp := (0, fun _ => 0)) oX0_beginAs nlX0 (Nat.le_of_ble_eq_true rfl) (ls0 := [.ref a0, .ref a1, .null]) rfl ?_
  refine R_aload_n dX0_beginAs_0 rfl rfl ?_
  refine R_iconst dX0_beginAs_1 (v := (-1)) (by decide) ?_
  refine R_putI dX0_beginAs_2 lfX0_24 ka0 rfl ?_
  refine R_iconst dX0_beginAs_5 (v := 0) (by decide) ?_
  refine R_istoreN dX0_beginAs_6 rfl (by decide) rfl (ls2 := [.ref a0, .ref a1, .int 0]) rfl ?_
  refine tX0_beginAs_L7 ka0 ka1 (fun h8 h2 H => ?_) _ _ _ _ H
  obtain rfl := Option.some.inj H
  exact R_ret (o := none) dX0_beginAs_56 rfl

set_option maxRecDepth 100000 in
set_option maxHeartbeats 4000000 in
theorem tX0_copyFrom {h : aH} {a0 : Nat} {a1 : Nat} {h2 : aH} (ka0 : kC a0 = 0) (ka1 : kC a1 = 0) (H : fX0_copyFrom h a0 a1 = some h2) : Ev mX0_copyFrom [.ref a0, .ref a1] h none h2 := by
  unfold fX0_copyFrom at H
  refine Ev_of (sp := (0, fun _ => 0)) oX0_copyFrom nlX0 (Nat.le_of_ble_eq_true rfl) (ls0 := [.ref a0, .ref a1]) rfl ?_
  refine R_aload_n dX0_copyFrom_0 rfl rfl ?_
  refine R_getF dX0_copyFrom_1 lfX0_9 ka1 rfl (q := a1 + 1) rfl ?_
  refine R_iconst dX0_copyFrom_4 (v := 0) (by decide) ?_
  refine R_aload_n dX0_copyFrom_5 rfl rfl ?_
  refine R_getF dX0_copyFrom_6 lfX0_9 ka0 rfl (q := a0 + 1) rfl ?_
  refine R_iconst dX0_copyFrom_9 (v := 0) (by decide) ?_
  refine R_iconst dX0_copyFrom_10 (v := 4) (by decide) ?_
  obtain ⟨h1, e2, H⟩ := bn_some H
  refine R_copyX dX0_copyFrom_11 lmX0_50 (kA_1 ka1) (kA_1 ka0) (nA_1 ka1) (nA_1 ka0) (n := 4) (m := 4) (by decide) (by decide) (by decide) (by decide) (by decide) (by decide) (Nat.le_of_ble_eq_true rfl) (hz := h1) (Option.some.inj e2) ?_
  refine R_aload_n dX0_copyFrom_14 rfl rfl ?_
  refine R_getF dX0_copyFrom_15 lfX0_15 ka1 rfl (q := a1 + 2) rfl ?_
  refine R_iconst dX0_copyFrom_18 (v := 0) (by decide) ?_
  refine R_aload_n dX0_copyFrom_19 rfl rfl ?_
  refine R_getF dX0_copyFrom_20 lfX0_15 ka0 rfl (q := a0 + 2) rfl ?_
  refine R_iconst dX0_copyFrom_23 (v := 0) (by decide) ?_
  refine R_bipush dX0_copyFrom_24 (v := 48) (by decide) ?_
  obtain ⟨h3, e4, H⟩ := bn_some H
  refine R_copyX dX0_copyFrom_26 lmX0_50 (kA_2 ka1) (kA_2 ka0) (nA_2 ka1) (nA_2 ka0) (n := 48) (m := 48) (by decide) (by decide) (by decide) (by decide) (by decide) (by decide) (Nat.le_of_ble_eq_true rfl) (hz := h3) (Option.some.inj e4) ?_
  refine R_aload_n dX0_copyFrom_29 rfl rfl ?_
  refine R_getF dX0_copyFrom_30 lfX0_18 ka1 rfl (q := a1 + 3) rfl ?_
  refine R_iconst dX0_copyFrom_33 (v := 0) (by decide) ?_
  refine R_aload_n dX0_copyFrom_34 rfl rfl ?_
  refine R_getF dX0_copyFrom_35 lfX0_18 ka0 rfl (q := a0 + 3) rfl ?_
  refine R_iconst dX0_copyFrom_38 (v := 0) (by decide) ?_
  refine R_bipush dX0_copyFrom_39 (v := 48) (by decide) ?_
  obtain ⟨h5, e6, H⟩ := bn_some H
  refine R_copyX dX0_copyFrom_41 lmX0_50 (kA_3 ka1) (kA_3 ka0) (nA_3 ka1) (nA_3 ka0) (n := 48) (m := 48) (by decide) (by decide) (by decide) (by decide) (by decide) (by decide) (Nat.le_of_ble_eq_true rfl) (hz := h5) (Option.some.inj e6) ?_
  refine R_aload_n dX0_copyFrom_44 rfl rfl ?_
  refine R_getF dX0_copyFrom_45 lfX0_21 ka1 rfl (q := a1 + 4) rfl ?_
  refine R_iconst dX0_copyFrom_48 (v := 0) (by decide) ?_
  refine R_aload_n dX0_copyFrom_49 rfl rfl ?_
  refine R_getF dX0_copyFrom_50 lfX0_21 ka0 rfl (q := a0 + 4) rfl ?_
  refine R_iconst dX0_copyFrom_53 (v := 0) (by decide) ?_
  refine R_bipush dX0_copyFrom_54 (v := 48) (by decide) ?_
  obtain ⟨h7, e8, H⟩ := bn_some H
  refine R_copyX dX0_copyFrom_56 lmX0_50 (kA_4 ka1) (kA_4 ka0) (nA_4 ka1) (nA_4 ka0) (n := 48) (m := 48) (by decide) (by decide) (by decide) (by decide) (by decide) (by decide) (Nat.le_of_ble_eq_true rfl) (hz := h7) (Option.some.inj e8) ?_
  refine R_aload_n dX0_copyFrom_59 rfl rfl ?_
  refine R_aload_n dX0_copyFrom_60 rfl rfl ?_
  refine R_getX dX0_copyFrom_61 lfX0_24 ka1 rfl (x := h7 a1 4) rfl ?_
  refine R_putI dX0_copyFrom_64 lfX0_24 ka0 rfl ?_
  refine R_aload_n dX0_copyFrom_67 rfl rfl ?_
  refine R_aload_n dX0_copyFrom_68 rfl rfl ?_
  refine R_getX dX0_copyFrom_69 lfX0_56 ka1 rfl (x := (aU h7 a0 4 (h7 a1 4)) a1 5) rfl ?_
  refine R_putI dX0_copyFrom_72 lfX0_56 ka0 rfl ?_
  obtain rfl := Option.some.inj H
  exact R_ret (o := none) dX0_copyFrom_75 rfl

set_option maxRecDepth 100000 in
set_option maxHeartbeats 4000000 in
theorem tX0_countOf {h : aH} {a0 : Nat} {x1 : Int32} {r : Int32} (ka0 : kC a0 = 0) (H : fX0_countOf h a0 x1 = some r) : Ev mX0_countOf [.ref a0, .int x1] h (some (.int r)) h := by
  unfold fX0_countOf at H
  refine Ev_of (sp := (0, fun _ => 0)) oX0_countOf nlX0 (Nat.le_of_ble_eq_true rfl) (ls0 := [.ref a0, .int x1]) rfl ?_
  refine R_iload_n dX0_countOf_0 rfl rfl ?_
  rcases it_split H with ⟨c1, H⟩ | ⟨c1, H⟩
  · refine R_if_lt_t dX0_countOf_1 (tgt := 18) (by decide) c1 ?_
    refine R_iconst dX0_countOf_18 (v := 0) (by decide) ?_
    obtain rfl := Option.some.inj H
    exact R_retI dX0_countOf_19 rfl (Or.inl rfl)
  · refine R_if_lt_f dX0_countOf_1 (tgt := 18) (by decide) c1 ?_
    refine R_iload_n dX0_countOf_4 rfl rfl ?_
    refine R_iconst dX0_countOf_5 (v := 4) (by decide) ?_
    rcases it_split H with ⟨c2, H⟩ | ⟨c2, H⟩
    · refine R_icmp_ge_t dX0_countOf_6 (tgt := 18) (by decide) c2 ?_
      refine R_iconst dX0_countOf_18 (v := 0) (by decide) ?_
      obtain rfl := Option.some.inj H
      exact R_retI dX0_countOf_19 rfl (Or.inl rfl)
    · refine R_icmp_ge_f dX0_countOf_6 (tgt := 18) (by decide) c2 ?_
      refine R_aload_n dX0_countOf_9 rfl rfl ?_
      refine R_getF dX0_countOf_10 lfX0_9 ka0 rfl (q := a0 + 1) rfl ?_
      refine R_iload_n dX0_countOf_13 rfl rfl ?_
      obtain ⟨c3, H⟩ := it_some H
      refine R_ildY dX0_countOf_14 (kA_1 ka0) (nA_1 ka0) (ck_in c3) (j := tn x1) rfl (x := h (a0 + 1) (tn x1)) rfl ?_
      refine R_goto dX0_countOf_15 (tgt := 19) (by decide) ?_
      obtain rfl := Option.some.inj H
      exact R_retI dX0_countOf_19 rfl (Or.inl rfl)

set_option maxRecDepth 100000 in
set_option maxHeartbeats 4000000 in
theorem tX0_countAll_L4 {sp : Nat × (Nat → Int32)} {K : Int32 → Option Int32} {h : aH} {a0 : Nat} (ka0 : kC a0 = 0) (hK : ∀ (y1 : Int32) (r : Int32), K y1 = some r → Rn sp mX0_countAll 24 [.null, .int y1, .null] [] h (some (.int r)) h) : ∀ (n : Nat) (x1 x2 : Int32) (r : Int32), fX0_countAll_L4 K h a0 n x1 x2 = some r → Rn sp mX0_countAll 4 [.ref a0, .int x1, .int x2] [] h (some (.int r)) h := by
  intro n
  induction n with
  | zero =>
    intro x1 x2 r H
    rw [fX0_countAll_L4] at H
    cases H
  | succ n ih =>
    intro x1 x2 r H
    rw [fX0_countAll_L4] at H
    refine R_iload_n dX0_countAll_4 rfl rfl ?_
    refine R_iconst dX0_countAll_5 (v := 4) (by decide) ?_
    rcases it_split H with ⟨c1, H⟩ | ⟨c1, H⟩
    · refine R_icmp_ge_t dX0_countAll_6 (tgt := 24) (by decide) c1 ?_
      refine R_null (i := 0) (ls2 := [.null, .int x1, .int x2]) rfl ?_
      refine R_null (i := 2) (ls2 := [.null, .int x1, .null]) rfl ?_
      exact hK _ _ H
    · refine R_icmp_ge_f dX0_countAll_6 (tgt := 24) (by decide) c1 ?_
      refine R_iload_n dX0_countAll_9 rfl rfl ?_
      refine R_aload_n dX0_countAll_10 rfl rfl ?_
      refine R_getF dX0_countAll_11 lfX0_9 ka0 rfl (q := a0 + 1) rfl ?_
      refine R_iload_n dX0_countAll_14 rfl rfl ?_
      obtain ⟨c2, H⟩ := it_some H
      refine R_ildY dX0_countAll_15 (kA_1 ka0) (nA_1 ka0) (ck_in c2) (j := tn x2) rfl (x := h (a0 + 1) (tn x2)) rfl ?_
      refine R_iadd dX0_countAll_16 ?_
      refine R_istoreN dX0_countAll_17 rfl (by decide) rfl (ls2 := [.ref a0, .int (x1 + (h (a0 + 1) (tn x2))), .int x2]) rfl ?_
      refine R_iincW dX0_countAll_18 rfl (v := x2 + 1) rfl (by decide) rfl (ls2 := [.ref a0, .int (x1 + (h (a0 + 1) (tn x2))), .int (x2 + 1)]) rfl ?_
      refine R_goto dX0_countAll_21 (tgt := 4) (by decide) ?_
      exact ih _ _ _ H

set_option maxRecDepth 100000 in
set_option maxHeartbeats 4000000 in
theorem tX0_countAll {h : aH} {a0 : Nat} {r : Int32} (ka0 : kC a0 = 0) (H : fX0_countAll h a0 = some r) : Ev mX0_countAll [.ref a0] h (some (.int r)) h := by
  unfold fX0_countAll at H
  refine Ev_of (sp := (0, fun _ => 0)) oX0_countAll nlX0 (Nat.le_of_ble_eq_true rfl) (ls0 := [.ref a0, .null, .null]) rfl ?_
  refine R_iconst dX0_countAll_0 (v := 0) (by decide) ?_
  refine R_istoreN dX0_countAll_1 rfl (by decide) rfl (ls2 := [.ref a0, .int 0, .null]) rfl ?_
  refine R_iconst dX0_countAll_2 (v := 0) (by decide) ?_
  refine R_istoreN dX0_countAll_3 rfl (by decide) rfl (ls2 := [.ref a0, .int 0, .int 0]) rfl ?_
  refine tX0_countAll_L4 ka0 (fun z3 r H => ?_) _ _ _ _ H
  refine R_iload_n dX0_countAll_24 rfl rfl ?_
  obtain rfl := Option.some.inj H
  exact R_retI dX0_countAll_25 rfl (Or.inl rfl)

set_option maxRecDepth 100000 in
set_option maxHeartbeats 4000000 in
theorem tX0_hasLetter {h : aH} {a0 : Nat} {x1 : Int32} {x2 : Int32} {r : Bool} (ka0 : kC a0 = 0) (H : fX0_hasLetter h a0 x1 x2 = some r) : Ev mX0_hasLetter [.ref a0, .int x1, .int x2] h (some (.int (bi r))) h := by
  unfold fX0_hasLetter at H
  refine Ev_of (sp := (0, fun _ => 0)) oX0_hasLetter nlX0 (Nat.le_of_ble_eq_true rfl) (ls0 := [.ref a0, .int x1, .int x2]) rfl ?_
  refine R_iload_n dX0_hasLetter_0 rfl rfl ?_
  rcases it_split H with ⟨c1, H⟩ | ⟨c1, H⟩
  · refine R_if_lt_t dX0_hasLetter_1 (tgt := 33) (by decide) c1 ?_
    refine R_iconst dX0_hasLetter_33 (v := 0) (by decide) ?_
    obtain rfl := Option.some.inj H
    exact R_retI dX0_hasLetter_34 rfl (Or.inr ⟨rfl, bi_01 _⟩)
  · refine R_if_lt_f dX0_hasLetter_1 (tgt := 33) (by decide) c1 ?_
    refine R_iload_n dX0_hasLetter_4 rfl rfl ?_
    refine R_iconst dX0_hasLetter_5 (v := 4) (by decide) ?_
    rcases it_split H with ⟨c2, H⟩ | ⟨c2, H⟩
    · refine R_icmp_ge_t dX0_hasLetter_6 (tgt := 33) (by decide) c2 ?_
      refine R_iconst dX0_hasLetter_33 (v := 0) (by decide) ?_
      obtain rfl := Option.some.inj H
      exact R_retI dX0_hasLetter_34 rfl (Or.inr ⟨rfl, bi_01 _⟩)
    · refine R_icmp_ge_f dX0_hasLetter_6 (tgt := 33) (by decide) c2 ?_
      refine R_iload_n dX0_hasLetter_9 rfl rfl ?_
      rcases it_split H with ⟨c3, H⟩ | ⟨c3, H⟩
      · refine R_if_lt_t dX0_hasLetter_10 (tgt := 33) (by decide) c3 ?_
        refine R_iconst dX0_hasLetter_33 (v := 0) (by decide) ?_
        obtain rfl := Option.some.inj H
        exact R_retI dX0_hasLetter_34 rfl (Or.inr ⟨rfl, bi_01 _⟩)
      · refine R_if_lt_f dX0_hasLetter_10 (tgt := 33) (by decide) c3 ?_
        refine R_iload_n dX0_hasLetter_13 rfl rfl ?_
        refine R_bipush dX0_hasLetter_14 (v := 12) (by decide) ?_
        rcases it_split H with ⟨c4, H⟩ | ⟨c4, H⟩
        · refine R_icmp_ge_t dX0_hasLetter_16 (tgt := 33) (by decide) c4 ?_
          refine R_iconst dX0_hasLetter_33 (v := 0) (by decide) ?_
          obtain rfl := Option.some.inj H
          exact R_retI dX0_hasLetter_34 rfl (Or.inr ⟨rfl, bi_01 _⟩)
        · refine R_icmp_ge_f dX0_hasLetter_16 (tgt := 33) (by decide) c4 ?_
          refine R_iload_n dX0_hasLetter_19 rfl rfl ?_
          refine R_aload_n dX0_hasLetter_20 rfl rfl ?_
          refine R_getF dX0_hasLetter_21 lfX0_9 ka0 rfl (q := a0 + 1) rfl ?_
          refine R_iload_n dX0_hasLetter_24 rfl rfl ?_
          obtain ⟨c5, H⟩ := it_some H
          refine R_ildY dX0_hasLetter_25 (kA_1 ka0) (nA_1 ka0) (ck_in c5) (j := tn x1) rfl (x := h (a0 + 1) (tn x1)) rfl ?_
          rcases it_split H with ⟨c6, H⟩ | ⟨c6, H⟩
          · refine R_icmp_ge_t dX0_hasLetter_26 (tgt := 33) (by decide) c6 ?_
            refine R_iconst dX0_hasLetter_33 (v := 0) (by decide) ?_
            obtain rfl := Option.some.inj H
            exact R_retI dX0_hasLetter_34 rfl (Or.inr ⟨rfl, bi_01 _⟩)
          · refine R_icmp_ge_f dX0_hasLetter_26 (tgt := 33) (by decide) c6 ?_
            refine R_iconst dX0_hasLetter_29 (v := 1) (by decide) ?_
            refine R_goto dX0_hasLetter_30 (tgt := 34) (by decide) ?_
            obtain rfl := Option.some.inj H
            exact R_retI dX0_hasLetter_34 rfl (Or.inr ⟨rfl, bi_01 _⟩)

set_option maxRecDepth 100000 in
set_option maxHeartbeats 4000000 in
theorem tX0_airOf {h : aH} {a0 : Nat} {x1 : Int32} {x2 : Int32} {r : Int32} (ka0 : kC a0 = 0) (H : fX0_airOf h a0 x1 x2 = some r) : Ev mX0_airOf [.ref a0, .int x1, .int x2] h (some (.int r)) h := by
  unfold fX0_airOf at H
  refine Ev_of (sp := (0, fun _ => 0)) oX0_airOf nlX0 (Nat.le_of_ble_eq_true rfl) (ls0 := [.ref a0, .int x1, .int x2]) rfl ?_
  refine R_aload_n dX0_airOf_0 rfl rfl ?_
  refine R_iload_n dX0_airOf_1 rfl rfl ?_
  refine R_iload_n dX0_airOf_2 rfl rfl ?_
  obtain ⟨r2, e1, H⟩ := bn_some H
  refine R_cV dX0_airOf_3 lvX0_67 ⟨Nat.le_of_ble_eq_true rfl, Nat.le_of_ble_eq_true rfl⟩ (r := a0) ka0 (av := [.int x1, .int x2]) (st := []) rfl rfl (Nat.le_of_ble_eq_true rfl) (tX0_hasLetter ka0 e1) ?_
  rcases it_split H with ⟨c3, H⟩ | ⟨c3, H⟩
  · refine R_if_eq_t dX0_airOf_6 (tgt := 23) (by decide) c3 ?_
    refine R_iconst dX0_airOf_23 (v := (-1)) (by decide) ?_
    obtain rfl := Option.some.inj H
    exact R_retI dX0_airOf_24 rfl (Or.inl rfl)
  · refine R_if_eq_f dX0_airOf_6 (tgt := 23) (by decide) c3 ?_
    refine R_aload_n dX0_airOf_9 rfl rfl ?_
    refine R_getF dX0_airOf_10 lfX0_21 ka0 rfl (q := a0 + 4) rfl ?_
    refine R_iload_n dX0_airOf_13 rfl rfl ?_
    refine R_bipush dX0_airOf_14 (v := 12) (by decide) ?_
    refine R_imul dX0_airOf_16 ?_
    refine R_iload_n dX0_airOf_17 rfl rfl ?_
    refine R_iadd dX0_airOf_18 ?_
    obtain ⟨c4, H⟩ := it_some H
    refine R_ildY dX0_airOf_19 (kA_4 ka0) (nA_4 ka0) (ck_in c4) (j := tn ((x1 * 12) + x2)) rfl (x := h (a0 + 4) (tn ((x1 * 12) + x2))) rfl ?_
    refine R_goto dX0_airOf_20 (tgt := 24) (by decide) ?_
    obtain rfl := Option.some.inj H
    exact R_retI dX0_airOf_24 rfl (Or.inl rfl)

set_option maxRecDepth 100000 in
set_option maxHeartbeats 4000000 in
theorem tX0_isForged {h : aH} {a0 : Nat} {x1 : Int32} {x2 : Int32} {r : Bool} (ka0 : kC a0 = 0) (H : fX0_isForged h a0 x1 x2 = some r) : Ev mX0_isForged [.ref a0, .int x1, .int x2] h (some (.int (bi r))) h := by
  unfold fX0_isForged at H
  refine Ev_of (sp := (0, fun _ => 0)) oX0_isForged nlX0 (Nat.le_of_ble_eq_true rfl) (ls0 := [.ref a0, .int x1, .int x2]) rfl ?_
  refine R_aload_n dX0_isForged_0 rfl rfl ?_
  refine R_iload_n dX0_isForged_1 rfl rfl ?_
  refine R_iload_n dX0_isForged_2 rfl rfl ?_
  obtain ⟨r2, e1, H⟩ := bn_some H
  refine R_cV dX0_isForged_3 lvX0_70 ⟨Nat.le_of_ble_eq_true rfl, Nat.le_of_ble_eq_true rfl⟩ (r := a0) ka0 (av := [.int x1, .int x2]) (st := []) rfl rfl (Nat.le_of_ble_eq_true rfl) (tX0_airOf ka0 e1) ?_
  refine R_iconst dX0_isForged_6 (v := (-1)) (by decide) ?_
  rcases it_split H with ⟨c3, H⟩ | ⟨c3, H⟩
  · refine R_icmp_eq_t dX0_isForged_7 (tgt := 14) (by decide) c3 ?_
    refine R_iconst dX0_isForged_14 (v := 0) (by decide) ?_
    obtain rfl := Option.some.inj H
    exact R_retI dX0_isForged_15 rfl (Or.inr ⟨rfl, bi_01 _⟩)
  · refine R_icmp_eq_f dX0_isForged_7 (tgt := 14) (by decide) c3 ?_
    refine R_iconst dX0_isForged_10 (v := 1) (by decide) ?_
    refine R_goto dX0_isForged_11 (tgt := 15) (by decide) ?_
    obtain rfl := Option.some.inj H
    exact R_retI dX0_isForged_15 rfl (Or.inr ⟨rfl, bi_01 _⟩)

set_option maxRecDepth 100000 in
set_option maxHeartbeats 4000000 in
theorem tX0_countForged_L11 {sp : Nat × (Nat → Int32)} {K : Int32 → Option Int32} {h : aH} {a0 : Nat} {x1 : Int32} {x2 : Int32} (ka0 : kC a0 = 0) (hK : ∀ (y3 : Int32) (r : Int32), K y3 = some r → Rn sp mX0_countForged 36 [.null, .null, .null, .int y3, .null] [] h (some (.int r)) h) : ∀ (n : Nat) (x3 x4 : Int32) (r : Int32), fX0_countForged_L11 K h a0 x1 x2 n x3 x4 = some r → Rn sp mX0_countForged 11 [.ref a0, .int x1, .int x2, .int x3, .int x4] [] h (some (.int r)) h := by
  intro n
  induction n with
  | zero =>
    intro x3 x4 r H
    rw [fX0_countForged_L11] at H
    cases H
  | succ n ih =>
    intro x3 x4 r H
    rw [fX0_countForged_L11] at H
    refine R_iload dX0_countForged_11 rfl ?_
    refine R_iload_n dX0_countForged_13 rfl rfl ?_
    rcases it_split H with ⟨c3, H⟩ | ⟨c3, H⟩
    · refine R_icmp_ge_t dX0_countForged_14 (tgt := 36) (by decide) c3 ?_
      refine R_null (i := 0) (ls2 := [.null, .int x1, .int x2, .int x3, .int x4]) rfl ?_
      refine R_null (i := 1) (ls2 := [.null, .null, .int x2, .int x3, .int x4]) rfl ?_
      refine R_null (i := 2) (ls2 := [.null, .null, .null, .int x3, .int x4]) rfl ?_
      refine R_null (i := 4) (ls2 := [.null, .null, .null, .int x3, .null]) rfl ?_
      exact hK _ _ H
    · refine R_icmp_ge_f dX0_countForged_14 (tgt := 36) (by decide) c3 ?_
      refine R_aload_n dX0_countForged_17 rfl rfl ?_
      refine R_iload_n dX0_countForged_18 rfl rfl ?_
      refine R_iload dX0_countForged_19 rfl ?_
      obtain ⟨r5, e4, H⟩ := bn_some H
      refine R_cV dX0_countForged_21 lvX0_63 ⟨Nat.le_of_ble_eq_true rfl, Nat.le_of_ble_eq_true rfl⟩ (r := a0) ka0 (av := [.int x1, .int x4]) (st := []) rfl rfl (Nat.le_of_ble_eq_true rfl) (tX0_isForged ka0 e4) ?_
      rcases it_split H with ⟨c6, H⟩ | ⟨c6, H⟩
      · refine R_if_eq_t dX0_countForged_24 (tgt := 30) (by decide) c6 ?_
        refine R_iincW dX0_countForged_30 rfl (v := x4 + 1) rfl (by decide) rfl (ls2 := [.ref a0, .int x1, .int x2, .int x3, .int (x4 + 1)]) rfl ?_
        refine R_goto dX0_countForged_33 (tgt := 11) (by decide) ?_
        exact ih _ _ _ H
      · refine R_if_eq_f dX0_countForged_24 (tgt := 30) (by decide) c6 ?_
        refine R_iincW dX0_countForged_27 rfl (v := x3 + 1) rfl (by decide) rfl (ls2 := [.ref a0, .int x1, .int x2, .int (x3 + 1), .int x4]) rfl ?_
        refine R_iincW dX0_countForged_30 rfl (v := x4 + 1) rfl (by decide) rfl (ls2 := [.ref a0, .int x1, .int x2, .int (x3 + 1), .int (x4 + 1)]) rfl ?_
        refine R_goto dX0_countForged_33 (tgt := 11) (by decide) ?_
        exact ih _ _ _ H

set_option maxRecDepth 100000 in
set_option maxHeartbeats 4000000 in
theorem tX0_countForged {h : aH} {a0 : Nat} {x1 : Int32} {r : Int32} (ka0 : kC a0 = 0) (H : fX0_countForged h a0 x1 = some r) : Ev mX0_countForged [.ref a0, .int x1] h (some (.int r)) h := by
  unfold fX0_countForged at H
  refine Ev_of (sp := (0, fun _ => 0)) oX0_countForged nlX0 (Nat.le_of_ble_eq_true rfl) (ls0 := [.ref a0, .int x1, .null, .null, .null]) rfl ?_
  refine R_aload_n dX0_countForged_0 rfl rfl ?_
  refine R_iload_n dX0_countForged_1 rfl rfl ?_
  obtain ⟨r2, e1, H⟩ := bn_some H
  refine R_cV dX0_countForged_2 lvX0_59 ⟨Nat.le_of_ble_eq_true rfl, Nat.le_of_ble_eq_true rfl⟩ (r := a0) ka0 (av := [.int x1]) (st := []) rfl rfl (Nat.le_of_ble_eq_true rfl) (tX0_countOf ka0 e1) ?_
  refine R_istoreN dX0_countForged_5 rfl (by decide) rfl (ls2 := [.ref a0, .int x1, .int r2, .null, .null]) rfl ?_
  refine R_iconst dX0_countForged_6 (v := 0) (by decide) ?_
  refine R_istoreN dX0_countForged_7 rfl (by decide) rfl (ls2 := [.ref a0, .int x1, .int r2, .int 0, .null]) rfl ?_
  refine R_iconst dX0_countForged_8 (v := 0) (by decide) ?_
  refine R_istoreW dX0_countForged_9 (by decide) rfl (ls2 := [.ref a0, .int x1, .int r2, .int 0, .int 0]) rfl ?_
  refine tX0_countForged_L11 ka0 (fun z7 r H => ?_) _ _ _ _ H
  refine R_iload_n dX0_countForged_36 rfl rfl ?_
  obtain rfl := Option.some.inj H
  exact R_retI dX0_countForged_37 rfl (Or.inl rfl)

set_option maxRecDepth 100000 in
set_option maxHeartbeats 4000000 in
theorem tX0_isFull {h : aH} {a0 : Nat} {x1 : Int32} {r : Bool} (ka0 : kC a0 = 0) (H : fX0_isFull h a0 x1 = some r) : Ev mX0_isFull [.ref a0, .int x1] h (some (.int (bi r))) h := by
  unfold fX0_isFull at H
  refine Ev_of (sp := (0, fun _ => 0)) oX0_isFull nlX0 (Nat.le_of_ble_eq_true rfl) (ls0 := [.ref a0, .int x1]) rfl ?_
  refine R_aload_n dX0_isFull_0 rfl rfl ?_
  refine R_iload_n dX0_isFull_1 rfl rfl ?_
  obtain ⟨r2, e1, H⟩ := bn_some H
  refine R_cV dX0_isFull_2 lvX0_59 ⟨Nat.le_of_ble_eq_true rfl, Nat.le_of_ble_eq_true rfl⟩ (r := a0) ka0 (av := [.int x1]) (st := []) rfl rfl (Nat.le_of_ble_eq_true rfl) (tX0_countOf ka0 e1) ?_
  refine R_bipush dX0_isFull_5 (v := 12) (by decide) ?_
  rcases it_split H with ⟨c3, H⟩ | ⟨c3, H⟩
  · refine R_icmp_lt_t dX0_isFull_7 (tgt := 14) (by decide) c3 ?_
    refine R_iconst dX0_isFull_14 (v := 0) (by decide) ?_
    obtain rfl := Option.some.inj H
    exact R_retI dX0_isFull_15 rfl (Or.inr ⟨rfl, bi_01 _⟩)
  · refine R_icmp_lt_f dX0_isFull_7 (tgt := 14) (by decide) c3 ?_
    refine R_iconst dX0_isFull_10 (v := 1) (by decide) ?_
    refine R_goto dX0_isFull_11 (tgt := 15) (by decide) ?_
    obtain rfl := Option.some.inj H
    exact R_retI dX0_isFull_15 rfl (Or.inr ⟨rfl, bi_01 _⟩)

set_option maxRecDepth 100000 in
set_option maxHeartbeats 4000000 in
theorem tX0_hourOf {h : aH} {a0 : Nat} {x1 : Int32} {x2 : Int32} {r : Int32} (ka0 : kC a0 = 0) (H : fX0_hourOf h a0 x1 x2 = some r) : Ev mX0_hourOf [.ref a0, .int x1, .int x2] h (some (.int r)) h := by
  unfold fX0_hourOf at H
  refine Ev_of (sp := (0, fun _ => 0)) oX0_hourOf nlX0 (Nat.le_of_ble_eq_true rfl) (ls0 := [.ref a0, .int x1, .int x2]) rfl ?_
  refine R_aload_n dX0_hourOf_0 rfl rfl ?_
  refine R_iload_n dX0_hourOf_1 rfl rfl ?_
  refine R_iload_n dX0_hourOf_2 rfl rfl ?_
  obtain ⟨r2, e1, H⟩ := bn_some H
  refine R_cV dX0_hourOf_3 lvX0_67 ⟨Nat.le_of_ble_eq_true rfl, Nat.le_of_ble_eq_true rfl⟩ (r := a0) ka0 (av := [.int x1, .int x2]) (st := []) rfl rfl (Nat.le_of_ble_eq_true rfl) (tX0_hasLetter ka0 e1) ?_
  rcases it_split H with ⟨c3, H⟩ | ⟨c3, H⟩
  · refine R_if_eq_t dX0_hourOf_6 (tgt := 23) (by decide) c3 ?_
    refine R_iconst dX0_hourOf_23 (v := (-1)) (by decide) ?_
    obtain rfl := Option.some.inj H
    exact R_retI dX0_hourOf_24 rfl (Or.inl rfl)
  · refine R_if_eq_f dX0_hourOf_6 (tgt := 23) (by decide) c3 ?_
    refine R_aload_n dX0_hourOf_9 rfl rfl ?_
    refine R_getF dX0_hourOf_10 lfX0_15 ka0 rfl (q := a0 + 2) rfl ?_
    refine R_iload_n dX0_hourOf_13 rfl rfl ?_
    refine R_bipush dX0_hourOf_14 (v := 12) (by decide) ?_
    refine R_imul dX0_hourOf_16 ?_
    refine R_iload_n dX0_hourOf_17 rfl rfl ?_
    refine R_iadd dX0_hourOf_18 ?_
    obtain ⟨c4, H⟩ := it_some H
    refine R_ildY dX0_hourOf_19 (kA_2 ka0) (nA_2 ka0) (ck_in c4) (j := tn ((x1 * 12) + x2)) rfl (x := h (a0 + 2) (tn ((x1 * 12) + x2))) rfl ?_
    refine R_goto dX0_hourOf_20 (tgt := 24) (by decide) ?_
    obtain rfl := Option.some.inj H
    exact R_retI dX0_hourOf_24 rfl (Or.inl rfl)

set_option maxRecDepth 100000 in
set_option maxHeartbeats 4000000 in
theorem tX0_writerOf {h : aH} {a0 : Nat} {x1 : Int32} {x2 : Int32} {r : Int32} (ka0 : kC a0 = 0) (H : fX0_writerOf h a0 x1 x2 = some r) : Ev mX0_writerOf [.ref a0, .int x1, .int x2] h (some (.int r)) h := by
  unfold fX0_writerOf at H
  refine Ev_of (sp := (0, fun _ => 0)) oX0_writerOf nlX0 (Nat.le_of_ble_eq_true rfl) (ls0 := [.ref a0, .int x1, .int x2]) rfl ?_
  refine R_aload_n dX0_writerOf_0 rfl rfl ?_
  refine R_iload_n dX0_writerOf_1 rfl rfl ?_
  refine R_iload_n dX0_writerOf_2 rfl rfl ?_
  obtain ⟨r2, e1, H⟩ := bn_some H
  refine R_cV dX0_writerOf_3 lvX0_67 ⟨Nat.le_of_ble_eq_true rfl, Nat.le_of_ble_eq_true rfl⟩ (r := a0) ka0 (av := [.int x1, .int x2]) (st := []) rfl rfl (Nat.le_of_ble_eq_true rfl) (tX0_hasLetter ka0 e1) ?_
  rcases it_split H with ⟨c3, H⟩ | ⟨c3, H⟩
  · refine R_if_eq_t dX0_writerOf_6 (tgt := 23) (by decide) c3 ?_
    refine R_iconst dX0_writerOf_23 (v := (-1)) (by decide) ?_
    obtain rfl := Option.some.inj H
    exact R_retI dX0_writerOf_24 rfl (Or.inl rfl)
  · refine R_if_eq_f dX0_writerOf_6 (tgt := 23) (by decide) c3 ?_
    refine R_aload_n dX0_writerOf_9 rfl rfl ?_
    refine R_getF dX0_writerOf_10 lfX0_18 ka0 rfl (q := a0 + 3) rfl ?_
    refine R_iload_n dX0_writerOf_13 rfl rfl ?_
    refine R_bipush dX0_writerOf_14 (v := 12) (by decide) ?_
    refine R_imul dX0_writerOf_16 ?_
    refine R_iload_n dX0_writerOf_17 rfl rfl ?_
    refine R_iadd dX0_writerOf_18 ?_
    obtain ⟨c4, H⟩ := it_some H
    refine R_ildY dX0_writerOf_19 (kA_3 ka0) (nA_3 ka0) (ck_in c4) (j := tn ((x1 * 12) + x2)) rfl (x := h (a0 + 3) (tn ((x1 * 12) + x2))) rfl ?_
    refine R_goto dX0_writerOf_20 (tgt := 24) (by decide) ?_
    obtain rfl := Option.some.inj H
    exact R_retI dX0_writerOf_24 rfl (Or.inl rfl)

set_option maxRecDepth 100000 in
set_option maxHeartbeats 4000000 in
theorem tX6_hasHand {h : aH} {a0 : Nat} {x1 : Int32} {r : Bool} (ka0 : kC a0 = 6) (H : fX6_hasHand h a0 x1 = some r) : Ev mX6_hasHand [.ref a0, .int x1] h (some (.int (bi r))) h := by
  unfold fX6_hasHand at H
  refine Ev_of (sp := (0, fun _ => 0)) oX6_hasHand nlX6 (Nat.le_of_ble_eq_true rfl) (ls0 := [.ref a0, .int x1]) rfl ?_
  refine R_iload_n dX6_hasHand_0 rfl rfl ?_
  rcases it_split H with ⟨c1, H⟩ | ⟨c1, H⟩
  · refine R_if_lt_t dX6_hasHand_1 (tgt := 16) (by decide) c1 ?_
    refine R_iconst dX6_hasHand_16 (v := 0) (by decide) ?_
    obtain rfl := Option.some.inj H
    exact R_retI dX6_hasHand_17 rfl (Or.inr ⟨rfl, bi_01 _⟩)
  · refine R_if_lt_f dX6_hasHand_1 (tgt := 16) (by decide) c1 ?_
    refine R_iload_n dX6_hasHand_4 rfl rfl ?_
    refine R_aload_n dX6_hasHand_5 rfl rfl ?_
    refine R_getX dX6_hasHand_6 lfX6_53 ka0 rfl (x := h a0 5) rfl ?_
    rcases it_split H with ⟨c2, H⟩ | ⟨c2, H⟩
    · refine R_icmp_ge_t dX6_hasHand_9 (tgt := 16) (by decide) c2 ?_
      refine R_iconst dX6_hasHand_16 (v := 0) (by decide) ?_
      obtain rfl := Option.some.inj H
      exact R_retI dX6_hasHand_17 rfl (Or.inr ⟨rfl, bi_01 _⟩)
    · refine R_icmp_ge_f dX6_hasHand_9 (tgt := 16) (by decide) c2 ?_
      refine R_iconst dX6_hasHand_12 (v := 1) (by decide) ?_
      refine R_goto dX6_hasHand_13 (tgt := 17) (by decide) ?_
      obtain rfl := Option.some.inj H
      exact R_retI dX6_hasHand_17 rfl (Or.inr ⟨rfl, bi_01 _⟩)

set_option maxRecDepth 100000 in
set_option maxHeartbeats 4000000 in
theorem tX7_isHour {h : aH} {x0 : Int32} {r : Bool} (H : fX7_isHour x0 = some r) : Ev mX7_isHour [.int x0] h (some (.int (bi r))) h := by
  unfold fX7_isHour at H
  refine Ev_of (sp := (0, fun _ => 0)) oX7_isHour nlX7 (Nat.le_of_ble_eq_true rfl) (ls0 := [.int x0]) rfl ?_
  refine R_iload_n dX7_isHour_0 rfl rfl ?_
  rcases it_split H with ⟨c1, H⟩ | ⟨c1, H⟩
  · refine R_if_lt_t dX7_isHour_1 (tgt := 14) (by decide) c1 ?_
    refine R_iconst dX7_isHour_14 (v := 0) (by decide) ?_
    obtain rfl := Option.some.inj H
    exact R_retI dX7_isHour_15 rfl (Or.inr ⟨rfl, bi_01 _⟩)
  · refine R_if_lt_f dX7_isHour_1 (tgt := 14) (by decide) c1 ?_
    refine R_iload_n dX7_isHour_4 rfl rfl ?_
    refine R_bipush dX7_isHour_5 (v := 96) (by decide) ?_
    rcases it_split H with ⟨c2, H⟩ | ⟨c2, H⟩
    · refine R_icmp_ge_t dX7_isHour_7 (tgt := 14) (by decide) c2 ?_
      refine R_iconst dX7_isHour_14 (v := 0) (by decide) ?_
      obtain rfl := Option.some.inj H
      exact R_retI dX7_isHour_15 rfl (Or.inr ⟨rfl, bi_01 _⟩)
    · refine R_icmp_ge_f dX7_isHour_7 (tgt := 14) (by decide) c2 ?_
      refine R_iconst dX7_isHour_10 (v := 1) (by decide) ?_
      refine R_goto dX7_isHour_11 (tgt := 15) (by decide) ?_
      obtain rfl := Option.some.inj H
      exact R_retI dX7_isHour_15 rfl (Or.inr ⟨rfl, bi_01 _⟩)

set_option maxRecDepth 100000 in
set_option maxHeartbeats 4000000 in
theorem tX6_lookAt {h : aH} {a0 : Nat} {x1 : Int32} {x2 : Int32} {r : Int32} (ka0 : kC a0 = 6) (H : fX6_lookAt h a0 x1 x2 = some r) : Ev mX6_lookAt [.ref a0, .int x1, .int x2] h (some (.int r)) h := by
  unfold fX6_lookAt at H
  refine Ev_of (sp := (0, fun _ => 0)) oX6_lookAt nlX6 (Nat.le_of_ble_eq_true rfl) (ls0 := [.ref a0, .int x1, .int x2]) rfl ?_
  refine R_aload_n dX6_lookAt_0 rfl rfl ?_
  refine R_iload_n dX6_lookAt_1 rfl rfl ?_
  obtain ⟨r2, e1, H⟩ := bn_some H
  refine R_cV dX6_lookAt_2 lvX6_68 ⟨Nat.le_of_ble_eq_true rfl, Nat.le_of_ble_eq_true rfl⟩ (r := a0) ka0 (av := [.int x1]) (st := []) rfl rfl (Nat.le_of_ble_eq_true rfl) (tX6_hasHand ka0 e1) ?_
  rcases it_split H with ⟨c3, H⟩ | ⟨c3, H⟩
  · refine R_if_eq_t dX6_lookAt_5 (tgt := 29) (by decide) c3 ?_
    refine R_iconst dX6_lookAt_29 (v := (-1)) (by decide) ?_
    obtain rfl := Option.some.inj H
    exact R_retI dX6_lookAt_30 rfl (Or.inl rfl)
  · refine R_if_eq_f dX6_lookAt_5 (tgt := 29) (by decide) c3 ?_
    refine R_iload_n dX6_lookAt_8 rfl rfl ?_
    obtain ⟨r5, e4, H⟩ := bn_some H
    refine R_cN dX6_lookAt_9 oX7_isHour isX7_isHour rfl rfl ⟨Nat.le_of_ble_eq_true rfl, Nat.le_of_ble_eq_true rfl⟩ (av := [.int x2]) (st := []) rfl rfl (Nat.le_of_ble_eq_true rfl) (tX7_isHour e4) ?_
    rcases it_split H with ⟨c6, H⟩ | ⟨c6, H⟩
    · refine R_if_eq_t dX6_lookAt_12 (tgt := 29) (by decide) c6 ?_
      refine R_iconst dX6_lookAt_29 (v := (-1)) (by decide) ?_
      obtain rfl := Option.some.inj H
      exact R_retI dX6_lookAt_30 rfl (Or.inl rfl)
    · refine R_if_eq_f dX6_lookAt_12 (tgt := 29) (by decide) c6 ?_
      refine R_aload_n dX6_lookAt_15 rfl rfl ?_
      refine R_getF dX6_lookAt_16 lfX6_33 ka0 rfl (q := a0 + 8) rfl ?_
      refine R_iload_n dX6_lookAt_19 rfl rfl ?_
      refine R_bipush dX6_lookAt_20 (v := 96) (by decide) ?_
      refine R_imul dX6_lookAt_22 ?_
      refine R_iload_n dX6_lookAt_23 rfl rfl ?_
      refine R_iadd dX6_lookAt_24 ?_
      obtain ⟨c7, H⟩ := it_some H
      refine R_ildY dX6_lookAt_25 (kV_8 ka0) (nV_8 ka0) (ck_in c7) (j := tn ((x1 * 96) + x2)) rfl (x := h (a0 + 8) (tn ((x1 * 96) + x2))) rfl ?_
      refine R_goto dX6_lookAt_26 (tgt := 30) (by decide) ?_
      obtain rfl := Option.some.inj H
      exact R_retI dX6_lookAt_30 rfl (Or.inl rfl)

set_option maxRecDepth 100000 in
set_option maxHeartbeats 4000000 in
theorem tX0_lookOf {h : aH} {a0 : Nat} {a1 : Nat} {x2 : Int32} {x3 : Int32} {r : Int32} (ka0 : kC a0 = 0) (ka1 : kC a1 = 6) (H : fX0_lookOf h a0 a1 x2 x3 = some r) : Ev mX0_lookOf [.ref a0, .ref a1, .int x2, .int x3] h (some (.int r)) h := by
  unfold fX0_lookOf at H
  refine Ev_of (sp := (0, fun _ => 0)) oX0_lookOf nlX0 (Nat.le_of_ble_eq_true rfl) (ls0 := [.ref a0, .ref a1, .int x2, .int x3, .null]) rfl ?_
  refine R_aload_n dX0_lookOf_0 rfl rfl ?_
  refine R_iload_n dX0_lookOf_1 rfl rfl ?_
  refine R_iload_n dX0_lookOf_2 rfl rfl ?_
  obtain ⟨r2, e1, H⟩ := bn_some H
  refine R_cV dX0_lookOf_3 lvX0_67 ⟨Nat.le_of_ble_eq_true rfl, Nat.le_of_ble_eq_true rfl⟩ (r := a0) ka0 (av := [.int x2, .int x3]) (st := []) rfl rfl (Nat.le_of_ble_eq_true rfl) (tX0_hasLetter ka0 e1) ?_
  rcases it_split H with ⟨c3, H⟩ | ⟨c3, H⟩
  · refine R_if_ne_f dX0_lookOf_6 (tgt := 11) (by decide) c3 ?_
    refine R_iconst dX0_lookOf_9 (v := (-1)) (by decide) ?_
    obtain rfl := Option.some.inj H
    exact R_retI dX0_lookOf_10 rfl (Or.inl rfl)
  · refine R_if_ne_t dX0_lookOf_6 (tgt := 11) (by decide) c3 ?_
    refine R_iload_n dX0_lookOf_11 rfl rfl ?_
    refine R_bipush dX0_lookOf_12 (v := 12) (by decide) ?_
    refine R_imul dX0_lookOf_14 ?_
    refine R_iload_n dX0_lookOf_15 rfl rfl ?_
    refine R_iadd dX0_lookOf_16 ?_
    refine R_istoreW dX0_lookOf_17 (by decide) rfl (ls2 := [.ref a0, .ref a1, .int x2, .int x3, .int ((x2 * 12) + x3)]) rfl ?_
    refine R_aload_n dX0_lookOf_19 rfl rfl ?_
    refine R_aload_n dX0_lookOf_20 rfl rfl ?_
    refine R_getF dX0_lookOf_21 lfX0_18 ka0 rfl (q := a0 + 3) rfl ?_
    refine R_iload dX0_lookOf_24 rfl ?_
    obtain ⟨c4, H⟩ := it_some H
    refine R_ildY dX0_lookOf_26 (kA_3 ka0) (nA_3 ka0) (ck_in c4) (j := tn ((x2 * 12) + x3)) rfl (x := h (a0 + 3) (tn ((x2 * 12) + x3))) rfl ?_
    refine R_aload_n dX0_lookOf_27 rfl rfl ?_
    refine R_getF dX0_lookOf_28 lfX0_21 ka0 rfl (q := a0 + 4) rfl ?_
    refine R_iload dX0_lookOf_31 rfl ?_
    refine R_ildY dX0_lookOf_33 (kA_4 ka0) (nA_4 ka0) (ck_in c4) (j := tn ((x2 * 12) + x3)) rfl (x := h (a0 + 4) (tn ((x2 * 12) + x3))) rfl ?_
    refine R_iconst dX0_lookOf_34 (v := (-1)) (by decide) ?_
    rcases it_split H with ⟨c5, H⟩ | ⟨c5, H⟩
    · refine R_icmp_ne_f dX0_lookOf_35 (tgt := 48) (by decide) c5 ?_
      refine R_aload_n dX0_lookOf_38 rfl rfl ?_
      refine R_getF dX0_lookOf_39 lfX0_15 ka0 rfl (q := a0 + 2) rfl ?_
      refine R_iload dX0_lookOf_42 rfl ?_
      refine R_ildY dX0_lookOf_44 (kA_2 ka0) (nA_2 ka0) (ck_in c4) (j := tn ((x2 * 12) + x3)) rfl (x := h (a0 + 2) (tn ((x2 * 12) + x3))) rfl ?_
      refine R_goto dX0_lookOf_45 (tgt := 55) (by decide) ?_
      obtain ⟨r7, e6, H⟩ := bn_some H
      refine R_cV dX0_lookOf_55 lvX0_74 ⟨Nat.le_of_ble_eq_true rfl, Nat.le_of_ble_eq_true rfl⟩ (r := a1) ka1 (av := [.int (h (a0 + 3) (tn ((x2 * 12) + x3))), .int (h (a0 + 2) (tn ((x2 * 12) + x3)))]) (st := []) rfl rfl (Nat.le_of_ble_eq_true rfl) (tX6_lookAt ka1 e6) ?_
      obtain rfl := Option.some.inj H
      exact R_retI dX0_lookOf_58 rfl (Or.inl rfl)
    · refine R_icmp_ne_t dX0_lookOf_35 (tgt := 48) (by decide) c5 ?_
      refine R_aload_n dX0_lookOf_48 rfl rfl ?_
      refine R_getF dX0_lookOf_49 lfX0_21 ka0 rfl (q := a0 + 4) rfl ?_
      refine R_iload dX0_lookOf_52 rfl ?_
      refine R_ildY dX0_lookOf_54 (kA_4 ka0) (nA_4 ka0) (ck_in c4) (j := tn ((x2 * 12) + x3)) rfl (x := h (a0 + 4) (tn ((x2 * 12) + x3))) rfl ?_
      obtain ⟨r9, e8, H⟩ := bn_some H
      refine R_cV dX0_lookOf_55 lvX0_74 ⟨Nat.le_of_ble_eq_true rfl, Nat.le_of_ble_eq_true rfl⟩ (r := a1) ka1 (av := [.int (h (a0 + 3) (tn ((x2 * 12) + x3))), .int (h (a0 + 4) (tn ((x2 * 12) + x3)))]) (st := []) rfl rfl (Nat.le_of_ble_eq_true rfl) (tX6_lookAt ka1 e8) ?_
      obtain rfl := Option.some.inj H
      exact R_retI dX0_lookOf_58 rfl (Or.inl rfl)

set_option maxRecDepth 100000 in
set_option maxHeartbeats 4000000 in
theorem tX0_looksAsBy {h : aH} {a0 : Nat} {a1 : Nat} {x2 : Int32} {x3 : Int32} {x4 : Int32} {r : Bool} (ka0 : kC a0 = 0) (ka1 : kC a1 = 6) (H : fX0_looksAsBy h a0 a1 x2 x3 x4 = some r) : Ev mX0_looksAsBy [.ref a0, .ref a1, .int x2, .int x3, .int x4] h (some (.int (bi r))) h := by
  unfold fX0_looksAsBy at H
  refine Ev_of (sp := (0, fun _ => 0)) oX0_looksAsBy nlX0 (Nat.le_of_ble_eq_true rfl) (ls0 := [.ref a0, .ref a1, .int x2, .int x3, .int x4]) rfl ?_
  refine R_aload_n dX0_looksAsBy_0 rfl rfl ?_
  refine R_aload_n dX0_looksAsBy_1 rfl rfl ?_
  refine R_iload_n dX0_looksAsBy_2 rfl rfl ?_
  refine R_iload_n dX0_looksAsBy_3 rfl rfl ?_
  obtain ⟨r2, e1, H⟩ := bn_some H
  refine R_cV dX0_looksAsBy_4 lvX0_77 ⟨Nat.le_of_ble_eq_true rfl, Nat.le_of_ble_eq_true rfl⟩ (r := a0) ka0 (av := [.ref a1, .int x2, .int x3]) (st := []) rfl rfl (Nat.le_of_ble_eq_true rfl) (tX0_lookOf ka0 ka1 e1) ?_
  refine R_aload_n dX0_looksAsBy_7 rfl rfl ?_
  refine R_iload dX0_looksAsBy_8 rfl ?_
  refine R_aload_n dX0_looksAsBy_10 rfl rfl ?_
  refine R_iload_n dX0_looksAsBy_11 rfl rfl ?_
  refine R_iload_n dX0_looksAsBy_12 rfl rfl ?_
  obtain ⟨r4, e3, H⟩ := bn_some H
  refine R_cV dX0_looksAsBy_13 lvX0_81 ⟨Nat.le_of_ble_eq_true rfl, Nat.le_of_ble_eq_true rfl⟩ (r := a0) ka0 (av := [.int x2, .int x3]) (st := [.int x4, .ref a1, .int r2]) rfl rfl (Nat.le_of_ble_eq_true rfl) (tX0_hourOf ka0 e3) ?_
  obtain ⟨r6, e5, H⟩ := bn_some H
  refine R_cV dX0_looksAsBy_16 lvX0_74 ⟨Nat.le_of_ble_eq_true rfl, Nat.le_of_ble_eq_true rfl⟩ (r := a1) ka1 (av := [.int x4, .int r4]) (st := [.int r2]) rfl rfl (Nat.le_of_ble_eq_true rfl) (tX6_lookAt ka1 e5) ?_
  rcases it_split H with ⟨c7, H⟩ | ⟨c7, H⟩
  · refine R_icmp_ne_f dX0_looksAsBy_19 (tgt := 26) (by decide) c7 ?_
    refine R_iconst dX0_looksAsBy_22 (v := 1) (by decide) ?_
    refine R_goto dX0_looksAsBy_23 (tgt := 27) (by decide) ?_
    obtain rfl := Option.some.inj H
    exact R_retI dX0_looksAsBy_27 rfl (Or.inr ⟨rfl, bi_01 _⟩)
  · refine R_icmp_ne_t dX0_looksAsBy_19 (tgt := 26) (by decide) c7 ?_
    refine R_iconst dX0_looksAsBy_26 (v := 0) (by decide) ?_
    obtain rfl := Option.some.inj H
    exact R_retI dX0_looksAsBy_27 rfl (Or.inr ⟨rfl, bi_01 _⟩)

set_option maxRecDepth 100000 in
set_option maxHeartbeats 4000000 in
theorem tX0_countAsBy_L13 {sp : Nat × (Nat → Int32)} {K : Int32 → Option Int32} {h : aH} {a0 : Nat} {a1 : Nat} {x2 : Int32} {x3 : Int32} {x4 : Int32} (ka0 : kC a0 = 0) (ka1 : kC a1 = 6) (hK : ∀ (y5 : Int32) (r : Int32), K y5 = some r → Rn sp mX0_countAsBy 48 [.null, .null, .null, .null, .null, .int y5, .null] [] h (some (.int r)) h) : ∀ (n : Nat) (x5 x6 : Int32) (r : Int32), fX0_countAsBy_L13 K h a0 a1 x2 x3 x4 n x5 x6 = some r → Rn sp mX0_countAsBy 13 [.ref a0, .ref a1, .int x2, .int x3, .int x4, .int x5, .int x6] [] h (some (.int r)) h := by
  intro n
  induction n with
  | zero =>
    intro x5 x6 r H
    rw [fX0_countAsBy_L13] at H
    cases H
  | succ n ih =>
    intro x5 x6 r H
    rw [fX0_countAsBy_L13] at H
    refine R_iload dX0_countAsBy_13 rfl ?_
    refine R_iload dX0_countAsBy_15 rfl ?_
    rcases it_split H with ⟨c3, H⟩ | ⟨c3, H⟩
    · refine R_icmp_ge_t dX0_countAsBy_17 (tgt := 48) (by decide) c3 ?_
      refine R_null (i := 0) (ls2 := [.null, .ref a1, .int x2, .int x3, .int x4, .int x5, .int x6]) rfl ?_
      refine R_null (i := 1) (ls2 := [.null, .null, .int x2, .int x3, .int x4, .int x5, .int x6]) rfl ?_
      refine R_null (i := 2) (ls2 := [.null, .null, .null, .int x3, .int x4, .int x5, .int x6]) rfl ?_
      refine R_null (i := 3) (ls2 := [.null, .null, .null, .null, .int x4, .int x5, .int x6]) rfl ?_
      refine R_null (i := 4) (ls2 := [.null, .null, .null, .null, .null, .int x5, .int x6]) rfl ?_
      refine R_null (i := 6) (ls2 := [.null, .null, .null, .null, .null, .int x5, .null]) rfl ?_
      exact hK _ _ H
    · refine R_icmp_ge_f dX0_countAsBy_17 (tgt := 48) (by decide) c3 ?_
      refine R_iload dX0_countAsBy_20 rfl ?_
      refine R_aload_n dX0_countAsBy_22 rfl rfl ?_
      refine R_aload_n dX0_countAsBy_23 rfl rfl ?_
      refine R_iload_n dX0_countAsBy_24 rfl rfl ?_
      refine R_iload dX0_countAsBy_25 rfl ?_
      refine R_iload_n dX0_countAsBy_27 rfl rfl ?_
      obtain ⟨r5, e4, H⟩ := bn_some H
      refine R_cV dX0_countAsBy_28 lvX0_84 ⟨Nat.le_of_ble_eq_true rfl, Nat.le_of_ble_eq_true rfl⟩ (r := a0) ka0 (av := [.ref a1, .int x2, .int x6, .int x3]) (st := [.int x5]) rfl rfl (Nat.le_of_ble_eq_true rfl) (tX0_looksAsBy ka0 ka1 e4) ?_
      rcases it_split H with ⟨c6, H⟩ | ⟨c6, H⟩
      · refine R_if_eq_t dX0_countAsBy_31 (tgt := 38) (by decide) c6 ?_
        refine R_iconst dX0_countAsBy_38 (v := 0) (by decide) ?_
        refine R_iadd dX0_countAsBy_39 ?_
        refine R_istoreW dX0_countAsBy_40 (by decide) rfl (ls2 := [.ref a0, .ref a1, .int x2, .int x3, .int x4, .int (x5 + 0), .int x6]) rfl ?_
        refine R_iincW dX0_countAsBy_42 rfl (v := x6 + 1) rfl (by decide) rfl (ls2 := [.ref a0, .ref a1, .int x2, .int x3, .int x4, .int (x5 + 0), .int (x6 + 1)]) rfl ?_
        refine R_goto dX0_countAsBy_45 (tgt := 13) (by decide) ?_
        exact ih _ _ _ H
      · refine R_if_eq_f dX0_countAsBy_31 (tgt := 38) (by decide) c6 ?_
        refine R_iconst dX0_countAsBy_34 (v := 1) (by decide) ?_
        refine R_goto dX0_countAsBy_35 (tgt := 39) (by decide) ?_
        refine R_iadd dX0_countAsBy_39 ?_
        refine R_istoreW dX0_countAsBy_40 (by decide) rfl (ls2 := [.ref a0, .ref a1, .int x2, .int x3, .int x4, .int (x5 + 1), .int x6]) rfl ?_
        refine R_iincW dX0_countAsBy_42 rfl (v := x6 + 1) rfl (by decide) rfl (ls2 := [.ref a0, .ref a1, .int x2, .int x3, .int x4, .int (x5 + 1), .int (x6 + 1)]) rfl ?_
        refine R_goto dX0_countAsBy_45 (tgt := 13) (by decide) ?_
        exact ih _ _ _ H

set_option maxRecDepth 100000 in
set_option maxHeartbeats 4000000 in
theorem tX0_countAsBy {h : aH} {a0 : Nat} {a1 : Nat} {x2 : Int32} {x3 : Int32} {r : Int32} (ka0 : kC a0 = 0) (ka1 : kC a1 = 6) (H : fX0_countAsBy h a0 a1 x2 x3 = some r) : Ev mX0_countAsBy [.ref a0, .ref a1, .int x2, .int x3] h (some (.int r)) h := by
  unfold fX0_countAsBy at H
  refine Ev_of (sp := (0, fun _ => 0)) oX0_countAsBy nlX0 (Nat.le_of_ble_eq_true rfl) (ls0 := [.ref a0, .ref a1, .int x2, .int x3, .null, .null, .null]) rfl ?_
  refine R_aload_n dX0_countAsBy_0 rfl rfl ?_
  refine R_iload_n dX0_countAsBy_1 rfl rfl ?_
  obtain ⟨r2, e1, H⟩ := bn_some H
  refine R_cV dX0_countAsBy_2 lvX0_59 ⟨Nat.le_of_ble_eq_true rfl, Nat.le_of_ble_eq_true rfl⟩ (r := a0) ka0 (av := [.int x2]) (st := []) rfl rfl (Nat.le_of_ble_eq_true rfl) (tX0_countOf ka0 e1) ?_
  refine R_istoreW dX0_countAsBy_5 (by decide) rfl (ls2 := [.ref a0, .ref a1, .int x2, .int x3, .int r2, .null, .null]) rfl ?_
  refine R_iconst dX0_countAsBy_7 (v := 0) (by decide) ?_
  refine R_istoreW dX0_countAsBy_8 (by decide) rfl (ls2 := [.ref a0, .ref a1, .int x2, .int x3, .int r2, .int 0, .null]) rfl ?_
  refine R_iconst dX0_countAsBy_10 (v := 0) (by decide) ?_
  refine R_istoreW dX0_countAsBy_11 (by decide) rfl (ls2 := [.ref a0, .ref a1, .int x2, .int x3, .int r2, .int 0, .int 0]) rfl ?_
  refine tX0_countAsBy_L13 ka0 ka1 (fun z7 r H => ?_) _ _ _ _ H
  refine R_iload dX0_countAsBy_48 rfl ?_
  obtain rfl := Option.some.inj H
  exact R_retI dX0_countAsBy_50 rfl (Or.inl rfl)

set_option maxRecDepth 100000 in
set_option maxHeartbeats 4000000 in
theorem tX0_dropLast {h : aH} {a0 : Nat} {x1 : Int32} {h2 : aH} (ka0 : kC a0 = 0) (H : fX0_dropLast h a0 x1 = some h2) : Ev mX0_dropLast [.ref a0, .int x1] h none h2 := by
  unfold fX0_dropLast at H
  refine Ev_of (sp := (0, fun _ => 0)) oX0_dropLast nlX0 (Nat.le_of_ble_eq_true rfl) (ls0 := [.ref a0, .int x1]) rfl ?_
  refine R_aload_n dX0_dropLast_0 rfl rfl ?_
  refine R_iload_n dX0_dropLast_1 rfl rfl ?_
  obtain ⟨r2, e1, H⟩ := bn_some H
  refine R_cV dX0_dropLast_2 lvX0_59 ⟨Nat.le_of_ble_eq_true rfl, Nat.le_of_ble_eq_true rfl⟩ (r := a0) ka0 (av := [.int x1]) (st := []) rfl rfl (Nat.le_of_ble_eq_true rfl) (tX0_countOf ka0 e1) ?_
  rcases it_split H with ⟨c3, H⟩ | ⟨c3, H⟩
  · refine R_if_le_t dX0_dropLast_5 (tgt := 18) (by decide) c3 ?_
    obtain rfl := Option.some.inj H
    exact R_ret (o := none) dX0_dropLast_18 rfl
  · refine R_if_le_f dX0_dropLast_5 (tgt := 18) (by decide) c3 ?_
    refine R_aload_n dX0_dropLast_8 rfl rfl ?_
    refine R_getF dX0_dropLast_9 lfX0_9 ka0 rfl (q := a0 + 1) rfl ?_
    refine R_iload_n dX0_dropLast_12 rfl rfl ?_
    refine R_dup2 dX0_dropLast_13 rfl rfl ?_
    obtain ⟨c4, H⟩ := it_some H
    refine R_ildY dX0_dropLast_14 (kA_1 ka0) (nA_1 ka0) (ck_in c4) (j := tn x1) rfl (x := h (a0 + 1) (tn x1)) rfl ?_
    refine R_iconst dX0_dropLast_15 (v := 1) (by decide) ?_
    refine R_isub dX0_dropLast_16 ?_
    refine R_iastX dX0_dropLast_17 (kA_1 ka0) (nA_1 ka0) (ck_in c4) (j := tn x1) rfl ?_
    obtain rfl := Option.some.inj H
    exact R_ret (o := none) dX0_dropLast_18 rfl

set_option maxRecDepth 100000 in
set_option maxHeartbeats 4000000 in
theorem tX0_draw {h : aH} {a0 : Nat} {x1 : Int32} {r : Int32} {h2 : aH} (ka0 : kC a0 = 0) (H : fX0_draw h a0 x1 = some (r, h2)) : Ev mX0_draw [.ref a0, .int x1] h (some (.int r)) h2 := by
  unfold fX0_draw at H
  refine Ev_of (sp := (0, fun _ => 0)) oX0_draw nlX0 (Nat.le_of_ble_eq_true rfl) (ls0 := [.ref a0, .int x1]) rfl ?_
  refine R_iload_n dX0_draw_0 rfl rfl ?_
  refine R_iconst dX0_draw_1 (v := 1) (by decide) ?_
  rcases it_split H with ⟨c1, H⟩ | ⟨c1, H⟩
  · refine R_icmp_ge_t dX0_draw_2 (tgt := 7) (by decide) c1 ?_
    refine R_aload_n dX0_draw_7 rfl rfl ?_
    refine R_aload_n dX0_draw_8 rfl rfl ?_
    refine R_getX dX0_draw_9 lfX0_56 ka0 rfl (x := h a0 5) rfl ?_
    refine R_i2l dX0_draw_12 ?_
    refine R_ldc2 dX0_draw_13 llX0_88 ?_
    refine R_lmul dX0_draw_16 ?_
    refine R_ldc2 dX0_draw_17 llX0_90 ?_
    refine R_ladd dX0_draw_20 ?_
    refine R_ldc2 dX0_draw_21 llX0_92 ?_
    refine R_lremX dX0_draw_24 (by decide) ?_
    refine R_l2i dX0_draw_25 ?_
    refine R_putI dX0_draw_26 lfX0_56 ka0 rfl ?_
    refine R_aload_n dX0_draw_29 rfl rfl ?_
    refine R_getX dX0_draw_30 lfX0_56 ka0 rfl (x := Int64.toInt32 (rmdL (((Int32.toInt64 (h a0 5)) * 1103515245) + 12345) 2147483648)) (by simp [aU, upd]) ?_
    refine R_ldc dX0_draw_33 lcX0_94 ?_
    refine R_idiv dX0_draw_35 (by decide) ?_
    refine R_iload_n dX0_draw_36 rfl rfl ?_
    obtain ⟨c2, H⟩ := it_some H
    refine R_iremX dX0_draw_37 c2 ?_
    obtain ⟨rfl, rfl⟩ := so2 H
    exact R_retI dX0_draw_38 rfl (Or.inl rfl)
  · refine R_icmp_ge_f dX0_draw_2 (tgt := 7) (by decide) c1 ?_
    refine R_iconst dX0_draw_5 (v := 0) (by decide) ?_
    obtain ⟨rfl, rfl⟩ := so2 H
    exact R_retI dX0_draw_6 rfl (Or.inl rfl)

set_option maxRecDepth 100000 in
set_option maxHeartbeats 4000000 in
theorem tX0_rowFrom_L10 {sp : Nat × (Nat → Int32)} {K : Int32 → Option Int32} {h : aH} {a0 : Nat} {a1 : Nat} {x2 : Int32} {x3 : Int32} {x4 : Int32} {x5 : Int32} {x6 : Int32} (ka0 : kC a0 = 0) (ka1 : kC a1 = 6) (hK : ∀ (y7 : Int32) (r : Int32), K y7 = some r → Rn sp mX0_rowFrom 59 [.null, .null, .null, .null, .null, .null, .null, .int y7] [] h (some (.int r)) h) : ∀ (n : Nat) (x7 : Int32) (r : Int32), fX0_rowFrom_L10 K h a0 a1 x2 x3 x4 x5 x6 n x7 = some r → Rn sp mX0_rowFrom 10 [.ref a0, .ref a1, .int x2, .int x3, .int x4, .int x5, .int x6, .int x7] [] h (some (.int r)) h := by
  intro n
  induction n with
  | zero =>
    intro x7 r H
    rw [fX0_rowFrom_L10] at H
    cases H
  | succ n ih =>
    intro x7 r H
    rw [fX0_rowFrom_L10] at H
    refine R_iload_n dX0_rowFrom_10 rfl rfl ?_
    refine R_iload dX0_rowFrom_11 rfl ?_
    refine R_iadd dX0_rowFrom_13 ?_
    refine R_iload dX0_rowFrom_14 rfl ?_
    rcases it_split H with ⟨c3, H⟩ | ⟨c3, H⟩
    · refine R_icmp_ge_t dX0_rowFrom_16 (tgt := 59) (by decide) c3 ?_
      refine R_null (i := 0) (ls2 := [.null, .ref a1, .int x2, .int x3, .int x4, .int x5, .int x6, .int x7]) rfl ?_
      refine R_null (i := 1) (ls2 := [.null, .null, .int x2, .int x3, .int x4, .int x5, .int x6, .int x7]) rfl ?_
      refine R_null (i := 2) (ls2 := [.null, .null, .null, .int x3, .int x4, .int x5, .int x6, .int x7]) rfl ?_
      refine R_null (i := 3) (ls2 := [.null, .null, .null, .null, .int x4, .int x5, .int x6, .int x7]) rfl ?_
      refine R_null (i := 4) (ls2 := [.null, .null, .null, .null, .null, .int x5, .int x6, .int x7]) rfl ?_
      refine R_null (i := 5) (ls2 := [.null, .null, .null, .null, .null, .null, .int x6, .int x7]) rfl ?_
      refine R_null (i := 6) (ls2 := [.null, .null, .null, .null, .null, .null, .null, .int x7]) rfl ?_
      exact hK _ _ H
    · refine R_icmp_ge_f dX0_rowFrom_16 (tgt := 59) (by decide) c3 ?_
      refine R_iload dX0_rowFrom_19 rfl ?_
      refine R_iload dX0_rowFrom_21 rfl ?_
      refine R_iadd dX0_rowFrom_23 ?_
      refine R_bipush dX0_rowFrom_24 (v := 96) (by decide) ?_
      rcases it_split H with ⟨c4, H⟩ | ⟨c4, H⟩
      · refine R_icmp_ge_t dX0_rowFrom_26 (tgt := 59) (by decide) c4 ?_
        refine R_null (i := 0) (ls2 := [.null, .ref a1, .int x2, .int x3, .int x4, .int x5, .int x6, .int x7]) rfl ?_
        refine R_null (i := 1) (ls2 := [.null, .null, .int x2, .int x3, .int x4, .int x5, .int x6, .int x7]) rfl ?_
        refine R_null (i := 2) (ls2 := [.null, .null, .null, .int x3, .int x4, .int x5, .int x6, .int x7]) rfl ?_
        refine R_null (i := 3) (ls2 := [.null, .null, .null, .null, .int x4, .int x5, .int x6, .int x7]) rfl ?_
        refine R_null (i := 4) (ls2 := [.null, .null, .null, .null, .null, .int x5, .int x6, .int x7]) rfl ?_
        refine R_null (i := 5) (ls2 := [.null, .null, .null, .null, .null, .null, .int x6, .int x7]) rfl ?_
        refine R_null (i := 6) (ls2 := [.null, .null, .null, .null, .null, .null, .null, .int x7]) rfl ?_
        exact hK _ _ H
      · refine R_icmp_ge_f dX0_rowFrom_26 (tgt := 59) (by decide) c4 ?_
        refine R_aload_n dX0_rowFrom_29 rfl rfl ?_
        refine R_aload_n dX0_rowFrom_30 rfl rfl ?_
        refine R_iload_n dX0_rowFrom_31 rfl rfl ?_
        refine R_iload_n dX0_rowFrom_32 rfl rfl ?_
        refine R_iload dX0_rowFrom_33 rfl ?_
        refine R_iadd dX0_rowFrom_35 ?_
        obtain ⟨r6, e5, H⟩ := bn_some H
        refine R_cV dX0_rowFrom_36 lvX0_77 ⟨Nat.le_of_ble_eq_true rfl, Nat.le_of_ble_eq_true rfl⟩ (r := a0) ka0 (av := [.ref a1, .int x2, .int (x3 + x7)]) (st := []) rfl rfl (Nat.le_of_ble_eq_true rfl) (tX0_lookOf ka0 ka1 e5) ?_
        refine R_aload_n dX0_rowFrom_39 rfl rfl ?_
        refine R_iload dX0_rowFrom_40 rfl ?_
        refine R_iload dX0_rowFrom_42 rfl ?_
        refine R_iload dX0_rowFrom_44 rfl ?_
        refine R_iadd dX0_rowFrom_46 ?_
        obtain ⟨r8, e7, H⟩ := bn_some H
        refine R_cV dX0_rowFrom_47 lvX0_74 ⟨Nat.le_of_ble_eq_true rfl, Nat.le_of_ble_eq_true rfl⟩ (r := a1) ka1 (av := [.int x4, .int (x5 + x7)]) (st := [.int r6]) rfl rfl (Nat.le_of_ble_eq_true rfl) (tX6_lookAt ka1 e7) ?_
        rcases it_split H with ⟨c9, H⟩ | ⟨c9, H⟩
        · refine R_icmp_ne_f dX0_rowFrom_50 (tgt := 59) (by decide) c9 ?_
          refine R_iincW dX0_rowFrom_53 rfl (v := x7 + 1) rfl (by decide) rfl (ls2 := [.ref a0, .ref a1, .int x2, .int x3, .int x4, .int x5, .int x6, .int (x7 + 1)]) rfl ?_
          refine R_goto dX0_rowFrom_56 (tgt := 10) (by decide) ?_
          exact ih _ _ H
        · refine R_icmp_ne_t dX0_rowFrom_50 (tgt := 59) (by decide) c9 ?_
          refine R_null (i := 0) (ls2 := [.null, .ref a1, .int x2, .int x3, .int x4, .int x5, .int x6, .int x7]) rfl ?_
          refine R_null (i := 1) (ls2 := [.null, .null, .int x2, .int x3, .int x4, .int x5, .int x6, .int x7]) rfl ?_
          refine R_null (i := 2) (ls2 := [.null, .null, .null, .int x3, .int x4, .int x5, .int x6, .int x7]) rfl ?_
          refine R_null (i := 3) (ls2 := [.null, .null, .null, .null, .int x4, .int x5, .int x6, .int x7]) rfl ?_
          refine R_null (i := 4) (ls2 := [.null, .null, .null, .null, .null, .int x5, .int x6, .int x7]) rfl ?_
          refine R_null (i := 5) (ls2 := [.null, .null, .null, .null, .null, .null, .int x6, .int x7]) rfl ?_
          refine R_null (i := 6) (ls2 := [.null, .null, .null, .null, .null, .null, .null, .int x7]) rfl ?_
          exact hK _ _ H

set_option maxRecDepth 100000 in
set_option maxHeartbeats 4000000 in
theorem tX0_rowFrom {h : aH} {a0 : Nat} {a1 : Nat} {x2 : Int32} {x3 : Int32} {x4 : Int32} {x5 : Int32} {r : Int32} (ka0 : kC a0 = 0) (ka1 : kC a1 = 6) (H : fX0_rowFrom h a0 a1 x2 x3 x4 x5 = some r) : Ev mX0_rowFrom [.ref a0, .ref a1, .int x2, .int x3, .int x4, .int x5] h (some (.int r)) h := by
  unfold fX0_rowFrom at H
  refine Ev_of (sp := (0, fun _ => 0)) oX0_rowFrom nlX0 (Nat.le_of_ble_eq_true rfl) (ls0 := [.ref a0, .ref a1, .int x2, .int x3, .int x4, .int x5, .null, .null]) rfl ?_
  refine R_aload_n dX0_rowFrom_0 rfl rfl ?_
  refine R_iload_n dX0_rowFrom_1 rfl rfl ?_
  obtain ⟨r2, e1, H⟩ := bn_some H
  refine R_cV dX0_rowFrom_2 lvX0_59 ⟨Nat.le_of_ble_eq_true rfl, Nat.le_of_ble_eq_true rfl⟩ (r := a0) ka0 (av := [.int x2]) (st := []) rfl rfl (Nat.le_of_ble_eq_true rfl) (tX0_countOf ka0 e1) ?_
  refine R_istoreW dX0_rowFrom_5 (by decide) rfl (ls2 := [.ref a0, .ref a1, .int x2, .int x3, .int x4, .int x5, .int r2, .null]) rfl ?_
  refine R_iconst dX0_rowFrom_7 (v := 0) (by decide) ?_
  refine R_istoreW dX0_rowFrom_8 (by decide) rfl (ls2 := [.ref a0, .ref a1, .int x2, .int x3, .int x4, .int x5, .int r2, .int 0]) rfl ?_
  refine tX0_rowFrom_L10 ka0 ka1 (fun z10 r H => ?_) _ _ _ H
  refine R_iload dX0_rowFrom_59 rfl ?_
  obtain rfl := Option.some.inj H
  exact R_retI dX0_rowFrom_61 rfl (Or.inl rfl)

set_option maxRecDepth 100000 in
set_option maxHeartbeats 4000000 in
theorem tX0_longestRow_L6 {sp : Nat × (Nat → Int32)} {K : Int32 → Option Int32} {h : aH} {a0 : Nat} {a1 : Nat} {x2 : Int32} {x3 : Int32} {x4 : Int32} (ka0 : kC a0 = 0) (ka1 : kC a1 = 6) (hK : ∀ (y5 : Int32) (r : Int32), K y5 = some r → Rn sp mX0_longestRow 37 [.null, .null, .null, .null, .null, .int y5, .null] [] h (some (.int r)) h) : ∀ (n : Nat) (x5 x6 : Int32) (r : Int32), fX0_longestRow_L6 K h a0 a1 x2 x3 x4 n x5 x6 = some r → Rn sp mX0_longestRow 6 [.ref a0, .ref a1, .int x2, .int x3, .int x4, .int x5, .int x6] [] h (some (.int r)) h := by
  intro n
  induction n with
  | zero =>
    intro x5 x6 r H
    rw [fX0_longestRow_L6] at H
    cases H
  | succ n ih =>
    intro x5 x6 r H
    rw [fX0_longestRow_L6] at H
    refine R_iload dX0_longestRow_6 rfl ?_
    refine R_bipush dX0_longestRow_8 (v := 96) (by decide) ?_
    rcases it_split H with ⟨c1, H⟩ | ⟨c1, H⟩
    · refine R_icmp_ge_t dX0_longestRow_10 (tgt := 37) (by decide) c1 ?_
      refine R_null (i := 0) (ls2 := [.null, .ref a1, .int x2, .int x3, .int x4, .int x5, .int x6]) rfl ?_
      refine R_null (i := 1) (ls2 := [.null, .null, .int x2, .int x3, .int x4, .int x5, .int x6]) rfl ?_
      refine R_null (i := 2) (ls2 := [.null, .null, .null, .int x3, .int x4, .int x5, .int x6]) rfl ?_
      refine R_null (i := 3) (ls2 := [.null, .null, .null, .null, .int x4, .int x5, .int x6]) rfl ?_
      refine R_null (i := 4) (ls2 := [.null, .null, .null, .null, .null, .int x5, .int x6]) rfl ?_
      refine R_null (i := 6) (ls2 := [.null, .null, .null, .null, .null, .int x5, .null]) rfl ?_
      exact hK _ _ H
    · refine R_icmp_ge_f dX0_longestRow_10 (tgt := 37) (by decide) c1 ?_
      refine R_iload dX0_longestRow_13 rfl ?_
      refine R_aload_n dX0_longestRow_15 rfl rfl ?_
      refine R_aload_n dX0_longestRow_16 rfl rfl ?_
      refine R_iload_n dX0_longestRow_17 rfl rfl ?_
      refine R_iload_n dX0_longestRow_18 rfl rfl ?_
      refine R_iload dX0_longestRow_19 rfl ?_
      refine R_iload dX0_longestRow_21 rfl ?_
      obtain ⟨r3, e2, H⟩ := bn_some H
      refine R_cV dX0_longestRow_23 lvX0_95 ⟨Nat.le_of_ble_eq_true rfl, Nat.le_of_ble_eq_true rfl⟩ (r := a0) ka0 (av := [.ref a1, .int x2, .int x3, .int x4, .int x6]) (st := [.int x5]) rfl rfl (Nat.le_of_ble_eq_true rfl) (tX0_rowFrom ka0 ka1 e2) ?_
      refine R_max dX0_longestRow_26 lmX0_99 (by decide) (Nat.le_of_ble_eq_true rfl) ?_
      refine R_istoreW dX0_longestRow_29 (by decide) rfl (ls2 := [.ref a0, .ref a1, .int x2, .int x3, .int x4, .int (if x5 < r3 then r3 else x5), .int x6]) rfl ?_
      refine R_iincW dX0_longestRow_31 rfl (v := x6 + 1) rfl (by decide) rfl (ls2 := [.ref a0, .ref a1, .int x2, .int x3, .int x4, .int (if x5 < r3 then r3 else x5), .int (x6 + 1)]) rfl ?_
      refine R_goto dX0_longestRow_34 (tgt := 6) (by decide) ?_
      exact ih _ _ _ H

set_option maxRecDepth 100000 in
set_option maxHeartbeats 4000000 in
theorem tX0_longestRow {h : aH} {a0 : Nat} {a1 : Nat} {x2 : Int32} {x3 : Int32} {x4 : Int32} {r : Int32} (ka0 : kC a0 = 0) (ka1 : kC a1 = 6) (H : fX0_longestRow h a0 a1 x2 x3 x4 = some r) : Ev mX0_longestRow [.ref a0, .ref a1, .int x2, .int x3, .int x4] h (some (.int r)) h := by
  unfold fX0_longestRow at H
  refine Ev_of (sp := (0, fun _ => 0)) oX0_longestRow nlX0 (Nat.le_of_ble_eq_true rfl) (ls0 := [.ref a0, .ref a1, .int x2, .int x3, .int x4, .null, .null]) rfl ?_
  refine R_iconst dX0_longestRow_0 (v := 0) (by decide) ?_
  refine R_istoreW dX0_longestRow_1 (by decide) rfl (ls2 := [.ref a0, .ref a1, .int x2, .int x3, .int x4, .int 0, .null]) rfl ?_
  refine R_iconst dX0_longestRow_3 (v := 0) (by decide) ?_
  refine R_istoreW dX0_longestRow_4 (by decide) rfl (ls2 := [.ref a0, .ref a1, .int x2, .int x3, .int x4, .int 0, .int 0]) rfl ?_
  refine tX0_longestRow_L6 ka0 ka1 (fun z4 r H => ?_) _ _ _ _ H
  refine R_iload dX0_longestRow_37 rfl ?_
  obtain rfl := Option.some.inj H
  exact R_retI dX0_longestRow_39 rfl (Or.inl rfl)

set_option maxRecDepth 100000 in
set_option maxHeartbeats 4000000 in
theorem tX0_fewestRows_L16 {sp : Nat × (Nat → Int32)} {K : Int32 → Option Int32} {h : aH} {a0 : Nat} {a1 : Nat} {x2 : Int32} {x3 : Int32} {x4 : Int32} (ka0 : kC a0 = 0) (ka1 : kC a1 = 6) (hK : ∀ (y5 : Int32) (r : Int32), K y5 = some r → Rn sp mX0_fewestRows 65 [.null, .null, .null, .null, .null, .int y5, .null, .null, .null] [] h (some (.int r)) h) : ∀ (n : Nat) (x5 x6 x7 : Int32) (r : Int32), fX0_fewestRows_L16 K h a0 a1 x2 x3 x4 n x5 x6 x7 = some r → Rn sp mX0_fewestRows 16 [.ref a0, .ref a1, .int x2, .int x3, .int x4, .int x5, .int x6, .int x7, .null] [] h (some (.int r)) h := by
  intro n
  induction n with
  | zero =>
    intro x5 x6 x7 r H
    rw [fX0_fewestRows_L16] at H
    cases H
  | succ n ih =>
    intro x5 x6 x7 r H
    rw [fX0_fewestRows_L16] at H
    refine R_iload dX0_fewestRows_16 rfl ?_
    refine R_bipush dX0_fewestRows_18 (v := 12) (by decide) ?_
    rcases it_split H with ⟨c3, H⟩ | ⟨c3, H⟩
    · refine R_icmp_ge_t dX0_fewestRows_20 (tgt := 65) (by decide) c3 ?_
      refine R_null (i := 0) (ls2 := [.null, .ref a1, .int x2, .int x3, .int x4, .int x5, .int x6, .int x7, .null]) rfl ?_
      refine R_null (i := 1) (ls2 := [.null, .null, .int x2, .int x3, .int x4, .int x5, .int x6, .int x7, .null]) rfl ?_
      refine R_null (i := 2) (ls2 := [.null, .null, .null, .int x3, .int x4, .int x5, .int x6, .int x7, .null]) rfl ?_
      refine R_null (i := 3) (ls2 := [.null, .null, .null, .null, .int x4, .int x5, .int x6, .int x7, .null]) rfl ?_
      refine R_null (i := 4) (ls2 := [.null, .null, .null, .null, .null, .int x5, .int x6, .int x7, .null]) rfl ?_
      refine R_null (i := 6) (ls2 := [.null, .null, .null, .null, .null, .int x5, .null, .int x7, .null]) rfl ?_
      refine R_null (i := 7) (ls2 := [.null, .null, .null, .null, .null, .int x5, .null, .null, .null]) rfl ?_
      exact hK _ _ H
    · refine R_icmp_ge_f dX0_fewestRows_20 (tgt := 65) (by decide) c3 ?_
      refine R_iload dX0_fewestRows_23 rfl ?_
      refine R_iload dX0_fewestRows_25 rfl ?_
      rcases it_split H with ⟨c4, H⟩ | ⟨c4, H⟩
      · refine R_icmp_ge_t dX0_fewestRows_27 (tgt := 65) (by decide) c4 ?_
        refine R_null (i := 0) (ls2 := [.null, .ref a1, .int x2, .int x3, .int x4, .int x5, .int x6, .int x7, .null]) rfl ?_
        refine R_null (i := 1) (ls2 := [.null, .null, .int x2, .int x3, .int x4, .int x5, .int x6, .int x7, .null]) rfl ?_
        refine R_null (i := 2) (ls2 := [.null, .null, .null, .int x3, .int x4, .int x5, .int x6, .int x7, .null]) rfl ?_
        refine R_null (i := 3) (ls2 := [.null, .null, .null, .null, .int x4, .int x5, .int x6, .int x7, .null]) rfl ?_
        refine R_null (i := 4) (ls2 := [.null, .null, .null, .null, .null, .int x5, .int x6, .int x7, .null]) rfl ?_
        refine R_null (i := 6) (ls2 := [.null, .null, .null, .null, .null, .int x5, .null, .int x7, .null]) rfl ?_
        refine R_null (i := 7) (ls2 := [.null, .null, .null, .null, .null, .int x5, .null, .null, .null]) rfl ?_
        exact hK _ _ H
      · refine R_icmp_ge_f dX0_fewestRows_27 (tgt := 65) (by decide) c4 ?_
        refine R_aload_n dX0_fewestRows_30 rfl rfl ?_
        refine R_aload_n dX0_fewestRows_31 rfl rfl ?_
        refine R_iload_n dX0_fewestRows_32 rfl rfl ?_
        refine R_iload dX0_fewestRows_33 rfl ?_
        refine R_iload_n dX0_fewestRows_35 rfl rfl ?_
        obtain ⟨r6, e5, H⟩ := bn_some H
        refine R_cV dX0_fewestRows_36 lvX0_104 ⟨Nat.le_of_ble_eq_true rfl, Nat.le_of_ble_eq_true rfl⟩ (r := a0) ka0 (av := [.ref a1, .int x2, .int x6, .int x3]) (st := []) rfl rfl (Nat.le_of_ble_eq_true rfl) (tX0_longestRow ka0 ka1 e5) ?_
        refine R_istoreW dX0_fewestRows_39 (by decide) rfl (ls2 := [.ref a0, .ref a1, .int x2, .int x3, .int x4, .int x5, .int x6, .int x7, .int r6]) rfl ?_
        refine R_iload dX0_fewestRows_41 rfl ?_
        refine R_iconst dX0_fewestRows_43 (v := 1) (by decide) ?_
        rcases it_split H with ⟨c7, H⟩ | ⟨c7, H⟩
        · refine R_icmp_ge_t dX0_fewestRows_44 (tgt := 49) (by decide) c7 ?_
          refine R_iload dX0_fewestRows_49 rfl ?_
          refine R_iload dX0_fewestRows_51 rfl ?_
          refine R_iadd dX0_fewestRows_53 ?_
          refine R_istoreW dX0_fewestRows_54 (by decide) rfl (ls2 := [.ref a0, .ref a1, .int x2, .int x3, .int x4, .int x5, .int (x6 + r6), .int x7, .int r6]) rfl ?_
          refine R_iincW dX0_fewestRows_56 rfl (v := x5 + 1) rfl (by decide) rfl (ls2 := [.ref a0, .ref a1, .int x2, .int x3, .int x4, .int (x5 + 1), .int (x6 + r6), .int x7, .int r6]) rfl ?_
          refine R_iincW dX0_fewestRows_59 rfl (v := x7 + 1) rfl (by decide) rfl (ls2 := [.ref a0, .ref a1, .int x2, .int x3, .int x4, .int (x5 + 1), .int (x6 + r6), .int (x7 + 1), .int r6]) rfl ?_
          refine R_goto dX0_fewestRows_62 (tgt := 16) (by decide) ?_
          refine R_null (i := 8) (ls2 := [.ref a0, .ref a1, .int x2, .int x3, .int x4, .int (x5 + 1), .int (x6 + r6), .int (x7 + 1), .null]) rfl ?_
          exact ih _ _ _ _ H
        · refine R_icmp_ge_f dX0_fewestRows_44 (tgt := 49) (by decide) c7 ?_
          refine R_iconst dX0_fewestRows_47 (v := (-1)) (by decide) ?_
          obtain rfl := Option.some.inj H
          exact R_retI dX0_fewestRows_48 rfl (Or.inl rfl)

set_option maxRecDepth 100000 in
set_option maxHeartbeats 4000000 in
theorem tX0_fewestRows {h : aH} {a0 : Nat} {a1 : Nat} {x2 : Int32} {x3 : Int32} {r : Int32} (ka0 : kC a0 = 0) (ka1 : kC a1 = 6) (H : fX0_fewestRows h a0 a1 x2 x3 = some r) : Ev mX0_fewestRows [.ref a0, .ref a1, .int x2, .int x3] h (some (.int r)) h := by
  unfold fX0_fewestRows at H
  refine Ev_of (sp := (0, fun _ => 0)) oX0_fewestRows nlX0 (Nat.le_of_ble_eq_true rfl) (ls0 := [.ref a0, .ref a1, .int x2, .int x3, .null, .null, .null, .null, .null]) rfl ?_
  refine R_aload_n dX0_fewestRows_0 rfl rfl ?_
  refine R_iload_n dX0_fewestRows_1 rfl rfl ?_
  obtain ⟨r2, e1, H⟩ := bn_some H
  refine R_cV dX0_fewestRows_2 lvX0_59 ⟨Nat.le_of_ble_eq_true rfl, Nat.le_of_ble_eq_true rfl⟩ (r := a0) ka0 (av := [.int x2]) (st := []) rfl rfl (Nat.le_of_ble_eq_true rfl) (tX0_countOf ka0 e1) ?_
  refine R_istoreW dX0_fewestRows_5 (by decide) rfl (ls2 := [.ref a0, .ref a1, .int x2, .int x3, .int r2, .null, .null, .null, .null]) rfl ?_
  refine R_iconst dX0_fewestRows_7 (v := 0) (by decide) ?_
  refine R_istoreW dX0_fewestRows_8 (by decide) rfl (ls2 := [.ref a0, .ref a1, .int x2, .int x3, .int r2, .int 0, .null, .null, .null]) rfl ?_
  refine R_iconst dX0_fewestRows_10 (v := 0) (by decide) ?_
  refine R_istoreW dX0_fewestRows_11 (by decide) rfl (ls2 := [.ref a0, .ref a1, .int x2, .int x3, .int r2, .int 0, .int 0, .null, .null]) rfl ?_
  refine R_iconst dX0_fewestRows_13 (v := 0) (by decide) ?_
  refine R_istoreW dX0_fewestRows_14 (by decide) rfl (ls2 := [.ref a0, .ref a1, .int x2, .int x3, .int r2, .int 0, .int 0, .int 0, .null]) rfl ?_
  refine tX0_fewestRows_L16 ka0 ka1 (fun z8 r H => ?_) _ _ _ _ _ H
  refine R_iload dX0_fewestRows_65 rfl ?_
  obtain rfl := Option.some.inj H
  exact R_retI dX0_fewestRows_67 rfl (Or.inl rfl)

set_option maxRecDepth 100000 in
set_option maxHeartbeats 4000000 in
theorem tX6_windAt {h : aH} {a0 : Nat} {x1 : Int32} {r : Int32} (ka0 : kC a0 = 6) (H : fX6_windAt h a0 x1 = some r) : Ev mX6_windAt [.ref a0, .int x1] h (some (.int r)) h := by
  unfold fX6_windAt at H
  refine Ev_of (sp := (0, fun _ => 0)) oX6_windAt nlX6 (Nat.le_of_ble_eq_true rfl) (ls0 := [.ref a0, .int x1]) rfl ?_
  refine R_aload_n dX6_windAt_0 rfl rfl ?_
  refine R_getX dX6_windAt_1 lfX6_40 ka0 rfl (x := h a0 1) rfl ?_
  refine R_iload_n dX6_windAt_4 rfl rfl ?_
  refine R_imul dX6_windAt_5 ?_
  refine R_bipush dX6_windAt_6 (v := 8) (by decide) ?_
  refine R_iremX dX6_windAt_8 (by decide) ?_
  obtain rfl := Option.some.inj H
  exact R_retI dX6_windAt_9 rfl (Or.inl rfl)

set_option maxRecDepth 100000 in
set_option maxHeartbeats 4000000 in
theorem tX6_dampAt {h : aH} {a0 : Nat} {x1 : Int32} {x2 : Int32} {r : Int32} (ka0 : kC a0 = 6) (H : fX6_dampAt h a0 x1 x2 = some r) : Ev mX6_dampAt [.ref a0, .int x1, .int x2] h (some (.int r)) h := by
  unfold fX6_dampAt at H
  refine Ev_of (sp := (0, fun _ => 0)) oX6_dampAt nlX6 (Nat.le_of_ble_eq_true rfl) (ls0 := [.ref a0, .int x1, .int x2, .null]) rfl ?_
  refine R_iconst dX6_dampAt_0 (v := 0) (by decide) ?_
  refine R_iload_n dX6_dampAt_1 rfl rfl ?_
  refine R_bipush dX6_dampAt_2 (v := 12) (by decide) ?_
  refine R_iremX dX6_dampAt_4 (by decide) ?_
  refine R_aload_n dX6_dampAt_5 rfl rfl ?_
  refine R_getX dX6_dampAt_6 lfX6_47 ka0 rfl (x := h a0 3) rfl ?_
  refine R_isub dX6_dampAt_9 ?_
  refine R_iconst dX6_dampAt_10 (v := 1) (by decide) ?_
  refine R_iadd dX6_dampAt_11 ?_
  refine R_max dX6_dampAt_12 lmX6_59 (by decide) (Nat.le_of_ble_eq_true rfl) ?_
  refine R_istoreN dX6_dampAt_15 rfl (by decide) rfl (ls2 := [.ref a0, .int x1, .int x2, .int (if 0 < (((rmd x1 12) - (h a0 3)) + 1) then (((rmd x1 12) - (h a0 3)) + 1) else 0)]) rfl ?_
  refine R_bipush dX6_dampAt_16 (v := 19) (by decide) ?_
  refine R_aload_n dX6_dampAt_18 rfl rfl ?_
  refine R_getX dX6_dampAt_19 lfX6_44 ka0 rfl (x := h a0 2) rfl ?_
  refine R_iload_n dX6_dampAt_22 rfl rfl ?_
  refine R_iadd dX6_dampAt_23 ?_
  refine R_iload_n dX6_dampAt_24 rfl rfl ?_
  refine R_iadd dX6_dampAt_25 ?_
  refine R_min dX6_dampAt_26 lmX6_65 (by decide) (Nat.le_of_ble_eq_true rfl) ?_
  obtain rfl := Option.some.inj H
  exact R_retI dX6_dampAt_29 rfl (Or.inl rfl)

set_option maxRecDepth 100000 in
set_option maxHeartbeats 4000000 in
theorem tX6_lightAt {h : aH} {a0 : Nat} {x1 : Int32} {r : Int32} (ka0 : kC a0 = 6) (H : fX6_lightAt h a0 x1 = some r) : Ev mX6_lightAt [.ref a0, .int x1] h (some (.int r)) h := by
  unfold fX6_lightAt at H
  refine Ev_of (sp := (0, fun _ => 0)) oX6_lightAt nlX6 (Nat.le_of_ble_eq_true rfl) (ls0 := [.ref a0, .int x1]) rfl ?_
  refine R_iload_n dX6_lightAt_0 rfl rfl ?_
  refine R_bipush dX6_lightAt_1 (v := 12) (by decide) ?_
  refine R_iremX dX6_lightAt_3 (by decide) ?_
  refine R_aload_n dX6_lightAt_4 rfl rfl ?_
  refine R_getX dX6_lightAt_5 lfX6_47 ka0 rfl (x := h a0 3) rfl ?_
  rcases it_split H with ⟨c1, H⟩ | ⟨c1, H⟩
  · refine R_icmp_ge_t dX6_lightAt_8 (tgt := 15) (by decide) c1 ?_
    refine R_iconst dX6_lightAt_15 (v := 0) (by decide) ?_
    obtain rfl := Option.some.inj H
    exact R_retI dX6_lightAt_16 rfl (Or.inl rfl)
  · refine R_icmp_ge_f dX6_lightAt_8 (tgt := 15) (by decide) c1 ?_
    refine R_iconst dX6_lightAt_11 (v := 1) (by decide) ?_
    refine R_goto dX6_lightAt_12 (tgt := 16) (by decide) ?_
    obtain rfl := Option.some.inj H
    exact R_retI dX6_lightAt_16 rfl (Or.inl rfl)

set_option maxRecDepth 100000 in
set_option maxHeartbeats 4000000 in
theorem tX6_makeLook {h : aH} {a0 : Nat} {x1 : Int32} {x2 : Int32} {x3 : Int32} {r : Int32} (ka0 : kC a0 = 6) (H : fX6_makeLook h a0 x1 x2 x3 = some r) : Ev mX6_makeLook [.ref a0, .int x1, .int x2, .int x3] h (some (.int r)) h := by
  unfold fX6_makeLook at H
  refine Ev_of (sp := (0, fun _ => 0)) oX6_makeLook nlX6 (Nat.le_of_ble_eq_true rfl) (ls0 := [.ref a0, .int x1, .int x2, .int x3, .null, .null, .null]) rfl ?_
  refine R_aload_n dX6_makeLook_0 rfl rfl ?_
  refine R_iload_n dX6_makeLook_1 rfl rfl ?_
  obtain ⟨r2, e1, H⟩ := bn_some H
  refine R_cV dX6_makeLook_2 lvX6_68 ⟨Nat.le_of_ble_eq_true rfl, Nat.le_of_ble_eq_true rfl⟩ (r := a0) ka0 (av := [.int x1]) (st := []) rfl rfl (Nat.le_of_ble_eq_true rfl) (tX6_hasHand ka0 e1) ?_
  rcases it_split H with ⟨c3, H⟩ | ⟨c3, H⟩
  · refine R_if_ne_f dX6_makeLook_5 (tgt := 10) (by decide) c3 ?_
    refine R_iconst dX6_makeLook_8 (v := (-1)) (by decide) ?_
    obtain rfl := Option.some.inj H
    exact R_retI dX6_makeLook_9 rfl (Or.inl rfl)
  · refine R_if_ne_t dX6_makeLook_5 (tgt := 10) (by decide) c3 ?_
    refine R_aload_n dX6_makeLook_10 rfl rfl ?_
    refine R_getF dX6_makeLook_11 lfX6_15 ka0 rfl (q := a0 + 2) rfl ?_
    refine R_iload_n dX6_makeLook_14 rfl rfl ?_
    obtain ⟨c4, H⟩ := it_some H
    refine R_ildY dX6_makeLook_15 (kV_2 ka0) (nV_2 ka0) (ck_in c4) (j := tn x1) rfl (x := h (a0 + 2) (tn x1)) rfl ?_
    refine R_aload_n dX6_makeLook_16 rfl rfl ?_
    refine R_iload_n dX6_makeLook_17 rfl rfl ?_
    obtain ⟨r6, e5, H⟩ := bn_some H
    refine R_cV dX6_makeLook_18 lvX6_72 ⟨Nat.le_of_ble_eq_true rfl, Nat.le_of_ble_eq_true rfl⟩ (r := a0) ka0 (av := [.int x2]) (st := [.int (h (a0 + 2) (tn x1))]) rfl rfl (Nat.le_of_ble_eq_true rfl) (tX6_windAt ka0 e5) ?_
    refine R_iadd dX6_makeLook_21 ?_
    refine R_bipush dX6_makeLook_22 (v := 9) (by decide) ?_
    refine R_iremX dX6_makeLook_24 (by decide) ?_
    refine R_istoreW dX6_makeLook_25 (by decide) rfl (ls2 := [.ref a0, .int x1, .int x2, .int x3, .int (rmd ((h (a0 + 2) (tn x1)) + r6) 9), .null, .null]) rfl ?_
    refine R_bipush dX6_makeLook_27 (v := 15) (by decide) ?_
    refine R_aload_n dX6_makeLook_29 rfl rfl ?_
    refine R_getF dX6_makeLook_30 lfX6_18 ka0 rfl (q := a0 + 3) rfl ?_
    refine R_iload_n dX6_makeLook_33 rfl rfl ?_
    refine R_ildY dX6_makeLook_34 (kV_3 ka0) (nV_3 ka0) (ck_in c4) (j := tn x1) rfl (x := h (a0 + 3) (tn x1)) rfl ?_
    refine R_aload_n dX6_makeLook_35 rfl rfl ?_
    refine R_iload_n dX6_makeLook_36 rfl rfl ?_
    refine R_iload_n dX6_makeLook_37 rfl rfl ?_
    obtain ⟨r8, e7, H⟩ := bn_some H
    refine R_cV dX6_makeLook_38 lvX6_76 ⟨Nat.le_of_ble_eq_true rfl, Nat.le_of_ble_eq_true rfl⟩ (r := a0) ka0 (av := [.int x2, .int x3]) (st := [.int (h (a0 + 3) (tn x1)), .int 15]) rfl rfl (Nat.le_of_ble_eq_true rfl) (tX6_dampAt ka0 e7) ?_
    refine R_iconst dX6_makeLook_41 (v := 2) (by decide) ?_
    refine R_idiv dX6_makeLook_42 (by decide) ?_
    refine R_iadd dX6_makeLook_43 ?_
    refine R_min dX6_makeLook_44 lmX6_65 (by decide) (Nat.le_of_ble_eq_true rfl) ?_
    refine R_istoreW dX6_makeLook_47 (by decide) rfl (ls2 := [.ref a0, .int x1, .int x2, .int x3, .int (rmd ((h (a0 + 2) (tn x1)) + r6) 9), .int (if ((h (a0 + 3) (tn x1)) + (r8 / 2)) < 15 then ((h (a0 + 3) (tn x1)) + (r8 / 2)) else 15), .null]) rfl ?_
    refine R_bipush dX6_makeLook_49 (v := 9) (by decide) ?_
    refine R_aload_n dX6_makeLook_51 rfl rfl ?_
    refine R_getF dX6_makeLook_52 lfX6_21 ka0 rfl (q := a0 + 4) rfl ?_
    refine R_iload_n dX6_makeLook_55 rfl rfl ?_
    refine R_ildY dX6_makeLook_56 (kV_4 ka0) (nV_4 ka0) (ck_in c4) (j := tn x1) rfl (x := h (a0 + 4) (tn x1)) rfl ?_
    refine R_aload_n dX6_makeLook_57 rfl rfl ?_
    refine R_iload_n dX6_makeLook_58 rfl rfl ?_
    obtain ⟨r10, e9, H⟩ := bn_some H
    refine R_cV dX6_makeLook_59 lvX6_79 ⟨Nat.le_of_ble_eq_true rfl, Nat.le_of_ble_eq_true rfl⟩ (r := a0) ka0 (av := [.int x2]) (st := [.int (h (a0 + 4) (tn x1)), .int 9]) rfl rfl (Nat.le_of_ble_eq_true rfl) (tX6_lightAt ka0 e9) ?_
    refine R_iconst dX6_makeLook_62 (v := 1) (by decide) ?_
    rcases it_split H with ⟨c11, H⟩ | ⟨c11, H⟩
    · refine R_icmp_ne_f dX6_makeLook_63 (tgt := 70) (by decide) c11 ?_
      refine R_iconst dX6_makeLook_66 (v := 0) (by decide) ?_
      refine R_goto dX6_makeLook_67 (tgt := 71) (by decide) ?_
      refine R_iadd dX6_makeLook_71 ?_
      refine R_min dX6_makeLook_72 lmX6_65 (by decide) (Nat.le_of_ble_eq_true rfl) ?_
      refine R_istoreW dX6_makeLook_75 (by decide) rfl (ls2 := [.ref a0, .int x1, .int x2, .int x3, .int (rmd ((h (a0 + 2) (tn x1)) + r6) 9), .int (if ((h (a0 + 3) (tn x1)) + (r8 / 2)) < 15 then ((h (a0 + 3) (tn x1)) + (r8 / 2)) else 15), .int (if ((h (a0 + 4) (tn x1)) + 0) < 9 then ((h (a0 + 4) (tn x1)) + 0) else 9)]) rfl ?_
      refine R_sipush dX6_makeLook_77 (v := 1000) (by decide) ?_
      refine R_iload dX6_makeLook_80 rfl ?_
      refine R_imul dX6_makeLook_82 ?_
      refine R_bipush dX6_makeLook_83 (v := 10) (by decide) ?_
      refine R_iload dX6_makeLook_85 rfl ?_
      refine R_imul dX6_makeLook_87 ?_
      refine R_iadd dX6_makeLook_88 ?_
      refine R_iload dX6_makeLook_89 rfl ?_
      refine R_iadd dX6_makeLook_91 ?_
      obtain rfl := Option.some.inj H
      exact R_retI dX6_makeLook_92 rfl (Or.inl rfl)
    · refine R_icmp_ne_t dX6_makeLook_63 (tgt := 70) (by decide) c11 ?_
      refine R_iconst dX6_makeLook_70 (v := 2) (by decide) ?_
      refine R_iadd dX6_makeLook_71 ?_
      refine R_min dX6_makeLook_72 lmX6_65 (by decide) (Nat.le_of_ble_eq_true rfl) ?_
      refine R_istoreW dX6_makeLook_75 (by decide) rfl (ls2 := [.ref a0, .int x1, .int x2, .int x3, .int (rmd ((h (a0 + 2) (tn x1)) + r6) 9), .int (if ((h (a0 + 3) (tn x1)) + (r8 / 2)) < 15 then ((h (a0 + 3) (tn x1)) + (r8 / 2)) else 15), .int (if ((h (a0 + 4) (tn x1)) + 2) < 9 then ((h (a0 + 4) (tn x1)) + 2) else 9)]) rfl ?_
      refine R_sipush dX6_makeLook_77 (v := 1000) (by decide) ?_
      refine R_iload dX6_makeLook_80 rfl ?_
      refine R_imul dX6_makeLook_82 ?_
      refine R_bipush dX6_makeLook_83 (v := 10) (by decide) ?_
      refine R_iload dX6_makeLook_85 rfl ?_
      refine R_imul dX6_makeLook_87 ?_
      refine R_iadd dX6_makeLook_88 ?_
      refine R_iload dX6_makeLook_89 rfl ?_
      refine R_iadd dX6_makeLook_91 ?_
      obtain rfl := Option.some.inj H
      exact R_retI dX6_makeLook_92 rfl (Or.inl rfl)

set_option maxRecDepth 100000 in
set_option maxHeartbeats 4000000 in
theorem tX0_fitsRain_L20 {sp : Nat × (Nat → Int32)} {K : Unit → Option Bool} {h : aH} {a0 : Nat} {a1 : Nat} {x2 : Int32} {x3 : Int32} {x4 : Int32} {x5 : Int32} (ka0 : kC a0 = 0) (ka1 : kC a1 = 6) (hK : ∀ (_ : Unit) (r : Bool), K () = some r → Rn sp mX0_fitsRain 92 [.ref a0, .ref a1, .int x2, .int x3, .int x4, .null, .null, .null] [] h (some (.int (bi r))) h) : ∀ (n : Nat) (x6 : Int32) (r : Bool), fX0_fitsRain_L20 K h a0 a1 x2 x3 x4 x5 n x6 = some r → Rn sp mX0_fitsRain 20 [.ref a0, .ref a1, .int x2, .int x3, .int x4, .int x5, .int x6, .null] [] h (some (.int (bi r))) h := by
  intro n
  induction n with
  | zero =>
    intro x6 r H
    rw [fX0_fitsRain_L20] at H
    cases H
  | succ n ih =>
    intro x6 r H
    rw [fX0_fitsRain_L20] at H
    refine R_iload dX0_fitsRain_20 rfl ?_
    refine R_iload dX0_fitsRain_22 rfl ?_
    rcases it_split H with ⟨c4, H⟩ | ⟨c4, H⟩
    · refine R_icmp_ge_t dX0_fitsRain_24 (tgt := 92) (by decide) c4 ?_
      refine R_null (i := 5) (ls2 := [.ref a0, .ref a1, .int x2, .int x3, .int x4, .null, .int x6, .null]) rfl ?_
      refine R_null (i := 6) (ls2 := [.ref a0, .ref a1, .int x2, .int x3, .int x4, .null, .null, .null]) rfl ?_
      exact hK () _ H
    · refine R_icmp_ge_f dX0_fitsRain_24 (tgt := 92) (by decide) c4 ?_
      refine R_aload_n dX0_fitsRain_27 rfl rfl ?_
      refine R_iload dX0_fitsRain_28 rfl ?_
      refine R_iload dX0_fitsRain_30 rfl ?_
      obtain ⟨r6, e5, H⟩ := bn_some H
      refine R_cV dX0_fitsRain_32 lvX0_81 ⟨Nat.le_of_ble_eq_true rfl, Nat.le_of_ble_eq_true rfl⟩ (r := a0) ka0 (av := [.int x4, .int x6]) (st := []) rfl rfl (Nat.le_of_ble_eq_true rfl) (tX0_hourOf ka0 e5) ?_
      refine R_istoreW dX0_fitsRain_35 (by decide) rfl (ls2 := [.ref a0, .ref a1, .int x2, .int x3, .int x4, .int x5, .int x6, .int r6]) rfl ?_
      refine R_iload dX0_fitsRain_37 rfl ?_
      refine R_bipush dX0_fitsRain_39 (v := 12) (by decide) ?_
      refine R_idiv dX0_fitsRain_41 (by decide) ?_
      refine R_iload_n dX0_fitsRain_42 rfl rfl ?_
      rcases it_split H with ⟨c7, H⟩ | ⟨c7, H⟩
      · refine R_icmp_ne_f dX0_fitsRain_43 (tgt := 86) (by decide) c7 ?_
        refine R_aload_n dX0_fitsRain_46 rfl rfl ?_
        refine R_iload dX0_fitsRain_47 rfl ?_
        refine R_iload dX0_fitsRain_49 rfl ?_
        obtain ⟨r9, e8, H⟩ := bn_some H
        refine R_cV dX0_fitsRain_51 lvX0_63 ⟨Nat.le_of_ble_eq_true rfl, Nat.le_of_ble_eq_true rfl⟩ (r := a0) ka0 (av := [.int x4, .int x6]) (st := []) rfl rfl (Nat.le_of_ble_eq_true rfl) (tX0_isForged ka0 e8) ?_
        rcases it_split H with ⟨c10, H⟩ | ⟨c10, H⟩
        · refine R_if_ne_f dX0_fitsRain_54 (tgt := 86) (by decide) c10 ?_
          refine R_aload_n dX0_fitsRain_57 rfl rfl ?_
          refine R_aload_n dX0_fitsRain_58 rfl rfl ?_
          refine R_iload dX0_fitsRain_59 rfl ?_
          refine R_iload dX0_fitsRain_61 rfl ?_
          obtain ⟨r12, e11, H⟩ := bn_some H
          refine R_cV dX0_fitsRain_63 lvX0_77 ⟨Nat.le_of_ble_eq_true rfl, Nat.le_of_ble_eq_true rfl⟩ (r := a0) ka0 (av := [.ref a1, .int x4, .int x6]) (st := []) rfl rfl (Nat.le_of_ble_eq_true rfl) (tX0_lookOf ka0 ka1 e11) ?_
          refine R_aload_n dX0_fitsRain_66 rfl rfl ?_
          refine R_aload_n dX0_fitsRain_67 rfl rfl ?_
          refine R_iload dX0_fitsRain_68 rfl ?_
          refine R_iload dX0_fitsRain_70 rfl ?_
          obtain ⟨r14, e13, H⟩ := bn_some H
          refine R_cV dX0_fitsRain_72 lvX0_108 ⟨Nat.le_of_ble_eq_true rfl, Nat.le_of_ble_eq_true rfl⟩ (r := a0) ka0 (av := [.int x4, .int x6]) (st := [.ref a1, .int r12]) rfl rfl (Nat.le_of_ble_eq_true rfl) (tX0_writerOf ka0 e13) ?_
          refine R_iload dX0_fitsRain_75 rfl ?_
          refine R_iload_n dX0_fitsRain_77 rfl rfl ?_
          obtain ⟨r16, e15, H⟩ := bn_some H
          refine R_cV dX0_fitsRain_78 lvX0_111 ⟨Nat.le_of_ble_eq_true rfl, Nat.le_of_ble_eq_true rfl⟩ (r := a1) ka1 (av := [.int r14, .int r6, .int x3]) (st := [.int r12]) rfl rfl (Nat.le_of_ble_eq_true rfl) (tX6_makeLook ka1 e15) ?_
          rcases it_split H with ⟨c17, H⟩ | ⟨c17, H⟩
          · refine R_icmp_eq_t dX0_fitsRain_81 (tgt := 86) (by decide) c17 ?_
            refine R_iincW dX0_fitsRain_86 rfl (v := x6 + 1) rfl (by decide) rfl (ls2 := [.ref a0, .ref a1, .int x2, .int x3, .int x4, .int x5, .int (x6 + 1), .int r6]) rfl ?_
            refine R_goto dX0_fitsRain_89 (tgt := 20) (by decide) ?_
            refine R_null (i := 7) (ls2 := [.ref a0, .ref a1, .int x2, .int x3, .int x4, .int x5, .int (x6 + 1), .null]) rfl ?_
            exact ih _ _ H
          · refine R_icmp_eq_f dX0_fitsRain_81 (tgt := 86) (by decide) c17 ?_
            refine R_iconst dX0_fitsRain_84 (v := 0) (by decide) ?_
            obtain rfl := Option.some.inj H
            exact R_retI dX0_fitsRain_85 rfl (Or.inr ⟨rfl, bi_01 _⟩)
        · refine R_if_ne_t dX0_fitsRain_54 (tgt := 86) (by decide) c10 ?_
          refine R_iincW dX0_fitsRain_86 rfl (v := x6 + 1) rfl (by decide) rfl (ls2 := [.ref a0, .ref a1, .int x2, .int x3, .int x4, .int x5, .int (x6 + 1), .int r6]) rfl ?_
          refine R_goto dX0_fitsRain_89 (tgt := 20) (by decide) ?_
          refine R_null (i := 7) (ls2 := [.ref a0, .ref a1, .int x2, .int x3, .int x4, .int x5, .int (x6 + 1), .null]) rfl ?_
          exact ih _ _ H
      · refine R_icmp_ne_t dX0_fitsRain_43 (tgt := 86) (by decide) c7 ?_
        refine R_iincW dX0_fitsRain_86 rfl (v := x6 + 1) rfl (by decide) rfl (ls2 := [.ref a0, .ref a1, .int x2, .int x3, .int x4, .int x5, .int (x6 + 1), .int r6]) rfl ?_
        refine R_goto dX0_fitsRain_89 (tgt := 20) (by decide) ?_
        refine R_null (i := 7) (ls2 := [.ref a0, .ref a1, .int x2, .int x3, .int x4, .int x5, .int (x6 + 1), .null]) rfl ?_
        exact ih _ _ H

set_option maxRecDepth 100000 in
set_option maxHeartbeats 4000000 in
theorem tX0_fitsRain_L3 {sp : Nat × (Nat → Int32)} {K : Unit → Option Bool} {h : aH} {a0 : Nat} {a1 : Nat} {x2 : Int32} {x3 : Int32} (ka0 : kC a0 = 0) (ka1 : kC a1 = 6) (hK : ∀ (_ : Unit) (r : Bool), K () = some r → Rn sp mX0_fitsRain 98 [.null, .null, .null, .null, .null, .null, .null, .null] [] h (some (.int (bi r))) h) : ∀ (n : Nat) (x4 : Int32) (r : Bool), fX0_fitsRain_L3 K h a0 a1 x2 x3 n x4 = some r → Rn sp mX0_fitsRain 3 [.ref a0, .ref a1, .int x2, .int x3, .int x4, .null, .null, .null] [] h (some (.int (bi r))) h := by
  intro n
  induction n with
  | zero =>
    intro x4 r H
    rw [fX0_fitsRain_L3] at H
    cases H
  | succ n ih =>
    intro x4 r H
    rw [fX0_fitsRain_L3] at H
    refine R_iload dX0_fitsRain_3 rfl ?_
    refine R_iconst dX0_fitsRain_5 (v := 4) (by decide) ?_
    rcases it_split H with ⟨c1, H⟩ | ⟨c1, H⟩
    · refine R_icmp_ge_t dX0_fitsRain_6 (tgt := 98) (by decide) c1 ?_
      refine R_null (i := 0) (ls2 := [.null, .ref a1, .int x2, .int x3, .int x4, .null, .null, .null]) rfl ?_
      refine R_null (i := 1) (ls2 := [.null, .null, .int x2, .int x3, .int x4, .null, .null, .null]) rfl ?_
      refine R_null (i := 2) (ls2 := [.null, .null, .null, .int x3, .int x4, .null, .null, .null]) rfl ?_
      refine R_null (i := 3) (ls2 := [.null, .null, .null, .null, .int x4, .null, .null, .null]) rfl ?_
      refine R_null (i := 4) (ls2 := [.null, .null, .null, .null, .null, .null, .null, .null]) rfl ?_
      exact hK () _ H
    · refine R_icmp_ge_f dX0_fitsRain_6 (tgt := 98) (by decide) c1 ?_
      refine R_aload_n dX0_fitsRain_9 rfl rfl ?_
      refine R_iload dX0_fitsRain_10 rfl ?_
      obtain ⟨r3, e2, H⟩ := bn_some H
      refine R_cV dX0_fitsRain_12 lvX0_59 ⟨Nat.le_of_ble_eq_true rfl, Nat.le_of_ble_eq_true rfl⟩ (r := a0) ka0 (av := [.int x4]) (st := []) rfl rfl (Nat.le_of_ble_eq_true rfl) (tX0_countOf ka0 e2) ?_
      refine R_istoreW dX0_fitsRain_15 (by decide) rfl (ls2 := [.ref a0, .ref a1, .int x2, .int x3, .int x4, .int r3, .null, .null]) rfl ?_
      refine R_iconst dX0_fitsRain_17 (v := 0) (by decide) ?_
      refine R_istoreW dX0_fitsRain_18 (by decide) rfl (ls2 := [.ref a0, .ref a1, .int x2, .int x3, .int x4, .int r3, .int 0, .null]) rfl ?_
      refine tX0_fitsRain_L20 ka0 ka1 (fun _ r H => ?_) _ _ _ H
      refine R_iincW dX0_fitsRain_92 rfl (v := x4 + 1) rfl (by decide) rfl (ls2 := [.ref a0, .ref a1, .int x2, .int x3, .int (x4 + 1), .null, .null, .null]) rfl ?_
      refine R_goto dX0_fitsRain_95 (tgt := 3) (by decide) ?_
      exact ih _ _ H

set_option maxRecDepth 100000 in
set_option maxHeartbeats 4000000 in
theorem tX0_fitsRain {h : aH} {a0 : Nat} {a1 : Nat} {x2 : Int32} {x3 : Int32} {r : Bool} (ka0 : kC a0 = 0) (ka1 : kC a1 = 6) (H : fX0_fitsRain h a0 a1 x2 x3 = some r) : Ev mX0_fitsRain [.ref a0, .ref a1, .int x2, .int x3] h (some (.int (bi r))) h := by
  unfold fX0_fitsRain at H
  refine Ev_of (sp := (0, fun _ => 0)) oX0_fitsRain nlX0 (Nat.le_of_ble_eq_true rfl) (ls0 := [.ref a0, .ref a1, .int x2, .int x3, .null, .null, .null, .null]) rfl ?_
  refine R_iconst dX0_fitsRain_0 (v := 0) (by decide) ?_
  refine R_istoreW dX0_fitsRain_1 (by decide) rfl (ls2 := [.ref a0, .ref a1, .int x2, .int x3, .int 0, .null, .null, .null]) rfl ?_
  refine tX0_fitsRain_L3 ka0 ka1 (fun _ r H => ?_) _ _ _ H
  refine R_iconst dX0_fitsRain_98 (v := 1) (by decide) ?_
  obtain rfl := Option.some.inj H
  exact R_retI dX0_fitsRain_99 rfl (Or.inr ⟨rfl, bi_01 _⟩)

set_option maxRecDepth 100000 in
set_option maxHeartbeats 4000000 in
theorem tX1_fits_L10 {sp : Nat × (Nat → Int32)} {K : Unit → Option Bool} {h : aH} {a0 : Nat} {a1 : Nat} {x2 : Int32} {x3 : Int32} {x4 : Int32} {x5 : Int32} {x6 : Int32} (ka0 : kC a0 = 6) (ka1 : kC a1 = 0) (hK : ∀ (_ : Unit) (r : Bool), K () = some r → Rn sp mX1_fits 57 [.null, .null, .null, .null, .null, .null, .null, .null] [] h (some (.int (bi r))) h) : ∀ (n : Nat) (x7 : Int32) (r : Bool), fX1_fits_L10 K h a0 a1 x2 x3 x4 x5 x6 n x7 = some r → Rn sp mX1_fits 10 [.ref a0, .ref a1, .int x2, .int x3, .int x4, .int x5, .int x6, .int x7] [] h (some (.int (bi r))) h := by
  intro n
  induction n with
  | zero =>
    intro x7 r H
    rw [fX1_fits_L10] at H
    cases H
  | succ n ih =>
    intro x7 r H
    rw [fX1_fits_L10] at H
    refine R_iload dX1_fits_10 rfl ?_
    refine R_iload dX1_fits_12 rfl ?_
    rcases it_split H with ⟨c3, H⟩ | ⟨c3, H⟩
    · refine R_icmp_ge_t dX1_fits_14 (tgt := 57) (by decide) c3 ?_
      refine R_null (i := 0) (ls2 := [.null, .ref a1, .int x2, .int x3, .int x4, .int x5, .int x6, .int x7]) rfl ?_
      refine R_null (i := 1) (ls2 := [.null, .null, .int x2, .int x3, .int x4, .int x5, .int x6, .int x7]) rfl ?_
      refine R_null (i := 2) (ls2 := [.null, .null, .null, .int x3, .int x4, .int x5, .int x6, .int x7]) rfl ?_
      refine R_null (i := 3) (ls2 := [.null, .null, .null, .null, .int x4, .int x5, .int x6, .int x7]) rfl ?_
      refine R_null (i := 4) (ls2 := [.null, .null, .null, .null, .null, .int x5, .int x6, .int x7]) rfl ?_
      refine R_null (i := 5) (ls2 := [.null, .null, .null, .null, .null, .null, .int x6, .int x7]) rfl ?_
      refine R_null (i := 6) (ls2 := [.null, .null, .null, .null, .null, .null, .null, .int x7]) rfl ?_
      refine R_null (i := 7) (ls2 := [.null, .null, .null, .null, .null, .null, .null, .null]) rfl ?_
      exact hK () _ H
    · refine R_icmp_ge_f dX1_fits_14 (tgt := 57) (by decide) c3 ?_
      refine R_iload_n dX1_fits_17 rfl rfl ?_
      refine R_iload dX1_fits_18 rfl ?_
      refine R_ishr dX1_fits_20 ?_
      refine R_iconst dX1_fits_21 (v := 1) (by decide) ?_
      refine R_iand dX1_fits_22 ?_
      refine R_iconst dX1_fits_23 (v := 1) (by decide) ?_
      rcases it_split H with ⟨c4, H⟩ | ⟨c4, H⟩
      · refine R_icmp_ne_f dX1_fits_24 (tgt := 51) (by decide) c4 ?_
        refine R_aload_n dX1_fits_27 rfl rfl ?_
        refine R_aload_n dX1_fits_28 rfl rfl ?_
        refine R_iload_n dX1_fits_29 rfl rfl ?_
        refine R_iload dX1_fits_30 rfl ?_
        obtain ⟨r6, e5, H⟩ := bn_some H
        refine R_cV dX1_fits_32 lvX1_43 ⟨Nat.le_of_ble_eq_true rfl, Nat.le_of_ble_eq_true rfl⟩ (r := a1) ka1 (av := [.ref a0, .int x2, .int x7]) (st := []) rfl rfl (Nat.le_of_ble_eq_true rfl) (tX0_lookOf ka1 ka0 e5) ?_
        refine R_aload_n dX1_fits_35 rfl rfl ?_
        refine R_iload dX1_fits_36 rfl ?_
        refine R_iload dX1_fits_38 rfl ?_
        refine R_iload dX1_fits_40 rfl ?_
        refine R_iadd dX1_fits_42 ?_
        obtain ⟨r8, e7, H⟩ := bn_some H
        refine R_cV dX1_fits_43 lvX1_47 ⟨Nat.le_of_ble_eq_true rfl, Nat.le_of_ble_eq_true rfl⟩ (r := a0) ka0 (av := [.int x4, .int (x5 + x7)]) (st := [.int r6]) rfl rfl (Nat.le_of_ble_eq_true rfl) (tX6_lookAt ka0 e7) ?_
        rcases it_split H with ⟨c9, H⟩ | ⟨c9, H⟩
        · refine R_icmp_eq_t dX1_fits_46 (tgt := 51) (by decide) c9 ?_
          refine R_iincW dX1_fits_51 rfl (v := x7 + 1) rfl (by decide) rfl (ls2 := [.ref a0, .ref a1, .int x2, .int x3, .int x4, .int x5, .int x6, .int (x7 + 1)]) rfl ?_
          refine R_goto dX1_fits_54 (tgt := 10) (by decide) ?_
          exact ih _ _ H
        · refine R_icmp_eq_f dX1_fits_46 (tgt := 51) (by decide) c9 ?_
          refine R_iconst dX1_fits_49 (v := 0) (by decide) ?_
          obtain rfl := Option.some.inj H
          exact R_retI dX1_fits_50 rfl (Or.inr ⟨rfl, bi_01 _⟩)
      · refine R_icmp_ne_t dX1_fits_24 (tgt := 51) (by decide) c4 ?_
        refine R_iincW dX1_fits_51 rfl (v := x7 + 1) rfl (by decide) rfl (ls2 := [.ref a0, .ref a1, .int x2, .int x3, .int x4, .int x5, .int x6, .int (x7 + 1)]) rfl ?_
        refine R_goto dX1_fits_54 (tgt := 10) (by decide) ?_
        exact ih _ _ H

set_option maxRecDepth 100000 in
set_option maxHeartbeats 4000000 in
theorem tX1_fits {h : aH} {a0 : Nat} {a1 : Nat} {x2 : Int32} {x3 : Int32} {x4 : Int32} {x5 : Int32} {r : Bool} (ka0 : kC a0 = 6) (ka1 : kC a1 = 0) (H : fX1_fits h a0 a1 x2 x3 x4 x5 = some r) : Ev mX1_fits [.ref a0, .ref a1, .int x2, .int x3, .int x4, .int x5] h (some (.int (bi r))) h := by
  unfold fX1_fits at H
  refine Ev_of (sp := (0, fun _ => 0)) oX1_fits nlX1 (Nat.le_of_ble_eq_true rfl) (ls0 := [.ref a0, .ref a1, .int x2, .int x3, .int x4, .int x5, .null, .null]) rfl ?_
  refine R_aload_n dX1_fits_0 rfl rfl ?_
  refine R_iload_n dX1_fits_1 rfl rfl ?_
  obtain ⟨r2, e1, H⟩ := bn_some H
  refine R_cV dX1_fits_2 lvX1_28 ⟨Nat.le_of_ble_eq_true rfl, Nat.le_of_ble_eq_true rfl⟩ (r := a1) ka1 (av := [.int x2]) (st := []) rfl rfl (Nat.le_of_ble_eq_true rfl) (tX0_countOf ka1 e1) ?_
  refine R_istoreW dX1_fits_5 (by decide) rfl (ls2 := [.ref a0, .ref a1, .int x2, .int x3, .int x4, .int x5, .int r2, .null]) rfl ?_
  refine R_iconst dX1_fits_7 (v := 0) (by decide) ?_
  refine R_istoreW dX1_fits_8 (by decide) rfl (ls2 := [.ref a0, .ref a1, .int x2, .int x3, .int x4, .int x5, .int r2, .int 0]) rfl ?_
  refine tX1_fits_L10 ka0 ka1 (fun _ r H => ?_) _ _ _ H
  refine R_iconst dX1_fits_57 (v := 1) (by decide) ?_
  obtain rfl := Option.some.inj H
  exact R_retI dX1_fits_58 rfl (Or.inr ⟨rfl, bi_01 _⟩)

set_option maxRecDepth 100000 in
set_option maxHeartbeats 4000000 in
theorem tX1_gather_L27 {sp : Nat × (Nat → Int32)} {K : aH → Option aH} {a1 : Nat} {a2 : Nat} {x3 : Int32} {x4 : Int32} {x5 : Int32} {x6 : Int32} (ka1 : kC a1 = 6) (ka2 : kC a2 = 0) (hK : ∀ (hk : aH) (h2 : aH), K hk = some h2 → Rn sp mX1_gather 107 [.ref 28, .ref a1, .ref a2, .int x3, .int x4, .int x5, .int x6, .null] [] hk none h2) : ∀ (n : Nat) (h : aH) (x7 : Int32) (h2 : aH), fX1_gather_L27 K a1 a2 x3 x4 x5 x6 n h x7 = some h2 → Rn sp mX1_gather 27 [.ref 28, .ref a1, .ref a2, .int x3, .int x4, .int x5, .int x6, .int x7] [] h none h2 := by
  intro n
  induction n with
  | zero =>
    intro h x7 h2 H
    rw [fX1_gather_L27] at H
    cases H
  | succ n ih =>
    intro h x7 h2 H
    rw [fX1_gather_L27] at H
    refine R_iload dX1_gather_27 rfl ?_
    refine R_bipush dX1_gather_29 (v := 96) (by decide) ?_
    rcases it_split H with ⟨c4, H⟩ | ⟨c4, H⟩
    · refine R_icmp_ge_t dX1_gather_31 (tgt := 107) (by decide) c4 ?_
      refine R_null (i := 7) (ls2 := [.ref 28, .ref a1, .ref a2, .int x3, .int x4, .int x5, .int x6, .null]) rfl ?_
      exact hK _ _ H
    · refine R_icmp_ge_f dX1_gather_31 (tgt := 107) (by decide) c4 ?_
      refine R_iload dX1_gather_34 rfl ?_
      refine R_iload dX1_gather_36 rfl ?_
      refine R_iadd dX1_gather_38 ?_
      refine R_bipush dX1_gather_39 (v := 96) (by decide) ?_
      rcases it_split H with ⟨c5, H⟩ | ⟨c5, H⟩
      · refine R_icmp_gt_t dX1_gather_41 (tgt := 107) (by decide) c5 ?_
        refine R_null (i := 7) (ls2 := [.ref 28, .ref a1, .ref a2, .int x3, .int x4, .int x5, .int x6, .null]) rfl ?_
        exact hK _ _ H
      · refine R_icmp_gt_f dX1_gather_41 (tgt := 107) (by decide) c5 ?_
        refine R_aload_n dX1_gather_44 rfl rfl ?_
        refine R_getX dX1_gather_45 lfX1_24 rfl rfl (x := h 28 4) rfl ?_
        refine R_sipush dX1_gather_48 (v := 384) (by decide) ?_
        rcases it_split H with ⟨c6, H⟩ | ⟨c6, H⟩
        · refine R_icmp_ge_t dX1_gather_51 (tgt := 101) (by decide) c6 ?_
          refine R_iincW dX1_gather_101 rfl (v := x7 + 1) rfl (by decide) rfl (ls2 := [.ref 28, .ref a1, .ref a2, .int x3, .int x4, .int x5, .int x6, .int (x7 + 1)]) rfl ?_
          refine R_goto dX1_gather_104 (tgt := 27) (by decide) ?_
          exact ih _ _ _ H
        · refine R_icmp_ge_f dX1_gather_51 (tgt := 101) (by decide) c6 ?_
          refine R_aload_n dX1_gather_54 rfl rfl ?_
          refine R_aload_n dX1_gather_55 rfl rfl ?_
          refine R_iload_n dX1_gather_56 rfl rfl ?_
          refine R_iload dX1_gather_57 rfl ?_
          refine R_iload dX1_gather_59 rfl ?_
          refine R_iload dX1_gather_61 rfl ?_
          obtain ⟨r8, e7, H⟩ := bn_some H
          refine R_cS dX1_gather_63 lvX1_39 ⟨Nat.le_of_ble_eq_true rfl, Nat.le_of_ble_eq_true rfl⟩ (av := [.ref a1, .ref a2, .int x3, .int x4, .int x6, .int x7]) (st := []) rfl rfl (Nat.le_of_ble_eq_true rfl) (tX1_fits ka1 ka2 e7) ?_
          rcases it_split H with ⟨c9, H⟩ | ⟨c9, H⟩
          · refine R_if_eq_t dX1_gather_66 (tgt := 101) (by decide) c9 ?_
            refine R_iincW dX1_gather_101 rfl (v := x7 + 1) rfl (by decide) rfl (ls2 := [.ref 28, .ref a1, .ref a2, .int x3, .int x4, .int x5, .int x6, .int (x7 + 1)]) rfl ?_
            refine R_goto dX1_gather_104 (tgt := 27) (by decide) ?_
            exact ih _ _ _ H
          · refine R_if_eq_f dX1_gather_66 (tgt := 101) (by decide) c9 ?_
            refine R_aload_n dX1_gather_69 rfl rfl ?_
            refine R_getF dX1_gather_70 lfX1_9 rfl rfl (q := 29) rfl ?_
            refine R_aload_n dX1_gather_73 rfl rfl ?_
            refine R_getX dX1_gather_74 lfX1_24 rfl rfl (x := h 28 4) rfl ?_
            refine R_iload dX1_gather_77 rfl ?_
            obtain ⟨c10, H⟩ := it_some H
            refine R_iastX dX1_gather_79 rfl rfl (ck_in c10) (j := tn (h 28 4)) rfl ?_
            refine R_aload_n dX1_gather_80 rfl rfl ?_
            refine R_getF dX1_gather_81 lfX1_15 rfl rfl (q := 30) rfl ?_
            refine R_aload_n dX1_gather_84 rfl rfl ?_
            refine R_getX dX1_gather_85 lfX1_24 rfl rfl (x := h 28 4) rfl ?_
            refine R_iload dX1_gather_88 rfl ?_
            refine R_iastX dX1_gather_90 rfl rfl (ck_in c10) (j := tn (h 28 4)) rfl ?_
            refine R_aload_n dX1_gather_91 rfl rfl ?_
            refine R_dup dX1_gather_92 rfl ?_
            refine R_getX dX1_gather_93 lfX1_24 rfl rfl (x := h 28 4) rfl ?_
            refine R_iconst dX1_gather_96 (v := 1) (by decide) ?_
            refine R_iadd dX1_gather_97 ?_
            refine R_putI dX1_gather_98 lfX1_24 rfl rfl ?_
            refine R_iincW dX1_gather_101 rfl (v := x7 + 1) rfl (by decide) rfl (ls2 := [.ref 28, .ref a1, .ref a2, .int x3, .int x4, .int x5, .int x6, .int (x7 + 1)]) rfl ?_
            refine R_goto dX1_gather_104 (tgt := 27) (by decide) ?_
            exact ih _ _ _ H

set_option maxRecDepth 100000 in
set_option maxHeartbeats 4000000 in
theorem tX1_gather_L15 {sp : Nat × (Nat → Int32)} {K : aH → Option aH} {a1 : Nat} {a2 : Nat} {x3 : Int32} {x4 : Int32} {x5 : Int32} (ka1 : kC a1 = 6) (ka2 : kC a2 = 0) (hK : ∀ (hk : aH) (h2 : aH), K hk = some h2 → Rn sp mX1_gather 113 [.null, .null, .null, .null, .null, .null, .null, .null] [] hk none h2) : ∀ (n : Nat) (h : aH) (x6 : Int32) (h2 : aH), fX1_gather_L15 K a1 a2 x3 x4 x5 n h x6 = some h2 → Rn sp mX1_gather 15 [.ref 28, .ref a1, .ref a2, .int x3, .int x4, .int x5, .int x6, .null] [] h none h2 := by
  intro n
  induction n with
  | zero =>
    intro h x6 h2 H
    rw [fX1_gather_L15] at H
    cases H
  | succ n ih =>
    intro h x6 h2 H
    rw [fX1_gather_L15] at H
    refine R_iload dX1_gather_15 rfl ?_
    refine R_aload_n dX1_gather_17 rfl rfl ?_
    refine R_getX dX1_gather_18 lfX1_34 ka1 rfl (x := h a1 5) rfl ?_
    rcases it_split H with ⟨c3, H⟩ | ⟨c3, H⟩
    · refine R_icmp_ge_t dX1_gather_21 (tgt := 113) (by decide) c3 ?_
      refine R_null (i := 0) (ls2 := [.null, .ref a1, .ref a2, .int x3, .int x4, .int x5, .int x6, .null]) rfl ?_
      refine R_null (i := 1) (ls2 := [.null, .null, .ref a2, .int x3, .int x4, .int x5, .int x6, .null]) rfl ?_
      refine R_null (i := 2) (ls2 := [.null, .null, .null, .int x3, .int x4, .int x5, .int x6, .null]) rfl ?_
      refine R_null (i := 3) (ls2 := [.null, .null, .null, .null, .int x4, .int x5, .int x6, .null]) rfl ?_
      refine R_null (i := 4) (ls2 := [.null, .null, .null, .null, .null, .int x5, .int x6, .null]) rfl ?_
      refine R_null (i := 5) (ls2 := [.null, .null, .null, .null, .null, .null, .int x6, .null]) rfl ?_
      refine R_null (i := 6) (ls2 := [.null, .null, .null, .null, .null, .null, .null, .null]) rfl ?_
      exact hK _ _ H
    · refine R_icmp_ge_f dX1_gather_21 (tgt := 113) (by decide) c3 ?_
      refine R_iconst dX1_gather_24 (v := 0) (by decide) ?_
      refine R_istoreW dX1_gather_25 (by decide) rfl (ls2 := [.ref 28, .ref a1, .ref a2, .int x3, .int x4, .int x5, .int x6, .int 0]) rfl ?_
      refine tX1_gather_L27 ka1 ka2 (fun h11 h2 H => ?_) _ _ _ _ H
      refine R_iincW dX1_gather_107 rfl (v := x6 + 1) rfl (by decide) rfl (ls2 := [.ref 28, .ref a1, .ref a2, .int x3, .int x4, .int x5, .int (x6 + 1), .null]) rfl ?_
      refine R_goto dX1_gather_110 (tgt := 15) (by decide) ?_
      exact ih _ _ _ H

set_option maxRecDepth 100000 in
set_option maxHeartbeats 4000000 in
theorem tX1_gather {h : aH} {a1 : Nat} {a2 : Nat} {x3 : Int32} {x4 : Int32} {h2 : aH} (ka1 : kC a1 = 6) (ka2 : kC a2 = 0) (H : fX1_gather h a1 a2 x3 x4 = some h2) : Ev mX1_gather [.ref 28, .ref a1, .ref a2, .int x3, .int x4] h none h2 := by
  unfold fX1_gather at H
  refine Ev_of (sp := (0, fun _ => 0)) oX1_gather nlX1 (Nat.le_of_ble_eq_true rfl) (ls0 := [.ref 28, .ref a1, .ref a2, .int x3, .int x4, .null, .null, .null]) rfl ?_
  refine R_aload_n dX1_gather_0 rfl rfl ?_
  refine R_iconst dX1_gather_1 (v := 0) (by decide) ?_
  refine R_putI dX1_gather_2 lfX1_24 rfl rfl ?_
  refine R_aload_n dX1_gather_5 rfl rfl ?_
  refine R_iload_n dX1_gather_6 rfl rfl ?_
  obtain ⟨r2, e1, H⟩ := bn_some H
  refine R_cV dX1_gather_7 lvX1_28 ⟨Nat.le_of_ble_eq_true rfl, Nat.le_of_ble_eq_true rfl⟩ (r := a2) ka2 (av := [.int x3]) (st := []) rfl rfl (Nat.le_of_ble_eq_true rfl) (tX0_countOf ka2 e1) ?_
  refine R_istoreW dX1_gather_10 (by decide) rfl (ls2 := [.ref 28, .ref a1, .ref a2, .int x3, .int x4, .int r2, .null, .null]) rfl ?_
  refine R_iconst dX1_gather_12 (v := 0) (by decide) ?_
  refine R_istoreW dX1_gather_13 (by decide) rfl (ls2 := [.ref 28, .ref a1, .ref a2, .int x3, .int x4, .int r2, .int 0, .null]) rfl ?_
  refine tX1_gather_L15 ka1 ka2 (fun h12 h2 H => ?_) _ _ _ _ H
  obtain rfl := Option.some.inj H
  exact R_ret (o := none) dX1_gather_113 rfl

set_option maxRecDepth 100000 in
set_option maxHeartbeats 4000000 in
theorem tX1_kindOfLook {h : aH} {x0 : Int32} {r : Int32} (H : fX1_kindOfLook x0 = some r) : Ev mX1_kindOfLook [.int x0] h (some (.int r)) h := by
  unfold fX1_kindOfLook at H
  refine Ev_of (sp := (0, fun _ => 0)) oX1_kindOfLook nlX1 (Nat.le_of_ble_eq_true rfl) (ls0 := [.int x0, .null]) rfl ?_
  refine R_iload_n dX1_kindOfLook_0 rfl rfl ?_
  refine R_sipush dX1_kindOfLook_1 (v := 1000) (by decide) ?_
  refine R_idiv dX1_kindOfLook_4 (by decide) ?_
  refine R_bipush dX1_kindOfLook_5 (v := 16) (by decide) ?_
  refine R_imul dX1_kindOfLook_7 ?_
  refine R_iload_n dX1_kindOfLook_8 rfl rfl ?_
  refine R_sipush dX1_kindOfLook_9 (v := 1000) (by decide) ?_
  refine R_iremX dX1_kindOfLook_12 (by decide) ?_
  refine R_bipush dX1_kindOfLook_13 (v := 10) (by decide) ?_
  refine R_idiv dX1_kindOfLook_15 (by decide) ?_
  refine R_iadd dX1_kindOfLook_16 ?_
  refine R_bipush dX1_kindOfLook_17 (v := 10) (by decide) ?_
  refine R_imul dX1_kindOfLook_19 ?_
  refine R_iload_n dX1_kindOfLook_20 rfl rfl ?_
  refine R_bipush dX1_kindOfLook_21 (v := 10) (by decide) ?_
  refine R_iremX dX1_kindOfLook_23 (by decide) ?_
  refine R_iadd dX1_kindOfLook_24 ?_
  refine R_istoreN dX1_kindOfLook_25 rfl (by decide) rfl (ls2 := [.int x0, .int (((((x0 / 1000) * 16) + ((rmd x0 1000) / 10)) * 10) + (rmd x0 10))]) rfl ?_
  refine R_iload_n dX1_kindOfLook_26 rfl rfl ?_
  rcases it_split H with ⟨c1, H⟩ | ⟨c1, H⟩
  · refine R_if_lt_t dX1_kindOfLook_27 (tgt := 37) (by decide) c1 ?_
    refine R_iconst dX1_kindOfLook_37 (v := 0) (by decide) ?_
    refine R_goto dX1_kindOfLook_38 (tgt := 42) (by decide) ?_
    obtain rfl := Option.some.inj H
    exact R_retI dX1_kindOfLook_42 rfl (Or.inl rfl)
  · refine R_if_lt_f dX1_kindOfLook_27 (tgt := 37) (by decide) c1 ?_
    refine R_iload_n dX1_kindOfLook_30 rfl rfl ?_
    refine R_sipush dX1_kindOfLook_31 (v := 1440) (by decide) ?_
    rcases it_split H with ⟨c2, H⟩ | ⟨c2, H⟩
    · refine R_icmp_lt_t dX1_kindOfLook_34 (tgt := 41) (by decide) c2 ?_
      refine R_iload_n dX1_kindOfLook_41 rfl rfl ?_
      obtain rfl := Option.some.inj H
      exact R_retI dX1_kindOfLook_42 rfl (Or.inl rfl)
    · refine R_icmp_lt_f dX1_kindOfLook_34 (tgt := 41) (by decide) c2 ?_
      refine R_iconst dX1_kindOfLook_37 (v := 0) (by decide) ?_
      refine R_goto dX1_kindOfLook_38 (tgt := 42) (by decide) ?_
      obtain rfl := Option.some.inj H
      exact R_retI dX1_kindOfLook_42 rfl (Or.inl rfl)

set_option maxRecDepth 100000 in
set_option maxHeartbeats 4000000 in
theorem tX1_greatestPart_L2 {sp : Nat × (Nat → Int32)} {K : aH → Option (Int32 × aH)} {a1 : Nat} {x2 : Int32} (ka1 : kC a1 = 6) (hK : ∀ (hk : aH) (r : Int32) (h2 : aH), K hk = some (r, h2) → Rn sp mX1_greatestPart 55 [.ref 28, .null, .null, .null, .null, .null] [] hk (some (.int r)) h2) : ∀ (n : Nat) (h : aH) (x3 : Int32) (r : Int32) (h2 : aH), fX1_greatestPart_L2 K a1 x2 n h x3 = some (r, h2) → Rn sp mX1_greatestPart 2 [.ref 28, .ref a1, .int x2, .int x3, .null, .null] [] h (some (.int r)) h2 := by
  intro n
  induction n with
  | zero =>
    intro h x3 r h2 H
    rw [fX1_greatestPart_L2] at H
    cases H
  | succ n ih =>
    intro h x3 r h2 H
    rw [fX1_greatestPart_L2] at H
    refine R_iload_n dX1_greatestPart_2 rfl rfl ?_
    refine R_aload_n dX1_greatestPart_3 rfl rfl ?_
    refine R_getX dX1_greatestPart_4 lfX1_24 rfl rfl (x := h 28 4) rfl ?_
    rcases it_split H with ⟨c1, H⟩ | ⟨c1, H⟩
    · refine R_icmp_ge_t dX1_greatestPart_7 (tgt := 55) (by decide) c1 ?_
      refine R_null (i := 1) (ls2 := [.ref 28, .null, .int x2, .int x3, .null, .null]) rfl ?_
      refine R_null (i := 2) (ls2 := [.ref 28, .null, .null, .int x3, .null, .null]) rfl ?_
      refine R_null (i := 3) (ls2 := [.ref 28, .null, .null, .null, .null, .null]) rfl ?_
      exact hK _ _ _ H
    · refine R_icmp_ge_f dX1_greatestPart_7 (tgt := 55) (by decide) c1 ?_
      refine R_aload_n dX1_greatestPart_10 rfl rfl ?_
      refine R_getF dX1_greatestPart_11 lfX1_18 rfl rfl (q := 31) rfl ?_
      refine R_iload_n dX1_greatestPart_14 rfl rfl ?_
      refine R_aload_n dX1_greatestPart_15 rfl rfl ?_
      refine R_aload_n dX1_greatestPart_16 rfl rfl ?_
      refine R_getF dX1_greatestPart_17 lfX1_9 rfl rfl (q := 29) rfl ?_
      refine R_iload_n dX1_greatestPart_20 rfl rfl ?_
      obtain ⟨c2, H⟩ := it_some H
      refine R_ildY dX1_greatestPart_21 rfl rfl (ck_in c2) (j := tn x3) rfl (x := h 29 (tn x3)) rfl ?_
      refine R_aload_n dX1_greatestPart_22 rfl rfl ?_
      refine R_getF dX1_greatestPart_23 lfX1_15 rfl rfl (q := 30) rfl ?_
      refine R_iload_n dX1_greatestPart_26 rfl rfl ?_
      refine R_ildY dX1_greatestPart_27 rfl rfl (ck_in c2) (j := tn x3) rfl (x := h 30 (tn x3)) rfl ?_
      refine R_iload_n dX1_greatestPart_28 rfl rfl ?_
      refine R_iadd dX1_greatestPart_29 ?_
      obtain ⟨r4, e3, H⟩ := bn_some H
      refine R_cV dX1_greatestPart_30 lvX1_47 ⟨Nat.le_of_ble_eq_true rfl, Nat.le_of_ble_eq_true rfl⟩ (r := a1) ka1 (av := [.int (h 29 (tn x3)), .int ((h 30 (tn x3)) + x2)]) (st := [.int x3, .ref 31]) rfl rfl (Nat.le_of_ble_eq_true rfl) (tX6_lookAt ka1 e3) ?_
      obtain ⟨r6, e5, H⟩ := bn_some H
      refine R_cS dX1_greatestPart_33 lvX1_55 ⟨Nat.le_of_ble_eq_true rfl, Nat.le_of_ble_eq_true rfl⟩ (av := [.int r4]) (st := [.int x3, .ref 31]) rfl rfl (Nat.le_of_ble_eq_true rfl) (tX1_kindOfLook e5) ?_
      refine R_iastX dX1_greatestPart_36 rfl rfl (ck_in c2) (j := tn x3) rfl ?_
      refine R_aload_n dX1_greatestPart_37 rfl rfl ?_
      refine R_getF dX1_greatestPart_38 lfX1_21 rfl rfl (q := 32) rfl ?_
      refine R_aload_n dX1_greatestPart_41 rfl rfl ?_
      refine R_getF dX1_greatestPart_42 lfX1_18 rfl rfl (q := 31) rfl ?_
      refine R_iload_n dX1_greatestPart_45 rfl rfl ?_
      refine R_ildY dX1_greatestPart_46 rfl rfl (ck_in c2) (j := tn x3) rfl (x := r6) (by simp [aU, upd]) ?_
      refine R_iconst dX1_greatestPart_47 (v := 0) (by decide) ?_
      obtain ⟨c7, H⟩ := it_some H
      refine R_iastX dX1_greatestPart_48 rfl rfl (ck_in c7) (j := tn r6) rfl ?_
      refine R_iincW dX1_greatestPart_49 rfl (v := x3 + 1) rfl (by decide) rfl (ls2 := [.ref 28, .ref a1, .int x2, .int (x3 + 1), .null, .null]) rfl ?_
      refine R_goto dX1_greatestPart_52 (tgt := 2) (by decide) ?_
      exact ih _ _ _ _ H

set_option maxRecDepth 100000 in
set_option maxHeartbeats 4000000 in
theorem tX1_greatestPart_L60 {sp : Nat × (Nat → Int32)} {K : aH → Int32 → Option (Int32 × aH)} (hK : ∀ (hk : aH) (y3 : Int32) (r : Int32) (h2 : aH), K hk y3 = some (r, h2) → Rn sp mX1_greatestPart 112 [.null, .null, .null, .int y3, .null, .null] [] hk (some (.int r)) h2) : ∀ (n : Nat) (h : aH) (x3 x4 : Int32) (r : Int32) (h2 : aH), fX1_greatestPart_L60 K n h x3 x4 = some (r, h2) → Rn sp mX1_greatestPart 60 [.ref 28, .null, .null, .int x3, .int x4, .null] [] h (some (.int r)) h2 := by
  intro n
  induction n with
  | zero =>
    intro h x3 x4 r h2 H
    rw [fX1_greatestPart_L60] at H
    cases H
  | succ n ih =>
    intro h x3 x4 r h2 H
    rw [fX1_greatestPart_L60] at H
    refine R_iload dX1_greatestPart_60 rfl ?_
    refine R_aload_n dX1_greatestPart_62 rfl rfl ?_
    refine R_getX dX1_greatestPart_63 lfX1_24 rfl rfl (x := h 28 4) rfl ?_
    rcases it_split H with ⟨c9, H⟩ | ⟨c9, H⟩
    · refine R_icmp_ge_t dX1_greatestPart_66 (tgt := 112) (by decide) c9 ?_
      refine R_null (i := 0) (ls2 := [.null, .null, .null, .int x3, .int x4, .null]) rfl ?_
      refine R_null (i := 4) (ls2 := [.null, .null, .null, .int x3, .null, .null]) rfl ?_
      exact hK _ _ _ _ H
    · refine R_icmp_ge_f dX1_greatestPart_66 (tgt := 112) (by decide) c9 ?_
      refine R_aload_n dX1_greatestPart_69 rfl rfl ?_
      refine R_getF dX1_greatestPart_70 lfX1_21 rfl rfl (q := 32) rfl ?_
      refine R_aload_n dX1_greatestPart_73 rfl rfl ?_
      refine R_getF dX1_greatestPart_74 lfX1_18 rfl rfl (q := 31) rfl ?_
      refine R_iload dX1_greatestPart_77 rfl ?_
      obtain ⟨c10, H⟩ := it_some H
      refine R_ildY dX1_greatestPart_79 rfl rfl (ck_in c10) (j := tn x4) rfl (x := h 31 (tn x4)) rfl ?_
      obtain ⟨c11, H⟩ := it_some H
      refine R_ildY dX1_greatestPart_80 rfl rfl (ck_in c11) (j := tn (h 31 (tn x4))) rfl (x := h 32 (tn (h 31 (tn x4)))) rfl ?_
      refine R_iconst dX1_greatestPart_81 (v := 1) (by decide) ?_
      refine R_iadd dX1_greatestPart_82 ?_
      refine R_istoreW dX1_greatestPart_83 (by decide) rfl (ls2 := [.ref 28, .null, .null, .int x3, .int x4, .int ((h 32 (tn (h 31 (tn x4)))) + 1)]) rfl ?_
      refine R_aload_n dX1_greatestPart_85 rfl rfl ?_
      refine R_getF dX1_greatestPart_86 lfX1_21 rfl rfl (q := 32) rfl ?_
      refine R_aload_n dX1_greatestPart_89 rfl rfl ?_
      refine R_getF dX1_greatestPart_90 lfX1_18 rfl rfl (q := 31) rfl ?_
      refine R_iload dX1_greatestPart_93 rfl ?_
      refine R_ildY dX1_greatestPart_95 rfl rfl (ck_in c10) (j := tn x4) rfl (x := h 31 (tn x4)) rfl ?_
      refine R_iload dX1_greatestPart_96 rfl ?_
      refine R_iastX dX1_greatestPart_98 rfl rfl (ck_in c11) (j := tn (h 31 (tn x4))) rfl ?_
      refine R_iload_n dX1_greatestPart_99 rfl rfl ?_
      refine R_iload dX1_greatestPart_100 rfl ?_
      refine R_max dX1_greatestPart_102 lmX1_58 (by decide) (Nat.le_of_ble_eq_true rfl) ?_
      refine R_istoreN dX1_greatestPart_105 rfl (by decide) rfl (ls2 := [.ref 28, .null, .null, .int (if x3 < ((h 32 (tn (h 31 (tn x4)))) + 1) then ((h 32 (tn (h 31 (tn x4)))) + 1) else x3), .int x4, .int ((h 32 (tn (h 31 (tn x4)))) + 1)]) rfl ?_
      refine R_iincW dX1_greatestPart_106 rfl (v := x4 + 1) rfl (by decide) rfl (ls2 := [.ref 28, .null, .null, .int (if x3 < ((h 32 (tn (h 31 (tn x4)))) + 1) then ((h 32 (tn (h 31 (tn x4)))) + 1) else x3), .int (x4 + 1), .int ((h 32 (tn (h 31 (tn x4)))) + 1)]) rfl ?_
      refine R_goto dX1_greatestPart_109 (tgt := 60) (by decide) ?_
      refine R_null (i := 5) (ls2 := [.ref 28, .null, .null, .int (if x3 < ((h 32 (tn (h 31 (tn x4)))) + 1) then ((h 32 (tn (h 31 (tn x4)))) + 1) else x3), .int (x4 + 1), .null]) rfl ?_
      exact ih _ _ _ _ _ H

set_option maxRecDepth 100000 in
set_option maxHeartbeats 4000000 in
theorem tX1_greatestPart {h : aH} {a1 : Nat} {x2 : Int32} {r : Int32} {h2 : aH} (ka1 : kC a1 = 6) (H : fX1_greatestPart h a1 x2 = some (r, h2)) : Ev mX1_greatestPart [.ref 28, .ref a1, .int x2] h (some (.int r)) h2 := by
  unfold fX1_greatestPart at H
  refine Ev_of (sp := (0, fun _ => 0)) oX1_greatestPart nlX1 (Nat.le_of_ble_eq_true rfl) (ls0 := [.ref 28, .ref a1, .int x2, .null, .null, .null]) rfl ?_
  refine R_iconst dX1_greatestPart_0 (v := 0) (by decide) ?_
  refine R_istoreN dX1_greatestPart_1 rfl (by decide) rfl (ls2 := [.ref 28, .ref a1, .int x2, .int 0, .null, .null]) rfl ?_
  refine tX1_greatestPart_L2 ka1 (fun h8 r h2 H => ?_) _ _ _ _ _ H
  refine R_iconst dX1_greatestPart_55 (v := 0) (by decide) ?_
  refine R_istoreN dX1_greatestPart_56 rfl (by decide) rfl (ls2 := [.ref 28, .null, .null, .int 0, .null, .null]) rfl ?_
  refine R_iconst dX1_greatestPart_57 (v := 0) (by decide) ?_
  refine R_istoreW dX1_greatestPart_58 (by decide) rfl (ls2 := [.ref 28, .null, .null, .int 0, .int 0, .null]) rfl ?_
  refine tX1_greatestPart_L60 (fun h13 z12 r h2 H => ?_) _ _ _ _ _ _ H
  refine R_iload_n dX1_greatestPart_112 rfl rfl ?_
  obtain ⟨rfl, rfl⟩ := so2 H
  exact R_retI dX1_greatestPart_113 rfl (Or.inl rfl)

set_option maxRecDepth 100000 in
set_option maxHeartbeats 4000000 in
theorem tX1_bestLetter_L11 {sp : Nat × (Nat → Int32)} {K : aH → Int32 → Option (Int32 × aH)} {a1 : Nat} {x2 : Int32} (ka1 : kC a1 = 6) (hK : ∀ (hk : aH) (y3 : Int32) (r : Int32) (h2 : aH), K hk y3 = some (r, h2) → Rn sp mX1_bestLetter 46 [.null, .null, .null, .int y3, .null, .null, .null] [] hk (some (.int r)) h2) : ∀ (n : Nat) (h : aH) (x3 x4 x5 : Int32) (r : Int32) (h2 : aH), fX1_bestLetter_L11 K a1 x2 n h x3 x4 x5 = some (r, h2) → Rn sp mX1_bestLetter 11 [.ref 28, .ref a1, .int x2, .int x3, .int x4, .int x5, .null] [] h (some (.int r)) h2 := by
  intro n
  induction n with
  | zero =>
    intro h x3 x4 x5 r h2 H
    rw [fX1_bestLetter_L11] at H
    cases H
  | succ n ih =>
    intro h x3 x4 x5 r h2 H
    rw [fX1_bestLetter_L11] at H
    refine R_iload dX1_bestLetter_11 rfl ?_
    refine R_iload_n dX1_bestLetter_13 rfl rfl ?_
    rcases it_split H with ⟨c1, H⟩ | ⟨c1, H⟩
    · refine R_icmp_ge_t dX1_bestLetter_14 (tgt := 46) (by decide) c1 ?_
      refine R_null (i := 0) (ls2 := [.null, .ref a1, .int x2, .int x3, .int x4, .int x5, .null]) rfl ?_
      refine R_null (i := 1) (ls2 := [.null, .null, .int x2, .int x3, .int x4, .int x5, .null]) rfl ?_
      refine R_null (i := 2) (ls2 := [.null, .null, .null, .int x3, .int x4, .int x5, .null]) rfl ?_
      refine R_null (i := 4) (ls2 := [.null, .null, .null, .int x3, .null, .int x5, .null]) rfl ?_
      refine R_null (i := 5) (ls2 := [.null, .null, .null, .int x3, .null, .null, .null]) rfl ?_
      exact hK _ _ _ _ H
    · refine R_icmp_ge_f dX1_bestLetter_14 (tgt := 46) (by decide) c1 ?_
      refine R_aload_n dX1_bestLetter_17 rfl rfl ?_
      refine R_aload_n dX1_bestLetter_18 rfl rfl ?_
      refine R_iload dX1_bestLetter_19 rfl ?_
      obtain ⟨r4, h3, e2, H⟩ := bn2_some H
      refine R_cV dX1_bestLetter_21 lvX1_51 ⟨Nat.le_of_ble_eq_true rfl, Nat.le_of_ble_eq_true rfl⟩ (r := 28) rfl (av := [.ref a1, .int x5]) (st := []) rfl rfl (Nat.le_of_ble_eq_true rfl) (tX1_greatestPart ka1 e2) ?_
      refine R_istoreW dX1_bestLetter_24 (by decide) rfl (ls2 := [.ref 28, .ref a1, .int x2, .int x3, .int x4, .int x5, .int r4]) rfl ?_
      refine R_iload dX1_bestLetter_26 rfl ?_
      refine R_iload dX1_bestLetter_28 rfl ?_
      rcases it_split H with ⟨c5, H⟩ | ⟨c5, H⟩
      · refine R_icmp_ge_t dX1_bestLetter_30 (tgt := 40) (by decide) c5 ?_
        refine R_iincW dX1_bestLetter_40 rfl (v := x5 + 1) rfl (by decide) rfl (ls2 := [.ref 28, .ref a1, .int x2, .int x3, .int x4, .int (x5 + 1), .int r4]) rfl ?_
        refine R_goto dX1_bestLetter_43 (tgt := 11) (by decide) ?_
        refine R_null (i := 6) (ls2 := [.ref 28, .ref a1, .int x2, .int x3, .int x4, .int (x5 + 1), .null]) rfl ?_
        exact ih _ _ _ _ _ _ H
      · refine R_icmp_ge_f dX1_bestLetter_30 (tgt := 40) (by decide) c5 ?_
        refine R_iload dX1_bestLetter_33 rfl ?_
        refine R_istoreW dX1_bestLetter_35 (by decide) rfl (ls2 := [.ref 28, .ref a1, .int x2, .int x3, .int r4, .int x5, .int r4]) rfl ?_
        refine R_iload dX1_bestLetter_37 rfl ?_
        refine R_istoreN dX1_bestLetter_39 rfl (by decide) rfl (ls2 := [.ref 28, .ref a1, .int x2, .int x5, .int r4, .int x5, .int r4]) rfl ?_
        refine R_iincW dX1_bestLetter_40 rfl (v := x5 + 1) rfl (by decide) rfl (ls2 := [.ref 28, .ref a1, .int x2, .int x5, .int r4, .int (x5 + 1), .int r4]) rfl ?_
        refine R_goto dX1_bestLetter_43 (tgt := 11) (by decide) ?_
        refine R_null (i := 6) (ls2 := [.ref 28, .ref a1, .int x2, .int x5, .int r4, .int (x5 + 1), .null]) rfl ?_
        exact ih _ _ _ _ _ _ H

set_option maxRecDepth 100000 in
set_option maxHeartbeats 4000000 in
theorem tX1_bestLetter {h : aH} {a1 : Nat} {x2 : Int32} {r : Int32} {h2 : aH} (ka1 : kC a1 = 6) (H : fX1_bestLetter h a1 x2 = some (r, h2)) : Ev mX1_bestLetter [.ref 28, .ref a1, .int x2] h (some (.int r)) h2 := by
  unfold fX1_bestLetter at H
  refine Ev_of (sp := (0, fun _ => 0)) oX1_bestLetter nlX1 (Nat.le_of_ble_eq_true rfl) (ls0 := [.ref 28, .ref a1, .int x2, .null, .null, .null, .null]) rfl ?_
  refine R_iconst dX1_bestLetter_0 (v := (-1)) (by decide) ?_
  refine R_istoreN dX1_bestLetter_1 rfl (by decide) rfl (ls2 := [.ref 28, .ref a1, .int x2, .int (-1), .null, .null, .null]) rfl ?_
  refine R_aload_n dX1_bestLetter_2 rfl rfl ?_
  refine R_getX dX1_bestLetter_3 lfX1_24 rfl rfl (x := h 28 4) rfl ?_
  refine R_istoreW dX1_bestLetter_6 (by decide) rfl (ls2 := [.ref 28, .ref a1, .int x2, .int (-1), .int (h 28 4), .null, .null]) rfl ?_
  refine R_iconst dX1_bestLetter_8 (v := 0) (by decide) ?_
  refine R_istoreW dX1_bestLetter_9 (by decide) rfl (ls2 := [.ref 28, .ref a1, .int x2, .int (-1), .int (h 28 4), .int 0, .null]) rfl ?_
  refine tX1_bestLetter_L11 ka1 (fun h7 z6 r h2 H => ?_) _ _ _ _ _ _ _ H
  refine R_iload_n dX1_bestLetter_46 rfl rfl ?_
  obtain ⟨rfl, rfl⟩ := so2 H
  exact R_retI dX1_bestLetter_47 rfl (Or.inl rfl)

set_option maxRecDepth 100000 in
set_option maxHeartbeats 4000000 in
theorem tX2_enter {h : aH} {x1 : Int32} {x2 : Int32} {x3 : Int32} {r : Int32} {h2 : aH} (H : fX2_enter h x1 x2 x3 = some (r, h2)) : Ev mX2_enter [.ref 24, .int x1, .int x2, .int x3] h (some (.int r)) h2 := by
  unfold fX2_enter at H
  refine Ev_of (sp := (0, fun _ => 0)) oX2_enter nlX2 (Nat.le_of_ble_eq_true rfl) (ls0 := [.ref 24, .int x1, .int x2, .int x3]) rfl ?_
  refine R_aload_n dX2_enter_0 rfl rfl ?_
  refine R_getX dX2_enter_1 lfX2_21 rfl rfl (x := h 24 3) rfl ?_
  rcases it_split H with ⟨c1, H⟩ | ⟨c1, H⟩
  · refine R_if_lt_t dX2_enter_4 (tgt := 16) (by decide) c1 ?_
    refine R_ldc dX2_enter_16 lcX2_25 ?_
    obtain ⟨rfl, rfl⟩ := so2 H
    exact R_retI dX2_enter_18 rfl (Or.inl rfl)
  · refine R_if_lt_f dX2_enter_4 (tgt := 16) (by decide) c1 ?_
    refine R_aload_n dX2_enter_7 rfl rfl ?_
    refine R_getX dX2_enter_8 lfX2_21 rfl rfl (x := h 24 3) rfl ?_
    refine R_bipush dX2_enter_11 (v := 20) (by decide) ?_
    rcases it_split H with ⟨c2, H⟩ | ⟨c2, H⟩
    · refine R_icmp_lt_t dX2_enter_13 (tgt := 19) (by decide) c2 ?_
      refine R_aload_n dX2_enter_19 rfl rfl ?_
      refine R_getF dX2_enter_20 lfX2_9 rfl rfl (q := 25) rfl ?_
      refine R_aload_n dX2_enter_23 rfl rfl ?_
      refine R_getX dX2_enter_24 lfX2_21 rfl rfl (x := h 24 3) rfl ?_
      refine R_iload_n dX2_enter_27 rfl rfl ?_
      obtain ⟨c3, H⟩ := it_some H
      refine R_iastX dX2_enter_28 rfl rfl (ck_in c3) (j := tn (h 24 3)) rfl ?_
      refine R_aload_n dX2_enter_29 rfl rfl ?_
      refine R_getF dX2_enter_30 lfX2_15 rfl rfl (q := 26) rfl ?_
      refine R_aload_n dX2_enter_33 rfl rfl ?_
      refine R_getX dX2_enter_34 lfX2_21 rfl rfl (x := h 24 3) rfl ?_
      refine R_iload_n dX2_enter_37 rfl rfl ?_
      refine R_iastX dX2_enter_38 rfl rfl (ck_in c3) (j := tn (h 24 3)) rfl ?_
      refine R_aload_n dX2_enter_39 rfl rfl ?_
      refine R_getF dX2_enter_40 lfX2_18 rfl rfl (q := 27) rfl ?_
      refine R_aload_n dX2_enter_43 rfl rfl ?_
      refine R_getX dX2_enter_44 lfX2_21 rfl rfl (x := h 24 3) rfl ?_
      refine R_iload_n dX2_enter_47 rfl rfl ?_
      refine R_iastX dX2_enter_48 rfl rfl (ck_in c3) (j := tn (h 24 3)) rfl ?_
      refine R_aload_n dX2_enter_49 rfl rfl ?_
      refine R_dup dX2_enter_50 rfl ?_
      refine R_getX dX2_enter_51 lfX2_21 rfl rfl (x := h 24 3) rfl ?_
      refine R_iconst dX2_enter_54 (v := 1) (by decide) ?_
      refine R_iadd dX2_enter_55 ?_
      refine R_putI dX2_enter_56 lfX2_21 rfl rfl ?_
      refine R_aload_n dX2_enter_59 rfl rfl ?_
      refine R_getX dX2_enter_60 lfX2_21 rfl rfl (x := (h 24 3) + 1) rfl ?_
      obtain ⟨rfl, rfl⟩ := so2 H
      exact R_retI dX2_enter_63 rfl (Or.inl rfl)
    · refine R_icmp_lt_f dX2_enter_13 (tgt := 19) (by decide) c2 ?_
      refine R_ldc dX2_enter_16 lcX2_25 ?_
      obtain ⟨rfl, rfl⟩ := so2 H
      exact R_retI dX2_enter_18 rfl (Or.inl rfl)

set_option maxRecDepth 100000 in
set_option maxHeartbeats 4000000 in
theorem tX2_firstWrong_L2 {sp : Nat × (Nat → Int32)} {K : Unit → Option Int32} {h : aH} {a1 : Nat} {a2 : Nat} (ka1 : kC a1 = 6) (ka2 : kC a2 = 0) (hK : ∀ (_ : Unit) (r : Int32), K () = some r → Rn sp mX2_firstWrong 69 [.null, .null, .null, .null, .null, .null] [] h (some (.int r)) h) : ∀ (n : Nat) (x3 : Int32) (r : Int32), fX2_firstWrong_L2 K h a1 a2 n x3 = some r → Rn sp mX2_firstWrong 2 [.ref 24, .ref a1, .ref a2, .int x3, .null, .null] [] h (some (.int r)) h := by
  intro n
  induction n with
  | zero =>
    intro x3 r H
    rw [fX2_firstWrong_L2] at H
    cases H
  | succ n ih =>
    intro x3 r H
    rw [fX2_firstWrong_L2] at H
    refine R_iload_n dX2_firstWrong_2 rfl rfl ?_
    refine R_aload_n dX2_firstWrong_3 rfl rfl ?_
    refine R_getX dX2_firstWrong_4 lfX2_21 rfl rfl (x := h 24 3) rfl ?_
    rcases it_split H with ⟨c1, H⟩ | ⟨c1, H⟩
    · refine R_icmp_ge_t dX2_firstWrong_7 (tgt := 69) (by decide) c1 ?_
      refine R_null (i := 0) (ls2 := [.null, .ref a1, .ref a2, .int x3, .null, .null]) rfl ?_
      refine R_null (i := 1) (ls2 := [.null, .null, .ref a2, .int x3, .null, .null]) rfl ?_
      refine R_null (i := 2) (ls2 := [.null, .null, .null, .int x3, .null, .null]) rfl ?_
      refine R_null (i := 3) (ls2 := [.null, .null, .null, .null, .null, .null]) rfl ?_
      exact hK () _ H
    · refine R_icmp_ge_f dX2_firstWrong_7 (tgt := 69) (by decide) c1 ?_
      refine R_iload_n dX2_firstWrong_10 rfl rfl ?_
      refine R_bipush dX2_firstWrong_11 (v := 20) (by decide) ?_
      rcases it_split H with ⟨c2, H⟩ | ⟨c2, H⟩
      · refine R_icmp_ge_t dX2_firstWrong_13 (tgt := 69) (by decide) c2 ?_
        refine R_null (i := 0) (ls2 := [.null, .ref a1, .ref a2, .int x3, .null, .null]) rfl ?_
        refine R_null (i := 1) (ls2 := [.null, .null, .ref a2, .int x3, .null, .null]) rfl ?_
        refine R_null (i := 2) (ls2 := [.null, .null, .null, .int x3, .null, .null]) rfl ?_
        refine R_null (i := 3) (ls2 := [.null, .null, .null, .null, .null, .null]) rfl ?_
        exact hK () _ H
      · refine R_icmp_ge_f dX2_firstWrong_13 (tgt := 69) (by decide) c2 ?_
        refine R_aload_n dX2_firstWrong_16 rfl rfl ?_
        refine R_getF dX2_firstWrong_17 lfX2_9 rfl rfl (q := 25) rfl ?_
        refine R_iload_n dX2_firstWrong_20 rfl rfl ?_
        obtain ⟨c3, H⟩ := it_some H
        refine R_ildY dX2_firstWrong_21 rfl rfl (ck_in c3) (j := tn x3) rfl (x := h 25 (tn x3)) rfl ?_
        refine R_istoreW dX2_firstWrong_22 (by decide) rfl (ls2 := [.ref 24, .ref a1, .ref a2, .int x3, .int (h 25 (tn x3)), .null]) rfl ?_
        refine R_aload_n dX2_firstWrong_24 rfl rfl ?_
        refine R_getF dX2_firstWrong_25 lfX2_15 rfl rfl (q := 26) rfl ?_
        refine R_iload_n dX2_firstWrong_28 rfl rfl ?_
        refine R_ildY dX2_firstWrong_29 rfl rfl (ck_in c3) (j := tn x3) rfl (x := h 26 (tn x3)) rfl ?_
        refine R_istoreW dX2_firstWrong_30 (by decide) rfl (ls2 := [.ref 24, .ref a1, .ref a2, .int x3, .int (h 25 (tn x3)), .int (h 26 (tn x3))]) rfl ?_
        refine R_aload_n dX2_firstWrong_32 rfl rfl ?_
        refine R_iload dX2_firstWrong_33 rfl ?_
        refine R_iload dX2_firstWrong_35 rfl ?_
        obtain ⟨r5, e4, H⟩ := bn_some H
        refine R_cV dX2_firstWrong_37 lvX2_26 ⟨Nat.le_of_ble_eq_true rfl, Nat.le_of_ble_eq_true rfl⟩ (r := a2) ka2 (av := [.int (h 25 (tn x3)), .int (h 26 (tn x3))]) (st := []) rfl rfl (Nat.le_of_ble_eq_true rfl) (tX0_hasLetter ka2 e4) ?_
        rcases it_split H with ⟨c6, H⟩ | ⟨c6, H⟩
        · refine R_if_eq_t dX2_firstWrong_40 (tgt := 61) (by decide) c6 ?_
          refine R_iload_n dX2_firstWrong_61 rfl rfl ?_
          obtain rfl := Option.some.inj H
          exact R_retI dX2_firstWrong_62 rfl (Or.inl rfl)
        · refine R_if_eq_f dX2_firstWrong_40 (tgt := 61) (by decide) c6 ?_
          refine R_aload_n dX2_firstWrong_43 rfl rfl ?_
          refine R_aload_n dX2_firstWrong_44 rfl rfl ?_
          refine R_iload dX2_firstWrong_45 rfl ?_
          refine R_iload dX2_firstWrong_47 rfl ?_
          obtain ⟨r8, e7, H⟩ := bn_some H
          refine R_cV dX2_firstWrong_49 lvX2_32 ⟨Nat.le_of_ble_eq_true rfl, Nat.le_of_ble_eq_true rfl⟩ (r := a2) ka2 (av := [.ref a1, .int (h 25 (tn x3)), .int (h 26 (tn x3))]) (st := []) rfl rfl (Nat.le_of_ble_eq_true rfl) (tX0_lookOf ka2 ka1 e7) ?_
          refine R_aload_n dX2_firstWrong_52 rfl rfl ?_
          refine R_getF dX2_firstWrong_53 lfX2_18 rfl rfl (q := 27) rfl ?_
          refine R_iload_n dX2_firstWrong_56 rfl rfl ?_
          refine R_ildY dX2_firstWrong_57 rfl rfl (ck_in c3) (j := tn x3) rfl (x := h 27 (tn x3)) rfl ?_
          rcases it_split H with ⟨c9, H⟩ | ⟨c9, H⟩
          · refine R_icmp_eq_t dX2_firstWrong_58 (tgt := 63) (by decide) c9 ?_
            refine R_iincW dX2_firstWrong_63 rfl (v := x3 + 1) rfl (by decide) rfl (ls2 := [.ref 24, .ref a1, .ref a2, .int (x3 + 1), .int (h 25 (tn x3)), .int (h 26 (tn x3))]) rfl ?_
            refine R_goto dX2_firstWrong_66 (tgt := 2) (by decide) ?_
            refine R_null (i := 4) (ls2 := [.ref 24, .ref a1, .ref a2, .int (x3 + 1), .null, .int (h 26 (tn x3))]) rfl ?_
            refine R_null (i := 5) (ls2 := [.ref 24, .ref a1, .ref a2, .int (x3 + 1), .null, .null]) rfl ?_
            exact ih _ _ H
          · refine R_icmp_eq_f dX2_firstWrong_58 (tgt := 63) (by decide) c9 ?_
            refine R_iload_n dX2_firstWrong_61 rfl rfl ?_
            obtain rfl := Option.some.inj H
            exact R_retI dX2_firstWrong_62 rfl (Or.inl rfl)

set_option maxRecDepth 100000 in
set_option maxHeartbeats 4000000 in
theorem tX2_firstWrong {h : aH} {a1 : Nat} {a2 : Nat} {r : Int32} (ka1 : kC a1 = 6) (ka2 : kC a2 = 0) (H : fX2_firstWrong h a1 a2 = some r) : Ev mX2_firstWrong [.ref 24, .ref a1, .ref a2] h (some (.int r)) h := by
  unfold fX2_firstWrong at H
  refine Ev_of (sp := (0, fun _ => 0)) oX2_firstWrong nlX2 (Nat.le_of_ble_eq_true rfl) (ls0 := [.ref 24, .ref a1, .ref a2, .null, .null, .null]) rfl ?_
  refine R_iconst dX2_firstWrong_0 (v := 0) (by decide) ?_
  refine R_istoreN dX2_firstWrong_1 rfl (by decide) rfl (ls2 := [.ref 24, .ref a1, .ref a2, .int 0, .null, .null]) rfl ?_
  refine tX2_firstWrong_L2 ka1 ka2 (fun _ r H => ?_) _ _ _ H
  refine R_iconst dX2_firstWrong_69 (v := (-1)) (by decide) ?_
  obtain rfl := Option.some.inj H
  exact R_retI dX2_firstWrong_70 rfl (Or.inl rfl)

set_option maxRecDepth 100000 in
set_option maxHeartbeats 4000000 in
theorem tX3_forget {h : aH} {h2 : aH} (H : fX3_forget h = some h2) : Ev mX3_forget [.ref 18] h none h2 := by
  unfold fX3_forget at H
  refine Ev_of (sp := (0, fun _ => 0)) oX3_forget nlX3 (Nat.le_of_ble_eq_true rfl) (ls0 := [.ref 18]) rfl ?_
  refine R_aload_n dX3_forget_0 rfl rfl ?_
  refine R_iconst dX3_forget_1 (v := 0) (by decide) ?_
  refine R_putI dX3_forget_2 lfX3_31 rfl rfl ?_
  obtain rfl := Option.some.inj H
  exact R_ret (o := none) dX3_forget_5 rfl

set_option maxRecDepth 100000 in
set_option maxHeartbeats 4000000 in
theorem tX3_begin {h : aH} {x1 : Int32} {h2 : aH} (H : fX3_begin h x1 = some h2) : Ev mX3_begin [.ref 18, .int x1] h none h2 := by
  unfold fX3_begin at H
  refine Ev_of (sp := (0, fun _ => 0)) oX3_begin nlX3 (Nat.le_of_ble_eq_true rfl) (ls0 := [.ref 18, .int x1]) rfl ?_
  refine R_aload_n dX3_begin_0 rfl rfl ?_
  refine R_aload_n dX3_begin_1 rfl rfl ?_
  refine R_getX dX3_begin_2 lfX3_27 rfl rfl (x := h 18 5) rfl ?_
  rcases it_split H with ⟨c1, H⟩ | ⟨c1, H⟩
  · refine R_if_lt_t dX3_begin_5 (tgt := 17) (by decide) c1 ?_
    refine R_iconst dX3_begin_17 (v := 0) (by decide) ?_
    refine R_goto dX3_begin_18 (tgt := 27) (by decide) ?_
    refine R_putI dX3_begin_27 lfX3_27 rfl rfl ?_
    refine R_aload_n dX3_begin_30 rfl rfl ?_
    refine R_getF dX3_begin_31 lfX3_9 rfl rfl (q := 19) rfl ?_
    refine R_aload_n dX3_begin_34 rfl rfl ?_
    refine R_getX dX3_begin_35 lfX3_27 rfl rfl (x := 0) rfl ?_
    refine R_iload_n dX3_begin_38 rfl rfl ?_
    refine R_iastX dX3_begin_39 rfl rfl (ck_in (by decide)) (j := 0) (by decide) ?_
    refine R_aload_n dX3_begin_40 rfl rfl ?_
    refine R_bipush dX3_begin_41 (v := 30) (by decide) ?_
    refine R_aload_n dX3_begin_43 rfl rfl ?_
    refine R_getX dX3_begin_44 lfX3_31 rfl rfl (x := h 18 6) rfl ?_
    refine R_iconst dX3_begin_47 (v := 1) (by decide) ?_
    refine R_iadd dX3_begin_48 ?_
    refine R_min dX3_begin_49 lmX3_34 (by decide) (Nat.le_of_ble_eq_true rfl) ?_
    refine R_putI dX3_begin_52 lfX3_31 rfl rfl ?_
    obtain rfl := Option.some.inj H
    exact R_ret (o := none) dX3_begin_55 rfl
  · refine R_if_lt_f dX3_begin_5 (tgt := 17) (by decide) c1 ?_
    refine R_aload_n dX3_begin_8 rfl rfl ?_
    refine R_getX dX3_begin_9 lfX3_27 rfl rfl (x := h 18 5) rfl ?_
    refine R_bipush dX3_begin_12 (v := 29) (by decide) ?_
    rcases it_split H with ⟨c2, H⟩ | ⟨c2, H⟩
    · refine R_icmp_lt_t dX3_begin_14 (tgt := 21) (by decide) c2 ?_
      refine R_aload_n dX3_begin_21 rfl rfl ?_
      refine R_getX dX3_begin_22 lfX3_27 rfl rfl (x := h 18 5) rfl ?_
      refine R_iconst dX3_begin_25 (v := 1) (by decide) ?_
      refine R_iadd dX3_begin_26 ?_
      refine R_putI dX3_begin_27 lfX3_27 rfl rfl ?_
      refine R_aload_n dX3_begin_30 rfl rfl ?_
      refine R_getF dX3_begin_31 lfX3_9 rfl rfl (q := 19) rfl ?_
      refine R_aload_n dX3_begin_34 rfl rfl ?_
      refine R_getX dX3_begin_35 lfX3_27 rfl rfl (x := (h 18 5) + 1) rfl ?_
      refine R_iload_n dX3_begin_38 rfl rfl ?_
      obtain ⟨c3, H⟩ := it_some H
      refine R_iastX dX3_begin_39 rfl rfl (ck_in c3) (j := tn ((h 18 5) + 1)) rfl ?_
      refine R_aload_n dX3_begin_40 rfl rfl ?_
      refine R_bipush dX3_begin_41 (v := 30) (by decide) ?_
      refine R_aload_n dX3_begin_43 rfl rfl ?_
      refine R_getX dX3_begin_44 lfX3_31 rfl rfl (x := h 18 6) rfl ?_
      refine R_iconst dX3_begin_47 (v := 1) (by decide) ?_
      refine R_iadd dX3_begin_48 ?_
      refine R_min dX3_begin_49 lmX3_34 (by decide) (Nat.le_of_ble_eq_true rfl) ?_
      refine R_putI dX3_begin_52 lfX3_31 rfl rfl ?_
      obtain rfl := Option.some.inj H
      exact R_ret (o := none) dX3_begin_55 rfl
    · refine R_icmp_lt_f dX3_begin_14 (tgt := 21) (by decide) c2 ?_
      refine R_iconst dX3_begin_17 (v := 0) (by decide) ?_
      refine R_goto dX3_begin_18 (tgt := 27) (by decide) ?_
      refine R_putI dX3_begin_27 lfX3_27 rfl rfl ?_
      refine R_aload_n dX3_begin_30 rfl rfl ?_
      refine R_getF dX3_begin_31 lfX3_9 rfl rfl (q := 19) rfl ?_
      refine R_aload_n dX3_begin_34 rfl rfl ?_
      refine R_getX dX3_begin_35 lfX3_27 rfl rfl (x := 0) rfl ?_
      refine R_iload_n dX3_begin_38 rfl rfl ?_
      refine R_iastX dX3_begin_39 rfl rfl (ck_in (by decide)) (j := 0) (by decide) ?_
      refine R_aload_n dX3_begin_40 rfl rfl ?_
      refine R_bipush dX3_begin_41 (v := 30) (by decide) ?_
      refine R_aload_n dX3_begin_43 rfl rfl ?_
      refine R_getX dX3_begin_44 lfX3_31 rfl rfl (x := h 18 6) rfl ?_
      refine R_iconst dX3_begin_47 (v := 1) (by decide) ?_
      refine R_iadd dX3_begin_48 ?_
      refine R_min dX3_begin_49 lmX3_34 (by decide) (Nat.le_of_ble_eq_true rfl) ?_
      refine R_putI dX3_begin_52 lfX3_31 rfl rfl ?_
      obtain rfl := Option.some.inj H
      exact R_ret (o := none) dX3_begin_55 rfl

set_option maxRecDepth 100000 in
set_option maxHeartbeats 4000000 in
theorem tX3_noteAdded {h : aH} {x1 : Int32} {h2 : aH} (H : fX3_noteAdded h x1 = some h2) : Ev mX3_noteAdded [.ref 18, .int x1] h none h2 := by
  unfold fX3_noteAdded at H
  refine Ev_of (sp := (0, fun _ => 0)) oX3_noteAdded nlX3 (Nat.le_of_ble_eq_true rfl) (ls0 := [.ref 18, .int x1]) rfl ?_
  refine R_aload_n dX3_noteAdded_0 rfl rfl ?_
  refine R_iconst dX3_noteAdded_1 (v := 0) (by decide) ?_
  obtain ⟨h2, e1, H⟩ := bn_some H
  refine R_cV dX3_noteAdded_2 lvX3_40 ⟨Nat.le_of_ble_eq_true rfl, Nat.le_of_ble_eq_true rfl⟩ (r := 18) rfl (av := [.int 0]) (st := []) rfl rfl (Nat.le_of_ble_eq_true rfl) (tX3_begin e1) ?_
  refine R_aload_n dX3_noteAdded_5 rfl rfl ?_
  refine R_getF dX3_noteAdded_6 lfX3_15 rfl rfl (q := 20) rfl ?_
  refine R_aload_n dX3_noteAdded_9 rfl rfl ?_
  refine R_getX dX3_noteAdded_10 lfX3_27 rfl rfl (x := h2 18 5) rfl ?_
  refine R_iload_n dX3_noteAdded_13 rfl rfl ?_
  obtain ⟨c3, H⟩ := it_some H
  refine R_iastX dX3_noteAdded_14 rfl rfl (ck_in c3) (j := tn (h2 18 5)) rfl ?_
  obtain rfl := Option.some.inj H
  exact R_ret (o := none) dX3_noteAdded_15 rfl

set_option maxRecDepth 100000 in
set_option maxHeartbeats 4000000 in
theorem tX3_noteBlotted {h : aH} {x1 : Int32} {x2 : Int32} {x3 : Int32} {x4 : Int32} {h2 : aH} (H : fX3_noteBlotted h x1 x2 x3 x4 = some h2) : Ev mX3_noteBlotted [.ref 18, .int x1, .int x2, .int x3, .int x4] h none h2 := by
  unfold fX3_noteBlotted at H
  refine Ev_of (sp := (0, fun _ => 0)) oX3_noteBlotted nlX3 (Nat.le_of_ble_eq_true rfl) (ls0 := [.ref 18, .int x1, .int x2, .int x3, .int x4]) rfl ?_
  refine R_aload_n dX3_noteBlotted_0 rfl rfl ?_
  refine R_iconst dX3_noteBlotted_1 (v := 1) (by decide) ?_
  obtain ⟨h2, e1, H⟩ := bn_some H
  refine R_cV dX3_noteBlotted_2 lvX3_40 ⟨Nat.le_of_ble_eq_true rfl, Nat.le_of_ble_eq_true rfl⟩ (r := 18) rfl (av := [.int 1]) (st := []) rfl rfl (Nat.le_of_ble_eq_true rfl) (tX3_begin e1) ?_
  refine R_aload_n dX3_noteBlotted_5 rfl rfl ?_
  refine R_getF dX3_noteBlotted_6 lfX3_15 rfl rfl (q := 20) rfl ?_
  refine R_aload_n dX3_noteBlotted_9 rfl rfl ?_
  refine R_getX dX3_noteBlotted_10 lfX3_27 rfl rfl (x := h2 18 5) rfl ?_
  refine R_iload_n dX3_noteBlotted_13 rfl rfl ?_
  obtain ⟨c3, H⟩ := it_some H
  refine R_iastX dX3_noteBlotted_14 rfl rfl (ck_in c3) (j := tn (h2 18 5)) rfl ?_
  refine R_aload_n dX3_noteBlotted_15 rfl rfl ?_
  refine R_getF dX3_noteBlotted_16 lfX3_18 rfl rfl (q := 21) rfl ?_
  refine R_aload_n dX3_noteBlotted_19 rfl rfl ?_
  refine R_getX dX3_noteBlotted_20 lfX3_27 rfl rfl (x := h2 18 5) rfl ?_
  refine R_iload_n dX3_noteBlotted_23 rfl rfl ?_
  refine R_iastX dX3_noteBlotted_24 rfl rfl (ck_in c3) (j := tn (h2 18 5)) rfl ?_
  refine R_aload_n dX3_noteBlotted_25 rfl rfl ?_
  refine R_getF dX3_noteBlotted_26 lfX3_21 rfl rfl (q := 22) rfl ?_
  refine R_aload_n dX3_noteBlotted_29 rfl rfl ?_
  refine R_getX dX3_noteBlotted_30 lfX3_27 rfl rfl (x := h2 18 5) rfl ?_
  refine R_iload_n dX3_noteBlotted_33 rfl rfl ?_
  refine R_iastX dX3_noteBlotted_34 rfl rfl (ck_in c3) (j := tn (h2 18 5)) rfl ?_
  refine R_aload_n dX3_noteBlotted_35 rfl rfl ?_
  refine R_getF dX3_noteBlotted_36 lfX3_24 rfl rfl (q := 23) rfl ?_
  refine R_aload_n dX3_noteBlotted_39 rfl rfl ?_
  refine R_getX dX3_noteBlotted_40 lfX3_27 rfl rfl (x := h2 18 5) rfl ?_
  refine R_iload dX3_noteBlotted_43 rfl ?_
  refine R_iastX dX3_noteBlotted_45 rfl rfl (ck_in c3) (j := tn (h2 18 5)) rfl ?_
  obtain rfl := Option.some.inj H
  exact R_ret (o := none) dX3_noteBlotted_46 rfl

set_option maxRecDepth 100000 in
set_option maxHeartbeats 4000000 in
theorem tX3_noteBottled {h : aH} {x1 : Int32} {h2 : aH} (H : fX3_noteBottled h x1 = some h2) : Ev mX3_noteBottled [.ref 18, .int x1] h none h2 := by
  unfold fX3_noteBottled at H
  refine Ev_of (sp := (0, fun _ => 0)) oX3_noteBottled nlX3 (Nat.le_of_ble_eq_true rfl) (ls0 := [.ref 18, .int x1]) rfl ?_
  refine R_aload_n dX3_noteBottled_0 rfl rfl ?_
  refine R_iconst dX3_noteBottled_1 (v := 2) (by decide) ?_
  obtain ⟨h2, e1, H⟩ := bn_some H
  refine R_cV dX3_noteBottled_2 lvX3_40 ⟨Nat.le_of_ble_eq_true rfl, Nat.le_of_ble_eq_true rfl⟩ (r := 18) rfl (av := [.int 2]) (st := []) rfl rfl (Nat.le_of_ble_eq_true rfl) (tX3_begin e1) ?_
  refine R_aload_n dX3_noteBottled_5 rfl rfl ?_
  refine R_getF dX3_noteBottled_6 lfX3_24 rfl rfl (q := 23) rfl ?_
  refine R_aload_n dX3_noteBottled_9 rfl rfl ?_
  refine R_getX dX3_noteBottled_10 lfX3_27 rfl rfl (x := h2 18 5) rfl ?_
  refine R_iload_n dX3_noteBottled_13 rfl rfl ?_
  obtain ⟨c3, H⟩ := it_some H
  refine R_iastX dX3_noteBottled_14 rfl rfl (ck_in c3) (j := tn (h2 18 5)) rfl ?_
  obtain rfl := Option.some.inj H
  exact R_ret (o := none) dX3_noteBottled_15 rfl

set_option maxRecDepth 100000 in
set_option maxHeartbeats 4000000 in
theorem tX3_takeBackLast {h : aH} {a1 : Nat} {h2 : aH} (ka1 : kC a1 = 0) (H : fX3_takeBackLast h a1 = some h2) : Ev mX3_takeBackLast [.ref 18, .ref a1] h none h2 := by
  unfold fX3_takeBackLast at H
  refine Ev_of (sp := (0, fun _ => 0)) oX3_takeBackLast nlX3 (Nat.le_of_ble_eq_true rfl) (ls0 := [.ref 18, .ref a1]) rfl ?_
  refine R_aload_n dX3_takeBackLast_0 rfl rfl ?_
  refine R_getX dX3_takeBackLast_1 lfX3_31 rfl rfl (x := h 18 6) rfl ?_
  refine R_iconst dX3_takeBackLast_4 (v := 1) (by decide) ?_
  rcases it_split H with ⟨c1, H⟩ | ⟨c1, H⟩
  · refine R_icmp_lt_t dX3_takeBackLast_5 (tgt := 24) (by decide) c1 ?_
    obtain rfl := Option.some.inj H
    exact R_ret (o := none) dX3_takeBackLast_24 rfl
  · refine R_icmp_lt_f dX3_takeBackLast_5 (tgt := 24) (by decide) c1 ?_
    refine R_aload_n dX3_takeBackLast_8 rfl rfl ?_
    refine R_getX dX3_takeBackLast_9 lfX3_27 rfl rfl (x := h 18 5) rfl ?_
    rcases it_split H with ⟨c2, H⟩ | ⟨c2, H⟩
    · refine R_if_lt_t dX3_takeBackLast_12 (tgt := 24) (by decide) c2 ?_
      obtain rfl := Option.some.inj H
      exact R_ret (o := none) dX3_takeBackLast_24 rfl
    · refine R_if_lt_f dX3_takeBackLast_12 (tgt := 24) (by decide) c2 ?_
      refine R_aload_n dX3_takeBackLast_15 rfl rfl ?_
      refine R_getX dX3_takeBackLast_16 lfX3_27 rfl rfl (x := h 18 5) rfl ?_
      refine R_bipush dX3_takeBackLast_19 (v := 30) (by decide) ?_
      rcases it_split H with ⟨c3, H⟩ | ⟨c3, H⟩
      · refine R_icmp_lt_t dX3_takeBackLast_21 (tgt := 25) (by decide) c3 ?_
        refine R_aload_n dX3_takeBackLast_25 rfl rfl ?_
        refine R_getF dX3_takeBackLast_26 lfX3_9 rfl rfl (q := 19) rfl ?_
        refine R_aload_n dX3_takeBackLast_29 rfl rfl ?_
        refine R_getX dX3_takeBackLast_30 lfX3_27 rfl rfl (x := h 18 5) rfl ?_
        obtain ⟨c4, H⟩ := it_some H
        refine R_ildY dX3_takeBackLast_33 rfl rfl (ck_in c4) (j := tn (h 18 5)) rfl (x := h 19 (tn (h 18 5))) rfl ?_
        rcases it_split H with ⟨c5, H⟩ | ⟨c5, H⟩
        · refine R_lookup dX3_takeBackLast_34 (by decide) (off := 26) (by rw [c5]; decide) (tgt := 60) (by decide) ?_
          refine R_aload_n dX3_takeBackLast_60 rfl rfl ?_
          refine R_aload_n dX3_takeBackLast_61 rfl rfl ?_
          refine R_getF dX3_takeBackLast_62 lfX3_15 rfl rfl (q := 20) rfl ?_
          refine R_aload_n dX3_takeBackLast_65 rfl rfl ?_
          refine R_getX dX3_takeBackLast_66 lfX3_27 rfl rfl (x := h 18 5) rfl ?_
          refine R_ildY dX3_takeBackLast_69 rfl rfl (ck_in c4) (j := tn (h 18 5)) rfl (x := h 20 (tn (h 18 5))) rfl ?_
          obtain ⟨h7, e6, H⟩ := bn_some H
          refine R_cV dX3_takeBackLast_70 lvX3_44 ⟨Nat.le_of_ble_eq_true rfl, Nat.le_of_ble_eq_true rfl⟩ (r := a1) ka1 (av := [.int (h 20 (tn (h 18 5)))]) (st := []) rfl rfl (Nat.le_of_ble_eq_true rfl) (tX0_dropLast ka1 e6) ?_
          refine R_goto dX3_takeBackLast_73 (tgt := 132) (by decide) ?_
          refine R_aload_n dX3_takeBackLast_132 rfl rfl ?_
          refine R_aload_n dX3_takeBackLast_133 rfl rfl ?_
          refine R_getX dX3_takeBackLast_134 lfX3_27 rfl rfl (x := h7 18 5) rfl ?_
          rcases it_split H with ⟨c8, H⟩ | ⟨c8, H⟩
          · refine R_if_ne_f dX3_takeBackLast_137 (tgt := 145) (by decide) c8 ?_
            refine R_bipush dX3_takeBackLast_140 (v := 29) (by decide) ?_
            refine R_goto dX3_takeBackLast_142 (tgt := 151) (by decide) ?_
            refine R_putI dX3_takeBackLast_151 lfX3_27 rfl rfl ?_
            refine R_aload_n dX3_takeBackLast_154 rfl rfl ?_
            refine R_dup dX3_takeBackLast_155 rfl ?_
            refine R_getX dX3_takeBackLast_156 lfX3_31 rfl rfl (x := h7 18 6) rfl ?_
            refine R_iconst dX3_takeBackLast_159 (v := 1) (by decide) ?_
            refine R_isub dX3_takeBackLast_160 ?_
            refine R_putI dX3_takeBackLast_161 lfX3_31 rfl rfl ?_
            obtain rfl := Option.some.inj H
            exact R_ret (o := none) dX3_takeBackLast_164 rfl
          · refine R_if_ne_t dX3_takeBackLast_137 (tgt := 145) (by decide) c8 ?_
            refine R_aload_n dX3_takeBackLast_145 rfl rfl ?_
            refine R_getX dX3_takeBackLast_146 lfX3_27 rfl rfl (x := h7 18 5) rfl ?_
            refine R_iconst dX3_takeBackLast_149 (v := 1) (by decide) ?_
            refine R_isub dX3_takeBackLast_150 ?_
            refine R_putI dX3_takeBackLast_151 lfX3_27 rfl rfl ?_
            refine R_aload_n dX3_takeBackLast_154 rfl rfl ?_
            refine R_dup dX3_takeBackLast_155 rfl ?_
            refine R_getX dX3_takeBackLast_156 lfX3_31 rfl rfl (x := h7 18 6) rfl ?_
            refine R_iconst dX3_takeBackLast_159 (v := 1) (by decide) ?_
            refine R_isub dX3_takeBackLast_160 ?_
            refine R_putI dX3_takeBackLast_161 lfX3_31 rfl rfl ?_
            obtain rfl := Option.some.inj H
            exact R_ret (o := none) dX3_takeBackLast_164 rfl
        · rcases it_split H with ⟨c9, H⟩ | ⟨c9, H⟩
          · refine R_lookup dX3_takeBackLast_34 (by decide) (off := 42) (by rw [c9]; decide) (tgt := 76) (by decide) ?_
            refine R_aload_n dX3_takeBackLast_76 rfl rfl ?_
            refine R_aload_n dX3_takeBackLast_77 rfl rfl ?_
            refine R_getF dX3_takeBackLast_78 lfX3_15 rfl rfl (q := 20) rfl ?_
            refine R_aload_n dX3_takeBackLast_81 rfl rfl ?_
            refine R_getX dX3_takeBackLast_82 lfX3_27 rfl rfl (x := h 18 5) rfl ?_
            refine R_ildY dX3_takeBackLast_85 rfl rfl (ck_in c4) (j := tn (h 18 5)) rfl (x := h 20 (tn (h 18 5))) rfl ?_
            refine R_aload_n dX3_takeBackLast_86 rfl rfl ?_
            refine R_getF dX3_takeBackLast_87 lfX3_18 rfl rfl (q := 21) rfl ?_
            refine R_aload_n dX3_takeBackLast_90 rfl rfl ?_
            refine R_getX dX3_takeBackLast_91 lfX3_27 rfl rfl (x := h 18 5) rfl ?_
            refine R_ildY dX3_takeBackLast_94 rfl rfl (ck_in c4) (j := tn (h 18 5)) rfl (x := h 21 (tn (h 18 5))) rfl ?_
            refine R_aload_n dX3_takeBackLast_95 rfl rfl ?_
            refine R_getF dX3_takeBackLast_96 lfX3_21 rfl rfl (q := 22) rfl ?_
            refine R_aload_n dX3_takeBackLast_99 rfl rfl ?_
            refine R_getX dX3_takeBackLast_100 lfX3_27 rfl rfl (x := h 18 5) rfl ?_
            refine R_ildY dX3_takeBackLast_103 rfl rfl (ck_in c4) (j := tn (h 18 5)) rfl (x := h 22 (tn (h 18 5))) rfl ?_
            refine R_aload_n dX3_takeBackLast_104 rfl rfl ?_
            refine R_getF dX3_takeBackLast_105 lfX3_24 rfl rfl (q := 23) rfl ?_
            refine R_aload_n dX3_takeBackLast_108 rfl rfl ?_
            refine R_getX dX3_takeBackLast_109 lfX3_27 rfl rfl (x := h 18 5) rfl ?_
            refine R_ildY dX3_takeBackLast_112 rfl rfl (ck_in c4) (j := tn (h 18 5)) rfl (x := h 23 (tn (h 18 5))) rfl ?_
            obtain ⟨h11, e10, H⟩ := bn_some H
            refine R_cV dX3_takeBackLast_113 lvX3_49 ⟨Nat.le_of_ble_eq_true rfl, Nat.le_of_ble_eq_true rfl⟩ (r := a1) ka1 (av := [.int (h 20 (tn (h 18 5))), .int (h 21 (tn (h 18 5))), .int (h 22 (tn (h 18 5))), .int (h 23 (tn (h 18 5)))]) (st := []) rfl rfl (Nat.le_of_ble_eq_true rfl) (tX0_put ka1 e10) ?_
            refine R_goto dX3_takeBackLast_116 (tgt := 132) (by decide) ?_
            refine R_aload_n dX3_takeBackLast_132 rfl rfl ?_
            refine R_aload_n dX3_takeBackLast_133 rfl rfl ?_
            refine R_getX dX3_takeBackLast_134 lfX3_27 rfl rfl (x := h11 18 5) rfl ?_
            rcases it_split H with ⟨c12, H⟩ | ⟨c12, H⟩
            · refine R_if_ne_f dX3_takeBackLast_137 (tgt := 145) (by decide) c12 ?_
              refine R_bipush dX3_takeBackLast_140 (v := 29) (by decide) ?_
              refine R_goto dX3_takeBackLast_142 (tgt := 151) (by decide) ?_
              refine R_putI dX3_takeBackLast_151 lfX3_27 rfl rfl ?_
              refine R_aload_n dX3_takeBackLast_154 rfl rfl ?_
              refine R_dup dX3_takeBackLast_155 rfl ?_
              refine R_getX dX3_takeBackLast_156 lfX3_31 rfl rfl (x := h11 18 6) rfl ?_
              refine R_iconst dX3_takeBackLast_159 (v := 1) (by decide) ?_
              refine R_isub dX3_takeBackLast_160 ?_
              refine R_putI dX3_takeBackLast_161 lfX3_31 rfl rfl ?_
              obtain rfl := Option.some.inj H
              exact R_ret (o := none) dX3_takeBackLast_164 rfl
            · refine R_if_ne_t dX3_takeBackLast_137 (tgt := 145) (by decide) c12 ?_
              refine R_aload_n dX3_takeBackLast_145 rfl rfl ?_
              refine R_getX dX3_takeBackLast_146 lfX3_27 rfl rfl (x := h11 18 5) rfl ?_
              refine R_iconst dX3_takeBackLast_149 (v := 1) (by decide) ?_
              refine R_isub dX3_takeBackLast_150 ?_
              refine R_putI dX3_takeBackLast_151 lfX3_27 rfl rfl ?_
              refine R_aload_n dX3_takeBackLast_154 rfl rfl ?_
              refine R_dup dX3_takeBackLast_155 rfl ?_
              refine R_getX dX3_takeBackLast_156 lfX3_31 rfl rfl (x := h11 18 6) rfl ?_
              refine R_iconst dX3_takeBackLast_159 (v := 1) (by decide) ?_
              refine R_isub dX3_takeBackLast_160 ?_
              refine R_putI dX3_takeBackLast_161 lfX3_31 rfl rfl ?_
              obtain rfl := Option.some.inj H
              exact R_ret (o := none) dX3_takeBackLast_164 rfl
          · have nc5 : Int32.toInt (h 19 (tn (h 18 5))) ≠ 0 := ti_ne c5
            have nc9 : Int32.toInt (h 19 (tn (h 18 5))) ≠ 1 := ti_ne c9
            refine R_lookup dX3_takeBackLast_34 (by decide) (off := 85) (by simp [Op.lookupswitch.offset, nc5, nc5.symm, nc9, nc9.symm]) (tgt := 119) (by decide) ?_
            refine R_aload_n dX3_takeBackLast_119 rfl rfl ?_
            refine R_aload_n dX3_takeBackLast_120 rfl rfl ?_
            refine R_getF dX3_takeBackLast_121 lfX3_24 rfl rfl (q := 23) rfl ?_
            refine R_aload_n dX3_takeBackLast_124 rfl rfl ?_
            refine R_getX dX3_takeBackLast_125 lfX3_27 rfl rfl (x := h 18 5) rfl ?_
            refine R_ildY dX3_takeBackLast_128 rfl rfl (ck_in c4) (j := tn (h 18 5)) rfl (x := h 23 (tn (h 18 5))) rfl ?_
            refine R_putI dX3_takeBackLast_129 lfX3_53 ka1 rfl ?_
            refine R_aload_n dX3_takeBackLast_132 rfl rfl ?_
            refine R_aload_n dX3_takeBackLast_133 rfl rfl ?_
            refine R_getX dX3_takeBackLast_134 lfX3_27 rfl rfl (x := (aU h a1 4 (h 23 (tn (h 18 5)))) 18 5) rfl ?_
            rcases it_split H with ⟨c13, H⟩ | ⟨c13, H⟩
            · refine R_if_ne_f dX3_takeBackLast_137 (tgt := 145) (by decide) c13 ?_
              refine R_bipush dX3_takeBackLast_140 (v := 29) (by decide) ?_
              refine R_goto dX3_takeBackLast_142 (tgt := 151) (by decide) ?_
              refine R_putI dX3_takeBackLast_151 lfX3_27 rfl rfl ?_
              refine R_aload_n dX3_takeBackLast_154 rfl rfl ?_
              refine R_dup dX3_takeBackLast_155 rfl ?_
              refine R_getX dX3_takeBackLast_156 lfX3_31 rfl rfl (x := (aU h a1 4 (h 23 (tn (h 18 5)))) 18 6) rfl ?_
              refine R_iconst dX3_takeBackLast_159 (v := 1) (by decide) ?_
              refine R_isub dX3_takeBackLast_160 ?_
              refine R_putI dX3_takeBackLast_161 lfX3_31 rfl rfl ?_
              obtain rfl := Option.some.inj H
              exact R_ret (o := none) dX3_takeBackLast_164 rfl
            · refine R_if_ne_t dX3_takeBackLast_137 (tgt := 145) (by decide) c13 ?_
              refine R_aload_n dX3_takeBackLast_145 rfl rfl ?_
              refine R_getX dX3_takeBackLast_146 lfX3_27 rfl rfl (x := (aU h a1 4 (h 23 (tn (h 18 5)))) 18 5) rfl ?_
              refine R_iconst dX3_takeBackLast_149 (v := 1) (by decide) ?_
              refine R_isub dX3_takeBackLast_150 ?_
              refine R_putI dX3_takeBackLast_151 lfX3_27 rfl rfl ?_
              refine R_aload_n dX3_takeBackLast_154 rfl rfl ?_
              refine R_dup dX3_takeBackLast_155 rfl ?_
              refine R_getX dX3_takeBackLast_156 lfX3_31 rfl rfl (x := (aU h a1 4 (h 23 (tn (h 18 5)))) 18 6) rfl ?_
              refine R_iconst dX3_takeBackLast_159 (v := 1) (by decide) ?_
              refine R_isub dX3_takeBackLast_160 ?_
              refine R_putI dX3_takeBackLast_161 lfX3_31 rfl rfl ?_
              obtain rfl := Option.some.inj H
              exact R_ret (o := none) dX3_takeBackLast_164 rfl
      · refine R_icmp_lt_f dX3_takeBackLast_21 (tgt := 25) (by decide) c3 ?_
        obtain rfl := Option.some.inj H
        exact R_ret (o := none) dX3_takeBackLast_24 rfl

set_option maxRecDepth 100000 in
set_option maxHeartbeats 4000000 in
theorem tX4_compare_L13 {sp : Nat × (Nat → Int32)} {K : aH → Option aH} {a1 : Nat} {a2 : Nat} {x3 : Int32} (ka1 : kC a1 = 6) (ka2 : kC a2 = 0) (hK : ∀ (hk : aH) (h2 : aH), K hk = some h2 → Rn sp mX4_compare 47 [.ref 33, .ref a1, .ref a2, .int x3, .null] [] hk none h2) : ∀ (n : Nat) (h : aH) (x4 : Int32) (h2 : aH), fX4_compare_L13 K a1 a2 x3 n h x4 = some h2 → Rn sp mX4_compare 13 [.ref 33, .ref a1, .ref a2, .int x3, .int x4] [] h none h2 := by
  intro n
  induction n with
  | zero =>
    intro h x4 h2 H
    rw [fX4_compare_L13] at H
    cases H
  | succ n ih =>
    intro h x4 h2 H
    rw [fX4_compare_L13] at H
    refine R_iload dX4_compare_13 rfl ?_
    refine R_aload_n dX4_compare_15 rfl rfl ?_
    refine R_getX dX4_compare_16 lfX4_21 ka1 rfl (x := h a1 5) rfl ?_
    rcases it_split H with ⟨c2, H⟩ | ⟨c2, H⟩
    · refine R_icmp_ge_t dX4_compare_19 (tgt := 47) (by decide) c2 ?_
      refine R_null (i := 4) (ls2 := [.ref 33, .ref a1, .ref a2, .int x3, .null]) rfl ?_
      exact hK _ _ H
    · refine R_icmp_ge_f dX4_compare_19 (tgt := 47) (by decide) c2 ?_
      refine R_aload_n dX4_compare_22 rfl rfl ?_
      refine R_getF dX4_compare_23 lfX4_9 rfl rfl (q := 34) rfl ?_
      refine R_iload_n dX4_compare_26 rfl rfl ?_
      refine R_iconst dX4_compare_27 (v := 4) (by decide) ?_
      refine R_imul dX4_compare_28 ?_
      refine R_iload dX4_compare_29 rfl ?_
      refine R_iadd dX4_compare_31 ?_
      refine R_aload_n dX4_compare_32 rfl rfl ?_
      refine R_aload_n dX4_compare_33 rfl rfl ?_
      refine R_iload_n dX4_compare_34 rfl rfl ?_
      refine R_iload dX4_compare_35 rfl ?_
      obtain ⟨r4, e3, H⟩ := bn_some H
      refine R_cV dX4_compare_37 lvX4_24 ⟨Nat.le_of_ble_eq_true rfl, Nat.le_of_ble_eq_true rfl⟩ (r := a2) ka2 (av := [.ref a1, .int x3, .int x4]) (st := [.int ((x3 * 4) + x4), .ref 34]) rfl rfl (Nat.le_of_ble_eq_true rfl) (tX0_countAsBy ka2 ka1 e3) ?_
      obtain ⟨c5, H⟩ := it_some H
      refine R_iastX dX4_compare_40 rfl rfl (ck_in c5) (j := tn ((x3 * 4) + x4)) rfl ?_
      refine R_iincW dX4_compare_41 rfl (v := x4 + 1) rfl (by decide) rfl (ls2 := [.ref 33, .ref a1, .ref a2, .int x3, .int (x4 + 1)]) rfl ?_
      refine R_goto dX4_compare_44 (tgt := 13) (by decide) ?_
      exact ih _ _ _ H

set_option maxRecDepth 100000 in
set_option maxHeartbeats 4000000 in
theorem tX4_compare_L2 {sp : Nat × (Nat → Int32)} {K : aH → Option aH} {a1 : Nat} {a2 : Nat} (ka1 : kC a1 = 6) (ka2 : kC a2 = 0) (hK : ∀ (hk : aH) (h2 : aH), K hk = some h2 → Rn sp mX4_compare 53 [.null, .null, .null, .null, .null] [] hk none h2) : ∀ (n : Nat) (h : aH) (x3 : Int32) (h2 : aH), fX4_compare_L2 K a1 a2 n h x3 = some h2 → Rn sp mX4_compare 2 [.ref 33, .ref a1, .ref a2, .int x3, .null] [] h none h2 := by
  intro n
  induction n with
  | zero =>
    intro h x3 h2 H
    rw [fX4_compare_L2] at H
    cases H
  | succ n ih =>
    intro h x3 h2 H
    rw [fX4_compare_L2] at H
    refine R_iload_n dX4_compare_2 rfl rfl ?_
    refine R_aload_n dX4_compare_3 rfl rfl ?_
    refine R_getX dX4_compare_4 lfX4_15 ka1 rfl (x := h a1 6) rfl ?_
    rcases it_split H with ⟨c1, H⟩ | ⟨c1, H⟩
    · refine R_icmp_ge_t dX4_compare_7 (tgt := 53) (by decide) c1 ?_
      refine R_null (i := 0) (ls2 := [.null, .ref a1, .ref a2, .int x3, .null]) rfl ?_
      refine R_null (i := 1) (ls2 := [.null, .null, .ref a2, .int x3, .null]) rfl ?_
      refine R_null (i := 2) (ls2 := [.null, .null, .null, .int x3, .null]) rfl ?_
      refine R_null (i := 3) (ls2 := [.null, .null, .null, .null, .null]) rfl ?_
      exact hK _ _ H
    · refine R_icmp_ge_f dX4_compare_7 (tgt := 53) (by decide) c1 ?_
      refine R_iconst dX4_compare_10 (v := 0) (by decide) ?_
      refine R_istoreW dX4_compare_11 (by decide) rfl (ls2 := [.ref 33, .ref a1, .ref a2, .int x3, .int 0]) rfl ?_
      refine tX4_compare_L13 ka1 ka2 (fun h6 h2 H => ?_) _ _ _ _ H
      refine R_iincW dX4_compare_47 rfl (v := x3 + 1) rfl (by decide) rfl (ls2 := [.ref 33, .ref a1, .ref a2, .int (x3 + 1), .null]) rfl ?_
      refine R_goto dX4_compare_50 (tgt := 2) (by decide) ?_
      exact ih _ _ _ H

set_option maxRecDepth 100000 in
set_option maxHeartbeats 4000000 in
theorem tX4_compare {h : aH} {a1 : Nat} {a2 : Nat} {h2 : aH} (ka1 : kC a1 = 6) (ka2 : kC a2 = 0) (H : fX4_compare h a1 a2 = some h2) : Ev mX4_compare [.ref 33, .ref a1, .ref a2] h none h2 := by
  unfold fX4_compare at H
  refine Ev_of (sp := (0, fun _ => 0)) oX4_compare nlX4 (Nat.le_of_ble_eq_true rfl) (ls0 := [.ref 33, .ref a1, .ref a2, .null, .null]) rfl ?_
  refine R_iconst dX4_compare_0 (v := 0) (by decide) ?_
  refine R_istoreN dX4_compare_1 rfl (by decide) rfl (ls2 := [.ref 33, .ref a1, .ref a2, .int 0, .null]) rfl ?_
  refine tX4_compare_L2 ka1 ka2 (fun h7 h2 H => ?_) _ _ _ _ H
  obtain rfl := Option.some.inj H
  exact R_ret (o := none) dX4_compare_53 rfl

set_option maxRecDepth 100000 in
set_option maxHeartbeats 4000000 in
theorem tX4_handIn {h : aH} {x0 : Int32} {x1 : Int32} {x2 : Int32} {r : Int32} (H : fX4_handIn x0 x1 x2 = some r) : Ev mX4_handIn [.int x0, .int x1, .int x2] h (some (.int r)) h := by
  unfold fX4_handIn at H
  refine Ev_of (sp := (0, fun _ => 0)) oX4_handIn nlX4 (Nat.le_of_ble_eq_true rfl) (ls0 := [.int x0, .int x1, .int x2]) rfl ?_
  refine R_iload_n dX4_handIn_0 rfl rfl ?_
  refine R_iconst dX4_handIn_1 (v := 2) (by decide) ?_
  refine R_iload_n dX4_handIn_2 rfl rfl ?_
  refine R_iconst dX4_handIn_3 (v := 1) (by decide) ?_
  refine R_isub dX4_handIn_4 ?_
  refine R_iload_n dX4_handIn_5 rfl rfl ?_
  refine R_isub dX4_handIn_6 ?_
  refine R_imul dX4_handIn_7 ?_
  refine R_ishr dX4_handIn_8 ?_
  refine R_iconst dX4_handIn_9 (v := 3) (by decide) ?_
  refine R_iand dX4_handIn_10 ?_
  obtain rfl := Option.some.inj H
  exact R_retI dX4_handIn_11 rfl (Or.inl rfl)

set_option maxRecDepth 100000 in
set_option maxHeartbeats 4000000 in
theorem tX4_likenessOf_L9 {sp : Nat × (Nat → Int32)} {K : Int32 → Option Int32} {h : aH} {x1 : Int32} {x2 : Int32} {x3 : Int32} (hK : ∀ (y5 : Int32) (r : Int32), K y5 = some r → Rn sp mX4_likenessOf 75 [.null, .null, .null, .null, .null, .int y5, .null, .null] [] h (some (.int r)) h) : ∀ (n : Nat) (x4 x5 x6 : Int32) (r : Int32), fX4_likenessOf_L9 K h x1 x2 x3 n x4 x5 x6 = some r → Rn sp mX4_likenessOf 9 [.ref 33, .int x1, .int x2, .int x3, .int x4, .int x5, .int x6, .null] [] h (some (.int r)) h := by
  intro n
  induction n with
  | zero =>
    intro x4 x5 x6 r H
    rw [fX4_likenessOf_L9] at H
    cases H
  | succ n ih =>
    intro x4 x5 x6 r H
    rw [fX4_likenessOf_L9] at H
    refine R_iload dX4_likenessOf_9 rfl ?_
    refine R_iload_n dX4_likenessOf_11 rfl rfl ?_
    rcases it_split H with ⟨c1, H⟩ | ⟨c1, H⟩
    · refine R_icmp_ge_t dX4_likenessOf_12 (tgt := 75) (by decide) c1 ?_
      refine R_null (i := 0) (ls2 := [.null, .int x1, .int x2, .int x3, .int x4, .int x5, .int x6, .null]) rfl ?_
      refine R_null (i := 1) (ls2 := [.null, .null, .int x2, .int x3, .int x4, .int x5, .int x6, .null]) rfl ?_
      refine R_null (i := 2) (ls2 := [.null, .null, .null, .int x3, .int x4, .int x5, .int x6, .null]) rfl ?_
      refine R_null (i := 3) (ls2 := [.null, .null, .null, .null, .int x4, .int x5, .int x6, .null]) rfl ?_
      refine R_null (i := 4) (ls2 := [.null, .null, .null, .null, .null, .int x5, .int x6, .null]) rfl ?_
      refine R_null (i := 6) (ls2 := [.null, .null, .null, .null, .null, .int x5, .null, .null]) rfl ?_
      exact hK _ _ H
    · refine R_icmp_ge_f dX4_likenessOf_12 (tgt := 75) (by decide) c1 ?_
      refine R_iload_n dX4_likenessOf_15 rfl rfl ?_
      refine R_iload dX4_likenessOf_16 rfl ?_
      refine R_iload_n dX4_likenessOf_18 rfl rfl ?_
      obtain ⟨r3, e2, H⟩ := bn_some H
      refine R_cS dX4_likenessOf_19 lvX4_46 ⟨Nat.le_of_ble_eq_true rfl, Nat.le_of_ble_eq_true rfl⟩ (av := [.int x1, .int x6, .int x2]) (st := []) rfl rfl (Nat.le_of_ble_eq_true rfl) (tX4_handIn e2) ?_
      refine R_istoreW dX4_likenessOf_22 (by decide) rfl (ls2 := [.ref 33, .int x1, .int x2, .int x3, .int x4, .int x5, .int x6, .int r3]) rfl ?_
      refine R_iload dX4_likenessOf_24 rfl ?_
      refine R_iload_n dX4_likenessOf_26 rfl rfl ?_
      rcases it_split H with ⟨c4, H⟩ | ⟨c4, H⟩
      · refine R_icmp_ge_t dX4_likenessOf_27 (tgt := 41) (by decide) c4 ?_
        refine R_iconst dX4_likenessOf_41 (v := (-1)) (by decide) ?_
        obtain rfl := Option.some.inj H
        exact R_retI dX4_likenessOf_42 rfl (Or.inl rfl)
      · refine R_icmp_ge_f dX4_likenessOf_27 (tgt := 41) (by decide) c4 ?_
        refine R_iload dX4_likenessOf_30 rfl ?_
        refine R_iload dX4_likenessOf_32 rfl ?_
        refine R_ishr dX4_likenessOf_34 ?_
        refine R_iconst dX4_likenessOf_35 (v := 1) (by decide) ?_
        refine R_iand dX4_likenessOf_36 ?_
        refine R_iconst dX4_likenessOf_37 (v := 1) (by decide) ?_
        rcases it_split H with ⟨c5, H⟩ | ⟨c5, H⟩
        · refine R_icmp_ne_f dX4_likenessOf_38 (tgt := 43) (by decide) c5 ?_
          refine R_iconst dX4_likenessOf_41 (v := (-1)) (by decide) ?_
          obtain rfl := Option.some.inj H
          exact R_retI dX4_likenessOf_42 rfl (Or.inl rfl)
        · refine R_icmp_ne_t dX4_likenessOf_38 (tgt := 43) (by decide) c5 ?_
          refine R_iload dX4_likenessOf_43 rfl ?_
          refine R_iconst dX4_likenessOf_45 (v := 1) (by decide) ?_
          refine R_iload dX4_likenessOf_46 rfl ?_
          refine R_ishl dX4_likenessOf_48 ?_
          refine R_ior dX4_likenessOf_49 ?_
          refine R_istoreW dX4_likenessOf_50 (by decide) rfl (ls2 := [.ref 33, .int x1, .int x2, .int x3, .int (x4 ||| (1 <<< (r3 &&& 31))), .int x5, .int x6, .int r3]) rfl ?_
          refine R_iload dX4_likenessOf_52 rfl ?_
          refine R_aload_n dX4_likenessOf_54 rfl rfl ?_
          refine R_getF dX4_likenessOf_55 lfX4_9 rfl rfl (q := 34) rfl ?_
          refine R_iload dX4_likenessOf_58 rfl ?_
          refine R_iconst dX4_likenessOf_60 (v := 4) (by decide) ?_
          refine R_imul dX4_likenessOf_61 ?_
          refine R_iload dX4_likenessOf_62 rfl ?_
          refine R_iadd dX4_likenessOf_64 ?_
          obtain ⟨c6, H⟩ := it_some H
          refine R_ildY dX4_likenessOf_65 rfl rfl (ck_in c6) (j := tn ((x6 * 4) + r3)) rfl (x := h 34 (tn ((x6 * 4) + r3))) rfl ?_
          refine R_iadd dX4_likenessOf_66 ?_
          refine R_istoreW dX4_likenessOf_67 (by decide) rfl (ls2 := [.ref 33, .int x1, .int x2, .int x3, .int (x4 ||| (1 <<< (r3 &&& 31))), .int (x5 + (h 34 (tn ((x6 * 4) + r3)))), .int x6, .int r3]) rfl ?_
          refine R_iincW dX4_likenessOf_69 rfl (v := x6 + 1) rfl (by decide) rfl (ls2 := [.ref 33, .int x1, .int x2, .int x3, .int (x4 ||| (1 <<< (r3 &&& 31))), .int (x5 + (h 34 (tn ((x6 * 4) + r3)))), .int (x6 + 1), .int r3]) rfl ?_
          refine R_goto dX4_likenessOf_72 (tgt := 9) (by decide) ?_
          refine R_null (i := 7) (ls2 := [.ref 33, .int x1, .int x2, .int x3, .int (x4 ||| (1 <<< (r3 &&& 31))), .int (x5 + (h 34 (tn ((x6 * 4) + r3)))), .int (x6 + 1), .null]) rfl ?_
          exact ih _ _ _ _ H

set_option maxRecDepth 100000 in
set_option maxHeartbeats 4000000 in
theorem tX4_likenessOf {h : aH} {x1 : Int32} {x2 : Int32} {x3 : Int32} {r : Int32} (H : fX4_likenessOf h x1 x2 x3 = some r) : Ev mX4_likenessOf [.ref 33, .int x1, .int x2, .int x3] h (some (.int r)) h := by
  unfold fX4_likenessOf at H
  refine Ev_of (sp := (0, fun _ => 0)) oX4_likenessOf nlX4 (Nat.le_of_ble_eq_true rfl) (ls0 := [.ref 33, .int x1, .int x2, .int x3, .null, .null, .null, .null]) rfl ?_
  refine R_iconst dX4_likenessOf_0 (v := 0) (by decide) ?_
  refine R_istoreW dX4_likenessOf_1 (by decide) rfl (ls2 := [.ref 33, .int x1, .int x2, .int x3, .int 0, .null, .null, .null]) rfl ?_
  refine R_iconst dX4_likenessOf_3 (v := 0) (by decide) ?_
  refine R_istoreW dX4_likenessOf_4 (by decide) rfl (ls2 := [.ref 33, .int x1, .int x2, .int x3, .int 0, .int 0, .null, .null]) rfl ?_
  refine R_iconst dX4_likenessOf_6 (v := 0) (by decide) ?_
  refine R_istoreW dX4_likenessOf_7 (by decide) rfl (ls2 := [.ref 33, .int x1, .int x2, .int x3, .int 0, .int 0, .int 0, .null]) rfl ?_
  refine tX4_likenessOf_L9 (fun z7 r H => ?_) _ _ _ _ _ H
  refine R_iload dX4_likenessOf_75 rfl ?_
  obtain rfl := Option.some.inj H
  exact R_retI dX4_likenessOf_77 rfl (Or.inl rfl)

set_option maxRecDepth 100000 in
set_option maxHeartbeats 4000000 in
theorem tX4_search_L23 {sp : Nat × (Nat → Int32)} {K : aH → Option aH} {x1 : Int32} {x2 : Int32} {x3 : Int32} (hK : ∀ (hk : aH) (h2 : aH), K hk = some h2 → Rn sp mX4_search 66 [.null, .null, .null, .null, .null, .null] [] hk none h2) : ∀ (n : Nat) (h : aH) (x4 : Int32) (h2 : aH), fX4_search_L23 K x1 x2 x3 n h x4 = some h2 → Rn sp mX4_search 23 [.ref 33, .int x1, .int x2, .int x3, .int x4, .null] [] h none h2 := by
  intro n
  induction n with
  | zero =>
    intro h x4 h2 H
    rw [fX4_search_L23] at H
    cases H
  | succ n ih =>
    intro h x4 h2 H
    rw [fX4_search_L23] at H
    refine R_iload dX4_search_23 rfl ?_
    refine R_iload_n dX4_search_25 rfl rfl ?_
    rcases it_split H with ⟨c1, H⟩ | ⟨c1, H⟩
    · refine R_icmp_ge_t dX4_search_26 (tgt := 66) (by decide) c1 ?_
      refine R_null (i := 0) (ls2 := [.null, .int x1, .int x2, .int x3, .int x4, .null]) rfl ?_
      refine R_null (i := 1) (ls2 := [.null, .null, .int x2, .int x3, .int x4, .null]) rfl ?_
      refine R_null (i := 2) (ls2 := [.null, .null, .null, .int x3, .int x4, .null]) rfl ?_
      refine R_null (i := 3) (ls2 := [.null, .null, .null, .null, .int x4, .null]) rfl ?_
      refine R_null (i := 4) (ls2 := [.null, .null, .null, .null, .null, .null]) rfl ?_
      exact hK _ _ H
    · refine R_icmp_ge_f dX4_search_26 (tgt := 66) (by decide) c1 ?_
      refine R_aload_n dX4_search_29 rfl rfl ?_
      refine R_iload dX4_search_30 rfl ?_
      refine R_iload_n dX4_search_32 rfl rfl ?_
      refine R_iload_n dX4_search_33 rfl rfl ?_
      obtain ⟨r3, e2, H⟩ := bn_some H
      refine R_cV dX4_search_34 lvX4_42 ⟨Nat.le_of_ble_eq_true rfl, Nat.le_of_ble_eq_true rfl⟩ (r := 33) rfl (av := [.int x4, .int x1, .int x2]) (st := []) rfl rfl (Nat.le_of_ble_eq_true rfl) (tX4_likenessOf e2) ?_
      refine R_istoreW dX4_search_37 (by decide) rfl (ls2 := [.ref 33, .int x1, .int x2, .int x3, .int x4, .int r3]) rfl ?_
      refine R_iload dX4_search_39 rfl ?_
      refine R_aload_n dX4_search_41 rfl rfl ?_
      refine R_getX dX4_search_42 lfX4_30 rfl rfl (x := h 33 1) rfl ?_
      rcases it_split H with ⟨c4, H⟩ | ⟨c4, H⟩
      · refine R_icmp_le_t dX4_search_45 (tgt := 60) (by decide) c4 ?_
        refine R_iincW dX4_search_60 rfl (v := x4 + 1) rfl (by decide) rfl (ls2 := [.ref 33, .int x1, .int x2, .int x3, .int (x4 + 1), .int r3]) rfl ?_
        refine R_goto dX4_search_63 (tgt := 23) (by decide) ?_
        refine R_null (i := 5) (ls2 := [.ref 33, .int x1, .int x2, .int x3, .int (x4 + 1), .null]) rfl ?_
        exact ih _ _ _ H
      · refine R_icmp_le_f dX4_search_45 (tgt := 60) (by decide) c4 ?_
        refine R_aload_n dX4_search_48 rfl rfl ?_
        refine R_iload dX4_search_49 rfl ?_
        refine R_putI dX4_search_51 lfX4_30 rfl rfl ?_
        refine R_aload_n dX4_search_54 rfl rfl ?_
        refine R_iload dX4_search_55 rfl ?_
        refine R_putI dX4_search_57 lfX4_33 rfl rfl ?_
        refine R_iincW dX4_search_60 rfl (v := x4 + 1) rfl (by decide) rfl (ls2 := [.ref 33, .int x1, .int x2, .int x3, .int (x4 + 1), .int r3]) rfl ?_
        refine R_goto dX4_search_63 (tgt := 23) (by decide) ?_
        refine R_null (i := 5) (ls2 := [.ref 33, .int x1, .int x2, .int x3, .int (x4 + 1), .null]) rfl ?_
        exact ih _ _ _ H

set_option maxRecDepth 100000 in
set_option maxHeartbeats 4000000 in
theorem tX4_search {h : aH} {x1 : Int32} {x2 : Int32} {h2 : aH} (H : fX4_search h x1 x2 = some h2) : Ev mX4_search [.ref 33, .int x1, .int x2] h none h2 := by
  unfold fX4_search at H
  refine Ev_of (sp := (0, fun _ => 0)) oX4_search nlX4 (Nat.le_of_ble_eq_true rfl) (ls0 := [.ref 33, .int x1, .int x2, .null, .null, .null]) rfl ?_
  refine R_aload_n dX4_search_0 rfl rfl ?_
  refine R_iconst dX4_search_1 (v := (-1)) (by decide) ?_
  refine R_putI dX4_search_2 lfX4_30 rfl rfl ?_
  refine R_aload_n dX4_search_5 rfl rfl ?_
  refine R_iconst dX4_search_6 (v := 0) (by decide) ?_
  refine R_putI dX4_search_7 lfX4_33 rfl rfl ?_
  refine R_iconst dX4_search_10 (v := 1) (by decide) ?_
  refine R_iconst dX4_search_11 (v := 2) (by decide) ?_
  refine R_iconst dX4_search_12 (v := 4) (by decide) ?_
  refine R_iload_n dX4_search_13 rfl rfl ?_
  refine R_min dX4_search_14 lmX4_36 (by decide) (Nat.le_of_ble_eq_true rfl) ?_
  refine R_imul dX4_search_17 ?_
  refine R_ishl dX4_search_18 ?_
  refine R_istoreN dX4_search_19 rfl (by decide) rfl (ls2 := [.ref 33, .int x1, .int x2, .int (1 <<< ((2 * (if x1 < 4 then x1 else 4)) &&& 31)), .null, .null]) rfl ?_
  refine R_iconst dX4_search_20 (v := 0) (by decide) ?_
  refine R_istoreW dX4_search_21 (by decide) rfl (ls2 := [.ref 33, .int x1, .int x2, .int (1 <<< ((2 * (if x1 < 4 then x1 else 4)) &&& 31)), .int 0, .null]) rfl ?_
  refine tX4_search_L23 (fun h5 h2 H => ?_) _ _ _ _ H
  obtain rfl := Option.some.inj H
  exact R_ret (o := none) dX4_search_66 rfl

set_option maxRecDepth 100000 in
set_option maxHeartbeats 4000000 in
theorem tX4_handOf {h : aH} {x1 : Int32} {x2 : Int32} {r : Int32} (H : fX4_handOf h x1 x2 = some r) : Ev mX4_handOf [.ref 33, .int x1, .int x2] h (some (.int r)) h := by
  unfold fX4_handOf at H
  refine Ev_of (sp := (0, fun _ => 0)) oX4_handOf nlX4 (Nat.le_of_ble_eq_true rfl) (ls0 := [.ref 33, .int x1, .int x2]) rfl ?_
  refine R_aload_n dX4_handOf_0 rfl rfl ?_
  refine R_getX dX4_handOf_1 lfX4_33 rfl rfl (x := h 33 2) rfl ?_
  refine R_iload_n dX4_handOf_4 rfl rfl ?_
  refine R_iload_n dX4_handOf_5 rfl rfl ?_
  obtain ⟨r2, e1, H⟩ := bn_some H
  refine R_cS dX4_handOf_6 lvX4_46 ⟨Nat.le_of_ble_eq_true rfl, Nat.le_of_ble_eq_true rfl⟩ (av := [.int (h 33 2), .int x1, .int x2]) (st := []) rfl rfl (Nat.le_of_ble_eq_true rfl) (tX4_handIn e1) ?_
  obtain rfl := Option.some.inj H
  exact R_retI dX4_handOf_9 rfl (Or.inl rfl)

set_option maxRecDepth 100000 in
set_option maxHeartbeats 4000000 in
theorem tX5_take {h : aH} {x1 : Int32} {r : Int32} {h2 : aH} (H : fX5_take h x1 = some (r, h2)) : Ev mX5_take [.ref 1, .int x1] h (some (.int r)) h2 := by
  unfold fX5_take at H
  refine Ev_of (sp := (0, fun _ => 0)) oX5_take nlX5 (Nat.le_of_ble_eq_true rfl) (ls0 := [.ref 1, .int x1]) rfl ?_
  refine R_aload_n dX5_take_0 rfl rfl ?_
  refine R_getX dX5_take_1 lfX5_19 rfl rfl (x := h 1 1) rfl ?_
  rcases it_split H with ⟨c1, H⟩ | ⟨c1, H⟩
  · refine R_if_lt_t dX5_take_4 (tgt := 17) (by decide) c1 ?_
    refine R_ldc dX5_take_17 lcX5_22 ?_
    obtain ⟨rfl, rfl⟩ := so2 H
    exact R_retI dX5_take_19 rfl (Or.inl rfl)
  · refine R_if_lt_f dX5_take_4 (tgt := 17) (by decide) c1 ?_
    refine R_aload_n dX5_take_7 rfl rfl ?_
    refine R_getX dX5_take_8 lfX5_19 rfl rfl (x := h 1 1) rfl ?_
    refine R_sipush dX5_take_11 (v := 230) (by decide) ?_
    rcases it_split H with ⟨c2, H⟩ | ⟨c2, H⟩
    · refine R_icmp_lt_t dX5_take_14 (tgt := 20) (by decide) c2 ?_
      refine R_aload_n dX5_take_20 rfl rfl ?_
      refine R_getF dX5_take_21 lfX5_9 rfl rfl (q := 2) rfl ?_
      refine R_aload_n dX5_take_24 rfl rfl ?_
      refine R_getX dX5_take_25 lfX5_19 rfl rfl (x := h 1 1) rfl ?_
      refine R_iload_n dX5_take_28 rfl rfl ?_
      obtain ⟨c3, H⟩ := it_some H
      refine R_iastX dX5_take_29 rfl rfl (ck_in c3) (j := tn (h 1 1)) rfl ?_
      refine R_aload_n dX5_take_30 rfl rfl ?_
      refine R_dup dX5_take_31 rfl ?_
      refine R_getX dX5_take_32 lfX5_19 rfl rfl (x := h 1 1) rfl ?_
      refine R_iconst dX5_take_35 (v := 1) (by decide) ?_
      refine R_iadd dX5_take_36 ?_
      refine R_putI dX5_take_37 lfX5_19 rfl rfl ?_
      refine R_aload_n dX5_take_40 rfl rfl ?_
      refine R_getX dX5_take_41 lfX5_19 rfl rfl (x := (h 1 1) + 1) rfl ?_
      obtain ⟨rfl, rfl⟩ := so2 H
      exact R_retI dX5_take_44 rfl (Or.inl rfl)
    · refine R_icmp_lt_f dX5_take_14 (tgt := 20) (by decide) c2 ?_
      refine R_ldc dX5_take_17 lcX5_22 ?_
      obtain ⟨rfl, rfl⟩ := so2 H
      exact R_retI dX5_take_19 rfl (Or.inl rfl)

set_option maxRecDepth 100000 in
set_option maxHeartbeats 4000000 in
theorem tX5_current {h : aH} {r : Int32} (H : fX5_current h = some r) : Ev mX5_current [.ref 1] h (some (.int r)) h := by
  unfold fX5_current at H
  refine Ev_of (sp := (0, fun _ => 0)) oX5_current nlX5 (Nat.le_of_ble_eq_true rfl) (ls0 := [.ref 1]) rfl ?_
  refine R_aload_n dX5_current_0 rfl rfl ?_
  refine R_getX dX5_current_1 lfX5_23 rfl rfl (x := h 1 2) rfl ?_
  rcases it_split H with ⟨c1, H⟩ | ⟨c1, H⟩
  · refine R_if_lt_t dX5_current_4 (tgt := 40) (by decide) c1 ?_
    refine R_iconst dX5_current_40 (v := (-1)) (by decide) ?_
    obtain rfl := Option.some.inj H
    exact R_retI dX5_current_41 rfl (Or.inl rfl)
  · refine R_if_lt_f dX5_current_4 (tgt := 40) (by decide) c1 ?_
    refine R_aload_n dX5_current_7 rfl rfl ?_
    refine R_getX dX5_current_8 lfX5_23 rfl rfl (x := h 1 2) rfl ?_
    refine R_aload_n dX5_current_11 rfl rfl ?_
    refine R_getX dX5_current_12 lfX5_19 rfl rfl (x := h 1 1) rfl ?_
    rcases it_split H with ⟨c2, H⟩ | ⟨c2, H⟩
    · refine R_icmp_ge_t dX5_current_15 (tgt := 40) (by decide) c2 ?_
      refine R_iconst dX5_current_40 (v := (-1)) (by decide) ?_
      obtain rfl := Option.some.inj H
      exact R_retI dX5_current_41 rfl (Or.inl rfl)
    · refine R_icmp_ge_f dX5_current_15 (tgt := 40) (by decide) c2 ?_
      refine R_aload_n dX5_current_18 rfl rfl ?_
      refine R_getX dX5_current_19 lfX5_23 rfl rfl (x := h 1 2) rfl ?_
      refine R_sipush dX5_current_22 (v := 230) (by decide) ?_
      rcases it_split H with ⟨c3, H⟩ | ⟨c3, H⟩
      · refine R_icmp_ge_t dX5_current_25 (tgt := 40) (by decide) c3 ?_
        refine R_iconst dX5_current_40 (v := (-1)) (by decide) ?_
        obtain rfl := Option.some.inj H
        exact R_retI dX5_current_41 rfl (Or.inl rfl)
      · refine R_icmp_ge_f dX5_current_25 (tgt := 40) (by decide) c3 ?_
        refine R_aload_n dX5_current_28 rfl rfl ?_
        refine R_getF dX5_current_29 lfX5_9 rfl rfl (q := 2) rfl ?_
        refine R_aload_n dX5_current_32 rfl rfl ?_
        refine R_getX dX5_current_33 lfX5_23 rfl rfl (x := h 1 2) rfl ?_
        obtain ⟨c4, H⟩ := it_some H
        refine R_ildY dX5_current_36 rfl rfl (ck_in c4) (j := tn (h 1 2)) rfl (x := h 2 (tn (h 1 2))) rfl ?_
        refine R_goto dX5_current_37 (tgt := 41) (by decide) ?_
        obtain rfl := Option.some.inj H
        exact R_retI dX5_current_41 rfl (Or.inl rfl)

set_option maxRecDepth 100000 in
set_option maxHeartbeats 4000000 in
theorem tX5_skipBlanks_L0 {sp : Nat × (Nat → Int32)} {K : aH → Option aH} (hK : ∀ (hk : aH) (h2 : aH), K hk = some h2 → Rn sp mX5_skipBlanks 33 [.null] [] hk none h2) : ∀ (n : Nat) (h : aH) (h2 : aH), fX5_skipBlanks_L0 K n h = some h2 → Rn sp mX5_skipBlanks 0 [.ref 1] [] h none h2 := by
  intro n
  induction n with
  | zero =>
    intro h h2 H
    rw [fX5_skipBlanks_L0] at H
    cases H
  | succ n ih =>
    intro h h2 H
    rw [fX5_skipBlanks_L0] at H
    refine R_aload_n dX5_skipBlanks_0 rfl rfl ?_
    refine R_getX dX5_skipBlanks_1 lfX5_23 rfl rfl (x := h 1 2) rfl ?_
    refine R_aload_n dX5_skipBlanks_4 rfl rfl ?_
    refine R_getX dX5_skipBlanks_5 lfX5_19 rfl rfl (x := h 1 1) rfl ?_
    rcases it_split H with ⟨c1, H⟩ | ⟨c1, H⟩
    · refine R_icmp_ge_t dX5_skipBlanks_8 (tgt := 33) (by decide) c1 ?_
      refine R_null (i := 0) (ls2 := [.null]) rfl ?_
      exact hK _ _ H
    · refine R_icmp_ge_f dX5_skipBlanks_8 (tgt := 33) (by decide) c1 ?_
      refine R_aload_n dX5_skipBlanks_11 rfl rfl ?_
      obtain ⟨r3, e2, H⟩ := bn_some H
      refine R_cV dX5_skipBlanks_12 lvX5_36 ⟨Nat.le_of_ble_eq_true rfl, Nat.le_of_ble_eq_true rfl⟩ (r := 1) rfl (av := []) (st := []) rfl rfl (Nat.le_of_ble_eq_true rfl) (tX5_current e2) ?_
      refine R_bipush dX5_skipBlanks_15 (v := 32) (by decide) ?_
      rcases it_split H with ⟨c4, H⟩ | ⟨c4, H⟩
      · refine R_icmp_ne_f dX5_skipBlanks_17 (tgt := 33) (by decide) c4 ?_
        refine R_aload_n dX5_skipBlanks_20 rfl rfl ?_
        refine R_dup dX5_skipBlanks_21 rfl ?_
        refine R_getX dX5_skipBlanks_22 lfX5_23 rfl rfl (x := h 1 2) rfl ?_
        refine R_iconst dX5_skipBlanks_25 (v := 1) (by decide) ?_
        refine R_iadd dX5_skipBlanks_26 ?_
        refine R_putI dX5_skipBlanks_27 lfX5_23 rfl rfl ?_
        refine R_goto dX5_skipBlanks_30 (tgt := 0) (by decide) ?_
        exact ih _ _ H
      · refine R_icmp_ne_t dX5_skipBlanks_17 (tgt := 33) (by decide) c4 ?_
        refine R_null (i := 0) (ls2 := [.null]) rfl ?_
        exact hK _ _ H

set_option maxRecDepth 100000 in
set_option maxHeartbeats 4000000 in
theorem tX5_skipBlanks {h : aH} {h2 : aH} (H : fX5_skipBlanks h = some h2) : Ev mX5_skipBlanks [.ref 1] h none h2 := by
  unfold fX5_skipBlanks at H
  refine Ev_of (sp := (0, fun _ => 0)) oX5_skipBlanks nlX5 (Nat.le_of_ble_eq_true rfl) (ls0 := [.ref 1]) rfl ?_
  refine tX5_skipBlanks_L0 (fun h5 h2 H => ?_) _ _ _ H
  obtain rfl := Option.some.inj H
  exact R_ret (o := none) dX5_skipBlanks_33 rfl

set_option maxRecDepth 100000 in
set_option maxHeartbeats 4000000 in
theorem tX5_mayStand {h : aH} {a0 : Nat} {x1 : Int32} {r : Bool} (ka0 : kC a0 = 6) (H : fX5_mayStand h a0 x1 = some r) : Ev mX5_mayStand [.ref a0, .int x1] h (some (.int (bi r))) h := by
  unfold fX5_mayStand at H
  refine Ev_of (sp := (0, fun _ => 0)) oX5_mayStand nlX5 (Nat.le_of_ble_eq_true rfl) (ls0 := [.ref a0, .int x1]) rfl ?_
  refine R_iload_n dX5_mayStand_0 rfl rfl ?_
  refine R_bipush dX5_mayStand_1 (v := 118) (by decide) ?_
  rcases it_split H with ⟨c1, H⟩ | ⟨c1, H⟩
  · refine R_icmp_eq_t dX5_mayStand_3 (tgt := 31) (by decide) c1 ?_
    refine R_iconst dX5_mayStand_31 (v := 1) (by decide) ?_
    refine R_goto dX5_mayStand_32 (tgt := 36) (by decide) ?_
    obtain rfl := Option.some.inj H
    exact R_retI dX5_mayStand_36 rfl (Or.inr ⟨rfl, bi_01 _⟩)
  · refine R_icmp_eq_f dX5_mayStand_3 (tgt := 31) (by decide) c1 ?_
    refine R_aload_n dX5_mayStand_6 rfl rfl ?_
    refine R_getX dX5_mayStand_7 lfX5_67 ka0 rfl (x := h a0 0) rfl ?_
    rcases it_split H with ⟨c2, H⟩ | ⟨c2, H⟩
    · refine R_if_eq_t dX5_mayStand_10 (tgt := 35) (by decide) c2 ?_
      refine R_iconst dX5_mayStand_35 (v := 0) (by decide) ?_
      obtain rfl := Option.some.inj H
      exact R_retI dX5_mayStand_36 rfl (Or.inr ⟨rfl, bi_01 _⟩)
    · refine R_if_eq_f dX5_mayStand_10 (tgt := 35) (by decide) c2 ?_
      refine R_iload_n dX5_mayStand_13 rfl rfl ?_
      refine R_bipush dX5_mayStand_14 (v := 100) (by decide) ?_
      rcases it_split H with ⟨c3, H⟩ | ⟨c3, H⟩
      · refine R_icmp_eq_t dX5_mayStand_16 (tgt := 31) (by decide) c3 ?_
        refine R_iconst dX5_mayStand_31 (v := 1) (by decide) ?_
        refine R_goto dX5_mayStand_32 (tgt := 36) (by decide) ?_
        obtain rfl := Option.some.inj H
        exact R_retI dX5_mayStand_36 rfl (Or.inr ⟨rfl, bi_01 _⟩)
      · refine R_icmp_eq_f dX5_mayStand_16 (tgt := 31) (by decide) c3 ?_
        refine R_iload_n dX5_mayStand_19 rfl rfl ?_
        refine R_bipush dX5_mayStand_20 (v := 104) (by decide) ?_
        rcases it_split H with ⟨c4, H⟩ | ⟨c4, H⟩
        · refine R_icmp_eq_t dX5_mayStand_22 (tgt := 31) (by decide) c4 ?_
          refine R_iconst dX5_mayStand_31 (v := 1) (by decide) ?_
          refine R_goto dX5_mayStand_32 (tgt := 36) (by decide) ?_
          obtain rfl := Option.some.inj H
          exact R_retI dX5_mayStand_36 rfl (Or.inr ⟨rfl, bi_01 _⟩)
        · refine R_icmp_eq_f dX5_mayStand_22 (tgt := 31) (by decide) c4 ?_
          refine R_iload_n dX5_mayStand_25 rfl rfl ?_
          refine R_bipush dX5_mayStand_26 (v := 112) (by decide) ?_
          rcases it_split H with ⟨c5, H⟩ | ⟨c5, H⟩
          · refine R_icmp_ne_f dX5_mayStand_28 (tgt := 35) (by decide) c5 ?_
            refine R_iconst dX5_mayStand_31 (v := 1) (by decide) ?_
            refine R_goto dX5_mayStand_32 (tgt := 36) (by decide) ?_
            obtain rfl := Option.some.inj H
            exact R_retI dX5_mayStand_36 rfl (Or.inr ⟨rfl, bi_01 _⟩)
          · refine R_icmp_ne_t dX5_mayStand_28 (tgt := 35) (by decide) c5 ?_
            refine R_iconst dX5_mayStand_35 (v := 0) (by decide) ?_
            obtain rfl := Option.some.inj H
            exact R_retI dX5_mayStand_36 rfl (Or.inr ⟨rfl, bi_01 _⟩)

set_option maxRecDepth 100000 in
set_option maxHeartbeats 4000000 in
theorem tX5_fail {h : aH} {x1 : Int32} {x2 : Int32} {h2 : aH} (H : fX5_fail h x1 x2 = some h2) : Ev mX5_fail [.ref 1, .int x1, .int x2] h none h2 := by
  unfold fX5_fail at H
  refine Ev_of (sp := (0, fun _ => 0)) oX5_fail nlX5 (Nat.le_of_ble_eq_true rfl) (ls0 := [.ref 1, .int x1, .int x2]) rfl ?_
  refine R_aload_n dX5_fail_0 rfl rfl ?_
  refine R_getX dX5_fail_1 lfX5_26 rfl rfl (x := h 1 3) rfl ?_
  rcases it_split H with ⟨c1, H⟩ | ⟨c1, H⟩
  · refine R_if_ne_f dX5_fail_4 (tgt := 17) (by decide) c1 ?_
    refine R_aload_n dX5_fail_7 rfl rfl ?_
    refine R_iload_n dX5_fail_8 rfl rfl ?_
    refine R_putI dX5_fail_9 lfX5_26 rfl rfl ?_
    refine R_aload_n dX5_fail_12 rfl rfl ?_
    refine R_iload_n dX5_fail_13 rfl rfl ?_
    refine R_putI dX5_fail_14 lfX5_15 rfl rfl ?_
    obtain rfl := Option.some.inj H
    exact R_ret (o := none) dX5_fail_17 rfl
  · refine R_if_ne_t dX5_fail_4 (tgt := 17) (by decide) c1 ?_
    obtain rfl := Option.some.inj H
    exact R_ret (o := none) dX5_fail_17 rfl

set_option maxRecDepth 100000 in
set_option maxHeartbeats 4000000 in
theorem tX5_isTooMany {h : aH} {a0 : Nat} {x1 : Int32} {r : Bool} (ka0 : kC a0 = 6) (H : fX5_isTooMany h a0 x1 = some r) : Ev mX5_isTooMany [.ref a0, .int x1] h (some (.int (bi r))) h := by
  unfold fX5_isTooMany at H
  refine Ev_of (sp := (0, fun _ => 0)) oX5_isTooMany nlX5 (Nat.le_of_ble_eq_true rfl) (ls0 := [.ref a0, .int x1]) rfl ?_
  refine R_iload_n dX5_isTooMany_0 rfl rfl ?_
  rcases it_split H with ⟨c1, H⟩ | ⟨c1, H⟩
  · refine R_lookup dX5_isTooMany_1 (by decide) (off := 40) (by rw [c1]; decide) (tgt := 41) (by decide) ?_
    refine R_aload_n dX5_isTooMany_41 rfl rfl ?_
    refine R_getX dX5_isTooMany_42 lfX5_73 ka0 rfl (x := h a0 4) rfl ?_
    rcases it_split H with ⟨c2, H⟩ | ⟨c2, H⟩
    · refine R_if_le_t dX5_isTooMany_45 (tgt := 52) (by decide) c2 ?_
      refine R_iconst dX5_isTooMany_52 (v := 0) (by decide) ?_
      obtain rfl := Option.some.inj H
      exact R_retI dX5_isTooMany_53 rfl (Or.inr ⟨rfl, bi_01 _⟩)
    · refine R_if_le_f dX5_isTooMany_45 (tgt := 52) (by decide) c2 ?_
      refine R_iconst dX5_isTooMany_48 (v := 1) (by decide) ?_
      refine R_goto dX5_isTooMany_49 (tgt := 53) (by decide) ?_
      obtain rfl := Option.some.inj H
      exact R_retI dX5_isTooMany_53 rfl (Or.inr ⟨rfl, bi_01 _⟩)
  · rcases it_split H with ⟨c3, H⟩ | ⟨c3, H⟩
    · refine R_lookup dX5_isTooMany_1 (by decide) (off := 53) (by rw [c3]; decide) (tgt := 54) (by decide) ?_
      refine R_aload_n dX5_isTooMany_54 rfl rfl ?_
      refine R_getX dX5_isTooMany_55 lfX5_76 ka0 rfl (x := h a0 5) rfl ?_
      refine R_iconst dX5_isTooMany_58 (v := 4) (by decide) ?_
      rcases it_split H with ⟨c4, H⟩ | ⟨c4, H⟩
      · refine R_icmp_lt_t dX5_isTooMany_59 (tgt := 66) (by decide) c4 ?_
        refine R_iconst dX5_isTooMany_66 (v := 0) (by decide) ?_
        obtain rfl := Option.some.inj H
        exact R_retI dX5_isTooMany_67 rfl (Or.inr ⟨rfl, bi_01 _⟩)
      · refine R_icmp_lt_f dX5_isTooMany_59 (tgt := 66) (by decide) c4 ?_
        refine R_iconst dX5_isTooMany_62 (v := 1) (by decide) ?_
        refine R_goto dX5_isTooMany_63 (tgt := 67) (by decide) ?_
        obtain rfl := Option.some.inj H
        exact R_retI dX5_isTooMany_67 rfl (Or.inr ⟨rfl, bi_01 _⟩)
    · rcases it_split H with ⟨c5, H⟩ | ⟨c5, H⟩
      · refine R_lookup dX5_isTooMany_1 (by decide) (off := 35) (by rw [c5]; decide) (tgt := 36) (by decide) ?_
        refine R_aload_n dX5_isTooMany_36 rfl rfl ?_
        refine R_getX dX5_isTooMany_37 lfX5_67 ka0 rfl (x := h a0 0) rfl ?_
        exact R_retI dX5_isTooMany_40 (ib_some H) (Or.inr ⟨rfl, bi_01 _⟩)
      · have nc1 : Int32.toInt x1 ≠ 100 := ti_ne c1
        have nc3 : Int32.toInt x1 ≠ 104 := ti_ne c3
        have nc5 : Int32.toInt x1 ≠ 118 := ti_ne c5
        refine R_lookup dX5_isTooMany_1 (by decide) (off := 67) (by simp [Op.lookupswitch.offset, nc1, nc1.symm, nc3, nc3.symm, nc5, nc5.symm]) (tgt := 68) (by decide) ?_
        refine R_aload_n dX5_isTooMany_68 rfl rfl ?_
        refine R_getX dX5_isTooMany_69 lfX5_79 ka0 rfl (x := h a0 6) rfl ?_
        refine R_iconst dX5_isTooMany_72 (v := 4) (by decide) ?_
        rcases it_split H with ⟨c6, H⟩ | ⟨c6, H⟩
        · refine R_icmp_lt_t dX5_isTooMany_73 (tgt := 80) (by decide) c6 ?_
          refine R_iconst dX5_isTooMany_80 (v := 0) (by decide) ?_
          obtain rfl := Option.some.inj H
          exact R_retI dX5_isTooMany_81 rfl (Or.inr ⟨rfl, bi_01 _⟩)
        · refine R_icmp_lt_f dX5_isTooMany_73 (tgt := 80) (by decide) c6 ?_
          refine R_iconst dX5_isTooMany_76 (v := 1) (by decide) ?_
          refine R_goto dX5_isTooMany_77 (tgt := 81) (by decide) ?_
          obtain rfl := Option.some.inj H
          exact R_retI dX5_isTooMany_81 rfl (Or.inr ⟨rfl, bi_01 _⟩)

set_option maxRecDepth 100000 in
set_option maxHeartbeats 4000000 in
theorem tX5_isFigure {h : aH} {x0 : Int32} {r : Bool} (H : fX5_isFigure x0 = some r) : Ev mX5_isFigure [.int x0] h (some (.int (bi r))) h := by
  unfold fX5_isFigure at H
  refine Ev_of (sp := (0, fun _ => 0)) oX5_isFigure nlX5 (Nat.le_of_ble_eq_true rfl) (ls0 := [.int x0]) rfl ?_
  refine R_iload_n dX5_isFigure_0 rfl rfl ?_
  refine R_bipush dX5_isFigure_1 (v := 48) (by decide) ?_
  rcases it_split H with ⟨c1, H⟩ | ⟨c1, H⟩
  · refine R_icmp_lt_t dX5_isFigure_3 (tgt := 16) (by decide) c1 ?_
    refine R_iconst dX5_isFigure_16 (v := 0) (by decide) ?_
    obtain rfl := Option.some.inj H
    exact R_retI dX5_isFigure_17 rfl (Or.inr ⟨rfl, bi_01 _⟩)
  · refine R_icmp_lt_f dX5_isFigure_3 (tgt := 16) (by decide) c1 ?_
    refine R_iload_n dX5_isFigure_6 rfl rfl ?_
    refine R_bipush dX5_isFigure_7 (v := 57) (by decide) ?_
    rcases it_split H with ⟨c2, H⟩ | ⟨c2, H⟩
    · refine R_icmp_gt_t dX5_isFigure_9 (tgt := 16) (by decide) c2 ?_
      refine R_iconst dX5_isFigure_16 (v := 0) (by decide) ?_
      obtain rfl := Option.some.inj H
      exact R_retI dX5_isFigure_17 rfl (Or.inr ⟨rfl, bi_01 _⟩)
    · refine R_icmp_gt_f dX5_isFigure_9 (tgt := 16) (by decide) c2 ?_
      refine R_iconst dX5_isFigure_12 (v := 1) (by decide) ?_
      refine R_goto dX5_isFigure_13 (tgt := 17) (by decide) ?_
      obtain rfl := Option.some.inj H
      exact R_retI dX5_isFigure_17 rfl (Or.inr ⟨rfl, bi_01 _⟩)

set_option maxRecDepth 100000 in
set_option maxHeartbeats 4000000 in
theorem tX5_readNumber_L21 {sp : Nat × (Nat → Int32)} {K : aH → Int32 → Option (Int32 × aH)} {x1 : Int32} {x2 : Int32} {x3 : Int32} (hK : ∀ (hk : aH) (y4 : Int32) (r : Int32) (h2 : aH), K hk y4 = some (r, h2) → Rn sp mX5_readNumber 85 [.ref 1, .int x1, .int x2, .int x3, .int y4] [] hk (some (.int r)) h2) : ∀ (n : Nat) (h : aH) (x4 : Int32) (r : Int32) (h2 : aH), fX5_readNumber_L21 K x1 x2 x3 n h x4 = some (r, h2) → Rn sp mX5_readNumber 21 [.ref 1, .int x1, .int x2, .int x3, .int x4] [] h (some (.int r)) h2 := by
  intro n
  induction n with
  | zero =>
    intro h x4 r h2 H
    rw [fX5_readNumber_L21] at H
    cases H
  | succ n ih =>
    intro h x4 r h2 H
    rw [fX5_readNumber_L21] at H
    refine R_aload_n dX5_readNumber_21 rfl rfl ?_
    refine R_getX dX5_readNumber_22 lfX5_23 rfl rfl (x := h 1 2) rfl ?_
    refine R_aload_n dX5_readNumber_25 rfl rfl ?_
    refine R_getX dX5_readNumber_26 lfX5_19 rfl rfl (x := h 1 1) rfl ?_
    rcases it_split H with ⟨c4, H⟩ | ⟨c4, H⟩
    · refine R_icmp_ge_t dX5_readNumber_29 (tgt := 85) (by decide) c4 ?_
      exact hK _ _ _ _ H
    · refine R_icmp_ge_f dX5_readNumber_29 (tgt := 85) (by decide) c4 ?_
      refine R_aload_n dX5_readNumber_32 rfl rfl ?_
      obtain ⟨r6, e5, H⟩ := bn_some H
      refine R_cV dX5_readNumber_33 lvX5_36 ⟨Nat.le_of_ble_eq_true rfl, Nat.le_of_ble_eq_true rfl⟩ (r := 1) rfl (av := []) (st := []) rfl rfl (Nat.le_of_ble_eq_true rfl) (tX5_current e5) ?_
      obtain ⟨r8, e7, H⟩ := bn_some H
      refine R_cS dX5_readNumber_36 lvX5_116 ⟨Nat.le_of_ble_eq_true rfl, Nat.le_of_ble_eq_true rfl⟩ (av := [.int r6]) (st := []) rfl rfl (Nat.le_of_ble_eq_true rfl) (tX5_isFigure e7) ?_
      rcases it_split H with ⟨c9, H⟩ | ⟨c9, H⟩
      · refine R_if_eq_t dX5_readNumber_39 (tgt := 85) (by decide) c9 ?_
        exact hK _ _ _ _ H
      · refine R_if_eq_f dX5_readNumber_39 (tgt := 85) (by decide) c9 ?_
        refine R_aload_n dX5_readNumber_42 rfl rfl ?_
        refine R_getX dX5_readNumber_43 lfX5_23 rfl rfl (x := h 1 2) rfl ?_
        refine R_iload_n dX5_readNumber_46 rfl rfl ?_
        refine R_isub dX5_readNumber_47 ?_
        refine R_iconst dX5_readNumber_48 (v := 3) (by decide) ?_
        rcases it_split H with ⟨c10, H⟩ | ⟨c10, H⟩
        · refine R_icmp_ge_t dX5_readNumber_49 (tgt := 68) (by decide) c10 ?_
          refine R_iload dX5_readNumber_68 rfl ?_
          refine R_istoreW dX5_readNumber_70 (by decide) rfl (ls2 := [.ref 1, .int x1, .int x2, .int x3, .int x4]) rfl ?_
          refine R_aload_n dX5_readNumber_72 rfl rfl ?_
          refine R_dup dX5_readNumber_73 rfl ?_
          refine R_getX dX5_readNumber_74 lfX5_23 rfl rfl (x := h 1 2) rfl ?_
          refine R_iconst dX5_readNumber_77 (v := 1) (by decide) ?_
          refine R_iadd dX5_readNumber_78 ?_
          refine R_putI dX5_readNumber_79 lfX5_23 rfl rfl ?_
          refine R_goto dX5_readNumber_82 (tgt := 21) (by decide) ?_
          exact ih _ _ _ _ H
        · refine R_icmp_ge_f dX5_readNumber_49 (tgt := 68) (by decide) c10 ?_
          refine R_iload dX5_readNumber_52 rfl ?_
          refine R_bipush dX5_readNumber_54 (v := 10) (by decide) ?_
          refine R_imul dX5_readNumber_56 ?_
          refine R_aload_n dX5_readNumber_57 rfl rfl ?_
          obtain ⟨r12, e11, H⟩ := bn_some H
          refine R_cV dX5_readNumber_58 lvX5_36 ⟨Nat.le_of_ble_eq_true rfl, Nat.le_of_ble_eq_true rfl⟩ (r := 1) rfl (av := []) (st := [.int (x4 * 10)]) rfl rfl (Nat.le_of_ble_eq_true rfl) (tX5_current e11) ?_
          refine R_iadd dX5_readNumber_61 ?_
          refine R_bipush dX5_readNumber_62 (v := 48) (by decide) ?_
          refine R_isub dX5_readNumber_64 ?_
          refine R_goto dX5_readNumber_65 (tgt := 70) (by decide) ?_
          refine R_istoreW dX5_readNumber_70 (by decide) rfl (ls2 := [.ref 1, .int x1, .int x2, .int x3, .int (((x4 * 10) + r12) - 48)]) rfl ?_
          refine R_aload_n dX5_readNumber_72 rfl rfl ?_
          refine R_dup dX5_readNumber_73 rfl ?_
          refine R_getX dX5_readNumber_74 lfX5_23 rfl rfl (x := h 1 2) rfl ?_
          refine R_iconst dX5_readNumber_77 (v := 1) (by decide) ?_
          refine R_iadd dX5_readNumber_78 ?_
          refine R_putI dX5_readNumber_79 lfX5_23 rfl rfl ?_
          refine R_goto dX5_readNumber_82 (tgt := 21) (by decide) ?_
          exact ih _ _ _ _ H

set_option maxRecDepth 100000 in
set_option maxHeartbeats 4000000 in
theorem tX5_readNumber {h : aH} {x1 : Int32} {x2 : Int32} {r : Int32} {h2 : aH} (H : fX5_readNumber h x1 x2 = some (r, h2)) : Ev mX5_readNumber [.ref 1, .int x1, .int x2] h (some (.int r)) h2 := by
  unfold fX5_readNumber at H
  refine Ev_of (sp := (0, fun _ => 0)) oX5_readNumber nlX5 (Nat.le_of_ble_eq_true rfl) (ls0 := [.ref 1, .int x1, .int x2, .null, .null]) rfl ?_
  refine R_aload_n dX5_readNumber_0 rfl rfl ?_
  refine R_getX dX5_readNumber_1 lfX5_26 rfl rfl (x := h 1 3) rfl ?_
  rcases it_split H with ⟨c1, H⟩ | ⟨c1, H⟩
  · refine R_if_eq_t dX5_readNumber_4 (tgt := 9) (by decide) c1 ?_
    refine R_aload_n dX5_readNumber_9 rfl rfl ?_
    obtain ⟨h3, e2, H⟩ := bn_some H
    refine R_cV dX5_readNumber_10 lvX5_29 ⟨Nat.le_of_ble_eq_true rfl, Nat.le_of_ble_eq_true rfl⟩ (r := 1) rfl (av := []) (st := []) rfl rfl (Nat.le_of_ble_eq_true rfl) (tX5_skipBlanks e2) ?_
    refine R_aload_n dX5_readNumber_13 rfl rfl ?_
    refine R_getX dX5_readNumber_14 lfX5_23 rfl rfl (x := h3 1 2) rfl ?_
    refine R_istoreN dX5_readNumber_17 rfl (by decide) rfl (ls2 := [.ref 1, .int x1, .int x2, .int (h3 1 2), .null]) rfl ?_
    refine R_iconst dX5_readNumber_18 (v := 0) (by decide) ?_
    refine R_istoreW dX5_readNumber_19 (by decide) rfl (ls2 := [.ref 1, .int x1, .int x2, .int (h3 1 2), .int 0]) rfl ?_
    refine tX5_readNumber_L21 (fun h14 z13 r h2 H => ?_) _ _ _ _ _ H
    refine R_aload_n dX5_readNumber_85 rfl rfl ?_
    refine R_getX dX5_readNumber_86 lfX5_23 rfl rfl (x := h14 1 2) rfl ?_
    refine R_iload_n dX5_readNumber_89 rfl rfl ?_
    rcases it_split H with ⟨c15, H⟩ | ⟨c15, H⟩
    · refine R_icmp_ne_f dX5_readNumber_90 (tgt := 102) (by decide) c15 ?_
      refine R_aload_n dX5_readNumber_93 rfl rfl ?_
      refine R_iconst dX5_readNumber_94 (v := 1) (by decide) ?_
      refine R_iload_n dX5_readNumber_95 rfl rfl ?_
      obtain ⟨h17, e16, H⟩ := bn_some H
      refine R_cV dX5_readNumber_96 lvX5_44 ⟨Nat.le_of_ble_eq_true rfl, Nat.le_of_ble_eq_true rfl⟩ (r := 1) rfl (av := [.int 1, .int (h3 1 2)]) (st := []) rfl rfl (Nat.le_of_ble_eq_true rfl) (tX5_fail e16) ?_
      refine R_goto dX5_readNumber_99 (tgt := 130) (by decide) ?_
      refine R_iload dX5_readNumber_130 rfl ?_
      obtain ⟨rfl, rfl⟩ := so2 H
      exact R_retI dX5_readNumber_132 rfl (Or.inl rfl)
    · refine R_icmp_ne_t dX5_readNumber_90 (tgt := 102) (by decide) c15 ?_
      refine R_aload_n dX5_readNumber_102 rfl rfl ?_
      refine R_getX dX5_readNumber_103 lfX5_23 rfl rfl (x := h14 1 2) rfl ?_
      refine R_iload_n dX5_readNumber_106 rfl rfl ?_
      refine R_isub dX5_readNumber_107 ?_
      refine R_iconst dX5_readNumber_108 (v := 3) (by decide) ?_
      rcases it_split H with ⟨c18, H⟩ | ⟨c18, H⟩
      · refine R_icmp_gt_t dX5_readNumber_109 (tgt := 124) (by decide) c18 ?_
        refine R_aload_n dX5_readNumber_124 rfl rfl ?_
        refine R_iconst dX5_readNumber_125 (v := 2) (by decide) ?_
        refine R_iload_n dX5_readNumber_126 rfl rfl ?_
        obtain ⟨h20, e19, H⟩ := bn_some H
        refine R_cV dX5_readNumber_127 lvX5_44 ⟨Nat.le_of_ble_eq_true rfl, Nat.le_of_ble_eq_true rfl⟩ (r := 1) rfl (av := [.int 2, .int (h3 1 2)]) (st := []) rfl rfl (Nat.le_of_ble_eq_true rfl) (tX5_fail e19) ?_
        refine R_iload dX5_readNumber_130 rfl ?_
        obtain ⟨rfl, rfl⟩ := so2 H
        exact R_retI dX5_readNumber_132 rfl (Or.inl rfl)
      · refine R_icmp_gt_f dX5_readNumber_109 (tgt := 124) (by decide) c18 ?_
        refine R_iload dX5_readNumber_112 rfl ?_
        refine R_iload_n dX5_readNumber_114 rfl rfl ?_
        rcases it_split H with ⟨c21, H⟩ | ⟨c21, H⟩
        · refine R_icmp_lt_t dX5_readNumber_115 (tgt := 124) (by decide) c21 ?_
          refine R_aload_n dX5_readNumber_124 rfl rfl ?_
          refine R_iconst dX5_readNumber_125 (v := 2) (by decide) ?_
          refine R_iload_n dX5_readNumber_126 rfl rfl ?_
          obtain ⟨h23, e22, H⟩ := bn_some H
          refine R_cV dX5_readNumber_127 lvX5_44 ⟨Nat.le_of_ble_eq_true rfl, Nat.le_of_ble_eq_true rfl⟩ (r := 1) rfl (av := [.int 2, .int (h3 1 2)]) (st := []) rfl rfl (Nat.le_of_ble_eq_true rfl) (tX5_fail e22) ?_
          refine R_iload dX5_readNumber_130 rfl ?_
          obtain ⟨rfl, rfl⟩ := so2 H
          exact R_retI dX5_readNumber_132 rfl (Or.inl rfl)
        · refine R_icmp_lt_f dX5_readNumber_115 (tgt := 124) (by decide) c21 ?_
          refine R_iload dX5_readNumber_118 rfl ?_
          refine R_iload_n dX5_readNumber_120 rfl rfl ?_
          rcases it_split H with ⟨c24, H⟩ | ⟨c24, H⟩
          · refine R_icmp_le_t dX5_readNumber_121 (tgt := 130) (by decide) c24 ?_
            refine R_iload dX5_readNumber_130 rfl ?_
            obtain ⟨rfl, rfl⟩ := so2 H
            exact R_retI dX5_readNumber_132 rfl (Or.inl rfl)
          · refine R_icmp_le_f dX5_readNumber_121 (tgt := 130) (by decide) c24 ?_
            refine R_aload_n dX5_readNumber_124 rfl rfl ?_
            refine R_iconst dX5_readNumber_125 (v := 2) (by decide) ?_
            refine R_iload_n dX5_readNumber_126 rfl rfl ?_
            obtain ⟨h26, e25, H⟩ := bn_some H
            refine R_cV dX5_readNumber_127 lvX5_44 ⟨Nat.le_of_ble_eq_true rfl, Nat.le_of_ble_eq_true rfl⟩ (r := 1) rfl (av := [.int 2, .int (h3 1 2)]) (st := []) rfl rfl (Nat.le_of_ble_eq_true rfl) (tX5_fail e25) ?_
            refine R_iload dX5_readNumber_130 rfl ?_
            obtain ⟨rfl, rfl⟩ := so2 H
            exact R_retI dX5_readNumber_132 rfl (Or.inl rfl)
  · refine R_if_eq_f dX5_readNumber_4 (tgt := 9) (by decide) c1 ?_
    refine R_iload_n dX5_readNumber_7 rfl rfl ?_
    obtain ⟨rfl, rfl⟩ := so2 H
    exact R_retI dX5_readNumber_8 rfl (Or.inl rfl)

set_option maxRecDepth 100000 in
set_option maxHeartbeats 4000000 in
theorem tX5_readWeather {h : aH} {a1 : Nat} {h2 : aH} (ka1 : kC a1 = 6) (H : fX5_readWeather h a1 = some h2) : Ev mX5_readWeather [.ref 1, .ref a1] h none h2 := by
  unfold fX5_readWeather at H
  refine Ev_of (sp := (0, fun _ => 0)) oX5_readWeather nlX5 (Nat.le_of_ble_eq_true rfl) (ls0 := [.ref 1, .ref a1]) rfl ?_
  refine R_aload_n dX5_readWeather_0 rfl rfl ?_
  refine R_aload_n dX5_readWeather_1 rfl rfl ?_
  refine R_iconst dX5_readWeather_2 (v := 0) (by decide) ?_
  refine R_bipush dX5_readWeather_3 (v := 7) (by decide) ?_
  obtain ⟨r3, h2, e1, H⟩ := bn2_some H
  refine R_cV dX5_readWeather_5 lvX5_82 ⟨Nat.le_of_ble_eq_true rfl, Nat.le_of_ble_eq_true rfl⟩ (r := 1) rfl (av := [.int 0, .int 7]) (st := [.ref a1]) rfl rfl (Nat.le_of_ble_eq_true rfl) (tX5_readNumber e1) ?_
  refine R_putI dX5_readWeather_8 lfX5_86 ka1 rfl ?_
  refine R_aload_n dX5_readWeather_11 rfl rfl ?_
  refine R_aload_n dX5_readWeather_12 rfl rfl ?_
  refine R_iconst dX5_readWeather_13 (v := 0) (by decide) ?_
  refine R_bipush dX5_readWeather_14 (v := 9) (by decide) ?_
  obtain ⟨r6, h5, e4, H⟩ := bn2_some H
  refine R_cV dX5_readWeather_16 lvX5_82 ⟨Nat.le_of_ble_eq_true rfl, Nat.le_of_ble_eq_true rfl⟩ (r := 1) rfl (av := [.int 0, .int 9]) (st := [.ref a1]) rfl rfl (Nat.le_of_ble_eq_true rfl) (tX5_readNumber e4) ?_
  refine R_putI dX5_readWeather_19 lfX5_89 ka1 rfl ?_
  refine R_aload_n dX5_readWeather_22 rfl rfl ?_
  refine R_aload_n dX5_readWeather_23 rfl rfl ?_
  refine R_iconst dX5_readWeather_24 (v := 0) (by decide) ?_
  refine R_bipush dX5_readWeather_25 (v := 12) (by decide) ?_
  obtain ⟨r9, h8, e7, H⟩ := bn2_some H
  refine R_cV dX5_readWeather_27 lvX5_82 ⟨Nat.le_of_ble_eq_true rfl, Nat.le_of_ble_eq_true rfl⟩ (r := 1) rfl (av := [.int 0, .int 12]) (st := [.ref a1]) rfl rfl (Nat.le_of_ble_eq_true rfl) (tX5_readNumber e7) ?_
  refine R_putI dX5_readWeather_30 lfX5_92 ka1 rfl ?_
  refine R_aload_n dX5_readWeather_33 rfl rfl ?_
  refine R_iconst dX5_readWeather_34 (v := 1) (by decide) ?_
  refine R_putZ dX5_readWeather_35 lfX5_67 ka1 rfl (by decide) ?_
  obtain rfl := Option.some.inj H
  exact R_ret (o := none) dX5_readWeather_38 rfl

set_option maxRecDepth 100000 in
set_option maxHeartbeats 4000000 in
theorem tX5_takeIf {h : aH} {x1 : Int32} {r : Bool} {h2 : aH} (H : fX5_takeIf h x1 = some (r, h2)) : Ev mX5_takeIf [.ref 1, .int x1] h (some (.int (bi r))) h2 := by
  unfold fX5_takeIf at H
  refine Ev_of (sp := (0, fun _ => 0)) oX5_takeIf nlX5 (Nat.le_of_ble_eq_true rfl) (ls0 := [.ref 1, .int x1]) rfl ?_
  refine R_aload_n dX5_takeIf_0 rfl rfl ?_
  refine R_getX dX5_takeIf_1 lfX5_26 rfl rfl (x := h 1 3) rfl ?_
  rcases it_split H with ⟨c1, H⟩ | ⟨c1, H⟩
  · refine R_if_eq_t dX5_takeIf_4 (tgt := 9) (by decide) c1 ?_
    refine R_aload_n dX5_takeIf_9 rfl rfl ?_
    obtain ⟨h3, e2, H⟩ := bn_some H
    refine R_cV dX5_takeIf_10 lvX5_29 ⟨Nat.le_of_ble_eq_true rfl, Nat.le_of_ble_eq_true rfl⟩ (r := 1) rfl (av := []) (st := []) rfl rfl (Nat.le_of_ble_eq_true rfl) (tX5_skipBlanks e2) ?_
    refine R_aload_n dX5_takeIf_13 rfl rfl ?_
    obtain ⟨r5, e4, H⟩ := bn_some H
    refine R_cV dX5_takeIf_14 lvX5_36 ⟨Nat.le_of_ble_eq_true rfl, Nat.le_of_ble_eq_true rfl⟩ (r := 1) rfl (av := []) (st := []) rfl rfl (Nat.le_of_ble_eq_true rfl) (tX5_current e4) ?_
    refine R_iload_n dX5_takeIf_17 rfl rfl ?_
    rcases it_split H with ⟨c6, H⟩ | ⟨c6, H⟩
    · refine R_icmp_eq_t dX5_takeIf_18 (tgt := 23) (by decide) c6 ?_
      refine R_aload_n dX5_takeIf_23 rfl rfl ?_
      refine R_dup dX5_takeIf_24 rfl ?_
      refine R_getX dX5_takeIf_25 lfX5_23 rfl rfl (x := h3 1 2) rfl ?_
      refine R_iconst dX5_takeIf_28 (v := 1) (by decide) ?_
      refine R_iadd dX5_takeIf_29 ?_
      refine R_putI dX5_takeIf_30 lfX5_23 rfl rfl ?_
      refine R_iconst dX5_takeIf_33 (v := 1) (by decide) ?_
      obtain ⟨rfl, rfl⟩ := so2 H
      exact R_retI dX5_takeIf_34 rfl (Or.inr ⟨rfl, bi_01 _⟩)
    · refine R_icmp_eq_f dX5_takeIf_18 (tgt := 23) (by decide) c6 ?_
      refine R_iconst dX5_takeIf_21 (v := 0) (by decide) ?_
      obtain ⟨rfl, rfl⟩ := so2 H
      exact R_retI dX5_takeIf_22 rfl (Or.inr ⟨rfl, bi_01 _⟩)
  · refine R_if_eq_f dX5_takeIf_4 (tgt := 9) (by decide) c1 ?_
    refine R_iconst dX5_takeIf_7 (v := 0) (by decide) ?_
    obtain ⟨rfl, rfl⟩ := so2 H
    exact R_retI dX5_takeIf_8 rfl (Or.inr ⟨rfl, bi_01 _⟩)

set_option maxRecDepth 100000 in
set_option maxHeartbeats 4000000 in
theorem tX5_readRains_L4 {sp : Nat × (Nat → Int32)} {K : aH → Int32 → Option aH} {a1 : Nat} (ka1 : kC a1 = 6) (hK : ∀ (hk : aH) (y2 : Int32) (h2 : aH), K hk y2 = some h2 → Rn sp mX5_readRains 54 [.null, .ref a1, .int y2, .null] [] hk none h2) : ∀ (n : Nat) (h : aH) (x2 x3 : Int32) (h2 : aH), fX5_readRains_L4 K a1 n h x2 x3 = some h2 → Rn sp mX5_readRains 4 [.ref 1, .ref a1, .int x2, .int x3] [] h none h2 := by
  intro n
  induction n with
  | zero =>
    intro h x2 x3 h2 H
    rw [fX5_readRains_L4] at H
    cases H
  | succ n ih =>
    intro h x2 x3 h2 H
    rw [fX5_readRains_L4] at H
    refine R_iload_n dX5_readRains_4 rfl rfl ?_
    rcases it_split H with ⟨c1, H⟩ | ⟨c1, H⟩
    · refine R_if_eq_t dX5_readRains_5 (tgt := 54) (by decide) c1 ?_
      refine R_null (i := 0) (ls2 := [.null, .ref a1, .int x2, .int x3]) rfl ?_
      refine R_null (i := 3) (ls2 := [.null, .ref a1, .int x2, .null]) rfl ?_
      exact hK _ _ _ H
    · refine R_if_eq_f dX5_readRains_5 (tgt := 54) (by decide) c1 ?_
      refine R_iload_n dX5_readRains_8 rfl rfl ?_
      refine R_bipush dX5_readRains_9 (v := 8) (by decide) ?_
      rcases it_split H with ⟨c2, H⟩ | ⟨c2, H⟩
      · refine R_icmp_ge_t dX5_readRains_11 (tgt := 54) (by decide) c2 ?_
        refine R_null (i := 0) (ls2 := [.null, .ref a1, .int x2, .int x3]) rfl ?_
        refine R_null (i := 3) (ls2 := [.null, .ref a1, .int x2, .null]) rfl ?_
        exact hK _ _ _ H
      · refine R_icmp_ge_f dX5_readRains_11 (tgt := 54) (by decide) c2 ?_
        refine R_aload_n dX5_readRains_14 rfl rfl ?_
        refine R_getF dX5_readRains_15 lfX5_95 ka1 rfl (q := a1 + 1) rfl ?_
        refine R_iload_n dX5_readRains_18 rfl rfl ?_
        refine R_aload_n dX5_readRains_19 rfl rfl ?_
        refine R_iconst dX5_readRains_20 (v := 0) (by decide) ?_
        refine R_bipush dX5_readRains_21 (v := 9) (by decide) ?_
        obtain ⟨r5, h4, e3, H⟩ := bn2_some H
        refine R_cV dX5_readRains_23 lvX5_82 ⟨Nat.le_of_ble_eq_true rfl, Nat.le_of_ble_eq_true rfl⟩ (r := 1) rfl (av := [.int 0, .int 9]) (st := [.int x2, .ref (a1 + 1)]) rfl rfl (Nat.le_of_ble_eq_true rfl) (tX5_readNumber e3) ?_
        obtain ⟨c6, H⟩ := it_some H
        refine R_iastX dX5_readRains_26 (kV_1 ka1) (nV_1 ka1) (ck_in c6) (j := tn x2) rfl ?_
        refine R_iincW dX5_readRains_27 rfl (v := x2 + 1) rfl (by decide) rfl (ls2 := [.ref 1, .ref a1, .int (x2 + 1), .int x3]) rfl ?_
        refine R_iload_n dX5_readRains_30 rfl rfl ?_
        refine R_bipush dX5_readRains_31 (v := 8) (by decide) ?_
        rcases it_split H with ⟨c7, H⟩ | ⟨c7, H⟩
        · refine R_icmp_ge_t dX5_readRains_33 (tgt := 49) (by decide) c7 ?_
          refine R_iconst dX5_readRains_49 (v := 0) (by decide) ?_
          refine R_istoreN dX5_readRains_50 rfl (by decide) rfl (ls2 := [.ref 1, .ref a1, .int (x2 + 1), .int 0]) rfl ?_
          refine R_goto dX5_readRains_51 (tgt := 4) (by decide) ?_
          exact ih _ _ _ _ H
        · refine R_icmp_ge_f dX5_readRains_33 (tgt := 49) (by decide) c7 ?_
          refine R_aload_n dX5_readRains_36 rfl rfl ?_
          refine R_bipush dX5_readRains_37 (v := 44) (by decide) ?_
          obtain ⟨r10, h9, e8, H⟩ := bn2_some H
          refine R_cV dX5_readRains_39 lvX5_63 ⟨Nat.le_of_ble_eq_true rfl, Nat.le_of_ble_eq_true rfl⟩ (r := 1) rfl (av := [.int 44]) (st := []) rfl rfl (Nat.le_of_ble_eq_true rfl) (tX5_takeIf e8) ?_
          rcases it_split H with ⟨c11, H⟩ | ⟨c11, H⟩
          · refine R_if_eq_t dX5_readRains_42 (tgt := 49) (by decide) c11 ?_
            refine R_iconst dX5_readRains_49 (v := 0) (by decide) ?_
            refine R_istoreN dX5_readRains_50 rfl (by decide) rfl (ls2 := [.ref 1, .ref a1, .int (x2 + 1), .int 0]) rfl ?_
            refine R_goto dX5_readRains_51 (tgt := 4) (by decide) ?_
            exact ih _ _ _ _ H
          · refine R_if_eq_f dX5_readRains_42 (tgt := 49) (by decide) c11 ?_
            refine R_iconst dX5_readRains_45 (v := 1) (by decide) ?_
            refine R_goto dX5_readRains_46 (tgt := 50) (by decide) ?_
            refine R_istoreN dX5_readRains_50 rfl (by decide) rfl (ls2 := [.ref 1, .ref a1, .int (x2 + 1), .int 1]) rfl ?_
            refine R_goto dX5_readRains_51 (tgt := 4) (by decide) ?_
            exact ih _ _ _ _ H

set_option maxRecDepth 100000 in
set_option maxHeartbeats 4000000 in
theorem tX5_readRains {h : aH} {a1 : Nat} {h2 : aH} (ka1 : kC a1 = 6) (H : fX5_readRains h a1 = some h2) : Ev mX5_readRains [.ref 1, .ref a1] h none h2 := by
  unfold fX5_readRains at H
  refine Ev_of (sp := (0, fun _ => 0)) oX5_readRains nlX5 (Nat.le_of_ble_eq_true rfl) (ls0 := [.ref 1, .ref a1, .null, .null]) rfl ?_
  refine R_iconst dX5_readRains_0 (v := 0) (by decide) ?_
  refine R_istoreN dX5_readRains_1 rfl (by decide) rfl (ls2 := [.ref 1, .ref a1, .int 0, .null]) rfl ?_
  refine R_iconst dX5_readRains_2 (v := 1) (by decide) ?_
  refine R_istoreN dX5_readRains_3 rfl (by decide) rfl (ls2 := [.ref 1, .ref a1, .int 0, .int 1]) rfl ?_
  refine tX5_readRains_L4 ka1 (fun h13 z12 h2 H => ?_) _ _ _ _ _ H
  refine R_aload_n dX5_readRains_54 rfl rfl ?_
  refine R_iload_n dX5_readRains_55 rfl rfl ?_
  refine R_putI dX5_readRains_56 lfX5_73 ka1 rfl ?_
  obtain rfl := Option.some.inj H
  exact R_ret (o := none) dX5_readRains_59 rfl

set_option maxRecDepth 100000 in
set_option maxHeartbeats 4000000 in
theorem tX5_readHand {h : aH} {a1 : Nat} {h2 : aH} (ka1 : kC a1 = 6) (H : fX5_readHand h a1 = some h2) : Ev mX5_readHand [.ref 1, .ref a1] h none h2 := by
  unfold fX5_readHand at H
  refine Ev_of (sp := (0, fun _ => 0)) oX5_readHand nlX5 (Nat.le_of_ble_eq_true rfl) (ls0 := [.ref 1, .ref a1, .null]) rfl ?_
  refine R_aload_n dX5_readHand_0 rfl rfl ?_
  refine R_getX dX5_readHand_1 lfX5_76 ka1 rfl (x := h a1 5) rfl ?_
  refine R_istoreN dX5_readHand_4 rfl (by decide) rfl (ls2 := [.ref 1, .ref a1, .int (h a1 5)]) rfl ?_
  refine R_iload_n dX5_readHand_5 rfl rfl ?_
  rcases it_split H with ⟨c1, H⟩ | ⟨c1, H⟩
  · refine R_if_lt_t dX5_readHand_6 (tgt := 14) (by decide) c1 ?_
    obtain rfl := Option.some.inj H
    exact R_ret (o := none) dX5_readHand_14 rfl
  · refine R_if_lt_f dX5_readHand_6 (tgt := 14) (by decide) c1 ?_
    refine R_iload_n dX5_readHand_9 rfl rfl ?_
    refine R_iconst dX5_readHand_10 (v := 4) (by decide) ?_
    rcases it_split H with ⟨c2, H⟩ | ⟨c2, H⟩
    · refine R_icmp_lt_t dX5_readHand_11 (tgt := 15) (by decide) c2 ?_
      refine R_aload_n dX5_readHand_15 rfl rfl ?_
      refine R_getF dX5_readHand_16 lfX5_98 ka1 rfl (q := a1 + 2) rfl ?_
      refine R_iload_n dX5_readHand_19 rfl rfl ?_
      refine R_aload_n dX5_readHand_20 rfl rfl ?_
      refine R_iconst dX5_readHand_21 (v := 0) (by decide) ?_
      refine R_bipush dX5_readHand_22 (v := 8) (by decide) ?_
      obtain ⟨r5, h4, e3, H⟩ := bn2_some H
      refine R_cV dX5_readHand_24 lvX5_82 ⟨Nat.le_of_ble_eq_true rfl, Nat.le_of_ble_eq_true rfl⟩ (r := 1) rfl (av := [.int 0, .int 8]) (st := [.int (h a1 5), .ref (a1 + 2)]) rfl rfl (Nat.le_of_ble_eq_true rfl) (tX5_readNumber e3) ?_
      obtain ⟨c6, H⟩ := it_some H
      refine R_iastX dX5_readHand_27 (kV_2 ka1) (nV_2 ka1) (ck_in c6) (j := tn (h a1 5)) rfl ?_
      refine R_aload_n dX5_readHand_28 rfl rfl ?_
      refine R_getF dX5_readHand_29 lfX5_101 ka1 rfl (q := a1 + 3) rfl ?_
      refine R_iload_n dX5_readHand_32 rfl rfl ?_
      refine R_aload_n dX5_readHand_33 rfl rfl ?_
      refine R_iconst dX5_readHand_34 (v := 0) (by decide) ?_
      refine R_bipush dX5_readHand_35 (v := 8) (by decide) ?_
      obtain ⟨r9, h8, e7, H⟩ := bn2_some H
      refine R_cV dX5_readHand_37 lvX5_82 ⟨Nat.le_of_ble_eq_true rfl, Nat.le_of_ble_eq_true rfl⟩ (r := 1) rfl (av := [.int 0, .int 8]) (st := [.int (h a1 5), .ref (a1 + 3)]) rfl rfl (Nat.le_of_ble_eq_true rfl) (tX5_readNumber e7) ?_
      refine R_iastX dX5_readHand_40 (kV_3 ka1) (nV_3 ka1) (ck_in c6) (j := tn (h a1 5)) rfl ?_
      refine R_aload_n dX5_readHand_41 rfl rfl ?_
      refine R_getF dX5_readHand_42 lfX5_104 ka1 rfl (q := a1 + 4) rfl ?_
      refine R_iload_n dX5_readHand_45 rfl rfl ?_
      refine R_aload_n dX5_readHand_46 rfl rfl ?_
      refine R_iconst dX5_readHand_47 (v := 0) (by decide) ?_
      refine R_bipush dX5_readHand_48 (v := 8) (by decide) ?_
      obtain ⟨r12, h11, e10, H⟩ := bn2_some H
      refine R_cV dX5_readHand_50 lvX5_82 ⟨Nat.le_of_ble_eq_true rfl, Nat.le_of_ble_eq_true rfl⟩ (r := 1) rfl (av := [.int 0, .int 8]) (st := [.int (h a1 5), .ref (a1 + 4)]) rfl rfl (Nat.le_of_ble_eq_true rfl) (tX5_readNumber e10) ?_
      refine R_iastX dX5_readHand_53 (kV_4 ka1) (nV_4 ka1) (ck_in c6) (j := tn (h a1 5)) rfl ?_
      refine R_aload_n dX5_readHand_54 rfl rfl ?_
      refine R_iload_n dX5_readHand_55 rfl rfl ?_
      refine R_iconst dX5_readHand_56 (v := 1) (by decide) ?_
      refine R_iadd dX5_readHand_57 ?_
      refine R_putI dX5_readHand_58 lfX5_76 ka1 rfl ?_
      obtain rfl := Option.some.inj H
      exact R_ret (o := none) dX5_readHand_61 rfl
    · refine R_icmp_lt_f dX5_readHand_11 (tgt := 15) (by decide) c2 ?_
      obtain rfl := Option.some.inj H
      exact R_ret (o := none) dX5_readHand_14 rfl

set_option maxRecDepth 100000 in
set_option maxHeartbeats 4000000 in
theorem tX5_readPaper {h : aH} {a1 : Nat} {h2 : aH} (ka1 : kC a1 = 6) (H : fX5_readPaper h a1 = some h2) : Ev mX5_readPaper [.ref 1, .ref a1] h none h2 := by
  unfold fX5_readPaper at H
  refine Ev_of (sp := (0, fun _ => 0)) oX5_readPaper nlX5 (Nat.le_of_ble_eq_true rfl) (ls0 := [.ref 1, .ref a1, .null]) rfl ?_
  refine R_aload_n dX5_readPaper_0 rfl rfl ?_
  refine R_getX dX5_readPaper_1 lfX5_79 ka1 rfl (x := h a1 6) rfl ?_
  refine R_istoreN dX5_readPaper_4 rfl (by decide) rfl (ls2 := [.ref 1, .ref a1, .int (h a1 6)]) rfl ?_
  refine R_iload_n dX5_readPaper_5 rfl rfl ?_
  rcases it_split H with ⟨c1, H⟩ | ⟨c1, H⟩
  · refine R_if_lt_t dX5_readPaper_6 (tgt := 14) (by decide) c1 ?_
    obtain rfl := Option.some.inj H
    exact R_ret (o := none) dX5_readPaper_14 rfl
  · refine R_if_lt_f dX5_readPaper_6 (tgt := 14) (by decide) c1 ?_
    refine R_iload_n dX5_readPaper_9 rfl rfl ?_
    refine R_iconst dX5_readPaper_10 (v := 4) (by decide) ?_
    rcases it_split H with ⟨c2, H⟩ | ⟨c2, H⟩
    · refine R_icmp_lt_t dX5_readPaper_11 (tgt := 15) (by decide) c2 ?_
      refine R_aload_n dX5_readPaper_15 rfl rfl ?_
      refine R_getF dX5_readPaper_16 lfX5_107 ka1 rfl (q := a1 + 5) rfl ?_
      refine R_iload_n dX5_readPaper_19 rfl rfl ?_
      refine R_aload_n dX5_readPaper_20 rfl rfl ?_
      refine R_iconst dX5_readPaper_21 (v := 0) (by decide) ?_
      refine R_aload_n dX5_readPaper_22 rfl rfl ?_
      refine R_getX dX5_readPaper_23 lfX5_76 ka1 rfl (x := h a1 5) rfl ?_
      refine R_iconst dX5_readPaper_26 (v := 1) (by decide) ?_
      refine R_isub dX5_readPaper_27 ?_
      obtain ⟨r5, h4, e3, H⟩ := bn2_some H
      refine R_cV dX5_readPaper_28 lvX5_82 ⟨Nat.le_of_ble_eq_true rfl, Nat.le_of_ble_eq_true rfl⟩ (r := 1) rfl (av := [.int 0, .int ((h a1 5) - 1)]) (st := [.int (h a1 6), .ref (a1 + 5)]) rfl rfl (Nat.le_of_ble_eq_true rfl) (tX5_readNumber e3) ?_
      obtain ⟨c6, H⟩ := it_some H
      refine R_iastX dX5_readPaper_31 (kV_5 ka1) (nV_5 ka1) (ck_in c6) (j := tn (h a1 6)) rfl ?_
      refine R_aload_n dX5_readPaper_32 rfl rfl ?_
      refine R_getF dX5_readPaper_33 lfX5_110 ka1 rfl (q := a1 + 6) rfl ?_
      refine R_iload_n dX5_readPaper_36 rfl rfl ?_
      refine R_aload_n dX5_readPaper_37 rfl rfl ?_
      refine R_iconst dX5_readPaper_38 (v := 0) (by decide) ?_
      refine R_bipush dX5_readPaper_39 (v := 95) (by decide) ?_
      obtain ⟨r9, h8, e7, H⟩ := bn2_some H
      refine R_cV dX5_readPaper_41 lvX5_82 ⟨Nat.le_of_ble_eq_true rfl, Nat.le_of_ble_eq_true rfl⟩ (r := 1) rfl (av := [.int 0, .int 95]) (st := [.int (h a1 6), .ref (a1 + 6)]) rfl rfl (Nat.le_of_ble_eq_true rfl) (tX5_readNumber e7) ?_
      refine R_iastX dX5_readPaper_44 (kV_6 ka1) (nV_6 ka1) (ck_in c6) (j := tn (h a1 6)) rfl ?_
      refine R_aload_n dX5_readPaper_45 rfl rfl ?_
      refine R_getF dX5_readPaper_46 lfX5_113 ka1 rfl (q := a1 + 7) rfl ?_
      refine R_iload_n dX5_readPaper_49 rfl rfl ?_
      refine R_aload_n dX5_readPaper_50 rfl rfl ?_
      refine R_iconst dX5_readPaper_51 (v := 1) (by decide) ?_
      refine R_bipush dX5_readPaper_52 (v := 12) (by decide) ?_
      obtain ⟨r12, h11, e10, H⟩ := bn2_some H
      refine R_cV dX5_readPaper_54 lvX5_82 ⟨Nat.le_of_ble_eq_true rfl, Nat.le_of_ble_eq_true rfl⟩ (r := 1) rfl (av := [.int 1, .int 12]) (st := [.int (h a1 6), .ref (a1 + 7)]) rfl rfl (Nat.le_of_ble_eq_true rfl) (tX5_readNumber e10) ?_
      refine R_iastX dX5_readPaper_57 (kV_7 ka1) (nV_7 ka1) (ck_in c6) (j := tn (h a1 6)) rfl ?_
      refine R_aload_n dX5_readPaper_58 rfl rfl ?_
      refine R_iload_n dX5_readPaper_59 rfl rfl ?_
      refine R_iconst dX5_readPaper_60 (v := 1) (by decide) ?_
      refine R_iadd dX5_readPaper_61 ?_
      refine R_putI dX5_readPaper_62 lfX5_79 ka1 rfl ?_
      obtain rfl := Option.some.inj H
      exact R_ret (o := none) dX5_readPaper_65 rfl
    · refine R_icmp_lt_f dX5_readPaper_11 (tgt := 15) (by decide) c2 ?_
      obtain rfl := Option.some.inj H
      exact R_ret (o := none) dX5_readPaper_14 rfl

set_option maxRecDepth 100000 in
set_option maxHeartbeats 4000000 in
theorem tX5_readClause {h : aH} {a1 : Nat} {h2 : aH} (ka1 : kC a1 = 6) (H : fX5_readClause h a1 = some h2) : Ev mX5_readClause [.ref 1, .ref a1] h none h2 := by
  unfold fX5_readClause at H
  refine Ev_of (sp := (0, fun _ => 0)) oX5_readClause nlX5 (Nat.le_of_ble_eq_true rfl) (ls0 := [.ref 1, .ref a1, .null]) rfl ?_
  refine R_aload_n dX5_readClause_0 rfl rfl ?_
  obtain ⟨r2, e1, H⟩ := bn_some H
  refine R_cV dX5_readClause_1 lvX5_36 ⟨Nat.le_of_ble_eq_true rfl, Nat.le_of_ble_eq_true rfl⟩ (r := 1) rfl (av := []) (st := []) rfl rfl (Nat.le_of_ble_eq_true rfl) (tX5_current e1) ?_
  refine R_istoreN dX5_readClause_4 rfl (by decide) rfl (ls2 := [.ref 1, .ref a1, .int r2]) rfl ?_
  refine R_aload_n dX5_readClause_5 rfl rfl ?_
  refine R_iload_n dX5_readClause_6 rfl rfl ?_
  obtain ⟨r4, e3, H⟩ := bn_some H
  refine R_cS dX5_readClause_7 lvX5_40 ⟨Nat.le_of_ble_eq_true rfl, Nat.le_of_ble_eq_true rfl⟩ (av := [.ref a1, .int r2]) (st := []) rfl rfl (Nat.le_of_ble_eq_true rfl) (tX5_mayStand ka1 e3) ?_
  rcases it_split H with ⟨c5, H⟩ | ⟨c5, H⟩
  · refine R_if_ne_f dX5_readClause_10 (tgt := 23) (by decide) c5 ?_
    refine R_aload_n dX5_readClause_13 rfl rfl ?_
    refine R_iconst dX5_readClause_14 (v := 1) (by decide) ?_
    refine R_aload_n dX5_readClause_15 rfl rfl ?_
    refine R_getX dX5_readClause_16 lfX5_23 rfl rfl (x := h 1 2) rfl ?_
    obtain ⟨h7, e6, H⟩ := bn_some H
    refine R_cV dX5_readClause_19 lvX5_44 ⟨Nat.le_of_ble_eq_true rfl, Nat.le_of_ble_eq_true rfl⟩ (r := 1) rfl (av := [.int 1, .int (h 1 2)]) (st := []) rfl rfl (Nat.le_of_ble_eq_true rfl) (tX5_fail e6) ?_
    obtain rfl := Option.some.inj H
    exact R_ret (o := none) dX5_readClause_22 rfl
  · refine R_if_ne_t dX5_readClause_10 (tgt := 23) (by decide) c5 ?_
    refine R_aload_n dX5_readClause_23 rfl rfl ?_
    refine R_iload_n dX5_readClause_24 rfl rfl ?_
    obtain ⟨r9, e8, H⟩ := bn_some H
    refine R_cS dX5_readClause_25 lvX5_48 ⟨Nat.le_of_ble_eq_true rfl, Nat.le_of_ble_eq_true rfl⟩ (av := [.ref a1, .int r2]) (st := []) rfl rfl (Nat.le_of_ble_eq_true rfl) (tX5_isTooMany ka1 e8) ?_
    rcases it_split H with ⟨c10, H⟩ | ⟨c10, H⟩
    · refine R_if_eq_t dX5_readClause_28 (tgt := 41) (by decide) c10 ?_
      refine R_aload_n dX5_readClause_41 rfl rfl ?_
      refine R_dup dX5_readClause_42 rfl ?_
      refine R_getX dX5_readClause_43 lfX5_23 rfl rfl (x := h 1 2) rfl ?_
      refine R_iconst dX5_readClause_46 (v := 1) (by decide) ?_
      refine R_iadd dX5_readClause_47 ?_
      refine R_putI dX5_readClause_48 lfX5_23 rfl rfl ?_
      refine R_iload_n dX5_readClause_51 rfl rfl ?_
      rcases it_split H with ⟨c11, H⟩ | ⟨c11, H⟩
      · refine R_lookup dX5_readClause_52 (by decide) (off := 44) (by rw [c11]; decide) (tgt := 96) (by decide) ?_
        refine R_aload_n dX5_readClause_96 rfl rfl ?_
        refine R_aload_n dX5_readClause_97 rfl rfl ?_
        obtain ⟨h13, e12, H⟩ := bn_some H
        refine R_cV dX5_readClause_98 lvX5_54 ⟨Nat.le_of_ble_eq_true rfl, Nat.le_of_ble_eq_true rfl⟩ (r := 1) rfl (av := [.ref a1]) (st := []) rfl rfl (Nat.le_of_ble_eq_true rfl) (tX5_readRains ka1 e12) ?_
        refine R_goto dX5_readClause_101 (tgt := 117) (by decide) ?_
        refine R_aload_n dX5_readClause_117 rfl rfl ?_
        refine R_bipush dX5_readClause_118 (v := 59) (by decide) ?_
        obtain ⟨r16, h15, e14, H⟩ := bn2_some H
        refine R_cV dX5_readClause_120 lvX5_63 ⟨Nat.le_of_ble_eq_true rfl, Nat.le_of_ble_eq_true rfl⟩ (r := 1) rfl (av := [.int 59]) (st := []) rfl rfl (Nat.le_of_ble_eq_true rfl) (tX5_takeIf e14) ?_
        rcases it_split H with ⟨c17, H⟩ | ⟨c17, H⟩
        · refine R_if_ne_f dX5_readClause_123 (tgt := 135) (by decide) c17 ?_
          refine R_aload_n dX5_readClause_126 rfl rfl ?_
          refine R_iconst dX5_readClause_127 (v := 1) (by decide) ?_
          refine R_aload_n dX5_readClause_128 rfl rfl ?_
          refine R_getX dX5_readClause_129 lfX5_23 rfl rfl (x := h15 1 2) rfl ?_
          obtain ⟨h19, e18, H⟩ := bn_some H
          refine R_cV dX5_readClause_132 lvX5_44 ⟨Nat.le_of_ble_eq_true rfl, Nat.le_of_ble_eq_true rfl⟩ (r := 1) rfl (av := [.int 1, .int (h15 1 2)]) (st := []) rfl rfl (Nat.le_of_ble_eq_true rfl) (tX5_fail e18) ?_
          obtain rfl := Option.some.inj H
          exact R_ret (o := none) dX5_readClause_135 rfl
        · refine R_if_ne_t dX5_readClause_123 (tgt := 135) (by decide) c17 ?_
          obtain rfl := Option.some.inj H
          exact R_ret (o := none) dX5_readClause_135 rfl
      · rcases it_split H with ⟨c20, H⟩ | ⟨c20, H⟩
        · refine R_lookup dX5_readClause_52 (by decide) (off := 52) (by rw [c20]; decide) (tgt := 104) (by decide) ?_
          refine R_aload_n dX5_readClause_104 rfl rfl ?_
          refine R_aload_n dX5_readClause_105 rfl rfl ?_
          obtain ⟨h22, e21, H⟩ := bn_some H
          refine R_cV dX5_readClause_106 lvX5_57 ⟨Nat.le_of_ble_eq_true rfl, Nat.le_of_ble_eq_true rfl⟩ (r := 1) rfl (av := [.ref a1]) (st := []) rfl rfl (Nat.le_of_ble_eq_true rfl) (tX5_readHand ka1 e21) ?_
          refine R_goto dX5_readClause_109 (tgt := 117) (by decide) ?_
          refine R_aload_n dX5_readClause_117 rfl rfl ?_
          refine R_bipush dX5_readClause_118 (v := 59) (by decide) ?_
          obtain ⟨r25, h24, e23, H⟩ := bn2_some H
          refine R_cV dX5_readClause_120 lvX5_63 ⟨Nat.le_of_ble_eq_true rfl, Nat.le_of_ble_eq_true rfl⟩ (r := 1) rfl (av := [.int 59]) (st := []) rfl rfl (Nat.le_of_ble_eq_true rfl) (tX5_takeIf e23) ?_
          rcases it_split H with ⟨c26, H⟩ | ⟨c26, H⟩
          · refine R_if_ne_f dX5_readClause_123 (tgt := 135) (by decide) c26 ?_
            refine R_aload_n dX5_readClause_126 rfl rfl ?_
            refine R_iconst dX5_readClause_127 (v := 1) (by decide) ?_
            refine R_aload_n dX5_readClause_128 rfl rfl ?_
            refine R_getX dX5_readClause_129 lfX5_23 rfl rfl (x := h24 1 2) rfl ?_
            obtain ⟨h28, e27, H⟩ := bn_some H
            refine R_cV dX5_readClause_132 lvX5_44 ⟨Nat.le_of_ble_eq_true rfl, Nat.le_of_ble_eq_true rfl⟩ (r := 1) rfl (av := [.int 1, .int (h24 1 2)]) (st := []) rfl rfl (Nat.le_of_ble_eq_true rfl) (tX5_fail e27) ?_
            obtain rfl := Option.some.inj H
            exact R_ret (o := none) dX5_readClause_135 rfl
          · refine R_if_ne_t dX5_readClause_123 (tgt := 135) (by decide) c26 ?_
            obtain rfl := Option.some.inj H
            exact R_ret (o := none) dX5_readClause_135 rfl
        · rcases it_split H with ⟨c29, H⟩ | ⟨c29, H⟩
          · refine R_lookup dX5_readClause_52 (by decide) (off := 36) (by rw [c29]; decide) (tgt := 88) (by decide) ?_
            refine R_aload_n dX5_readClause_88 rfl rfl ?_
            refine R_aload_n dX5_readClause_89 rfl rfl ?_
            obtain ⟨h31, e30, H⟩ := bn_some H
            refine R_cV dX5_readClause_90 lvX5_51 ⟨Nat.le_of_ble_eq_true rfl, Nat.le_of_ble_eq_true rfl⟩ (r := 1) rfl (av := [.ref a1]) (st := []) rfl rfl (Nat.le_of_ble_eq_true rfl) (tX5_readWeather ka1 e30) ?_
            refine R_goto dX5_readClause_93 (tgt := 117) (by decide) ?_
            refine R_aload_n dX5_readClause_117 rfl rfl ?_
            refine R_bipush dX5_readClause_118 (v := 59) (by decide) ?_
            obtain ⟨r34, h33, e32, H⟩ := bn2_some H
            refine R_cV dX5_readClause_120 lvX5_63 ⟨Nat.le_of_ble_eq_true rfl, Nat.le_of_ble_eq_true rfl⟩ (r := 1) rfl (av := [.int 59]) (st := []) rfl rfl (Nat.le_of_ble_eq_true rfl) (tX5_takeIf e32) ?_
            rcases it_split H with ⟨c35, H⟩ | ⟨c35, H⟩
            · refine R_if_ne_f dX5_readClause_123 (tgt := 135) (by decide) c35 ?_
              refine R_aload_n dX5_readClause_126 rfl rfl ?_
              refine R_iconst dX5_readClause_127 (v := 1) (by decide) ?_
              refine R_aload_n dX5_readClause_128 rfl rfl ?_
              refine R_getX dX5_readClause_129 lfX5_23 rfl rfl (x := h33 1 2) rfl ?_
              obtain ⟨h37, e36, H⟩ := bn_some H
              refine R_cV dX5_readClause_132 lvX5_44 ⟨Nat.le_of_ble_eq_true rfl, Nat.le_of_ble_eq_true rfl⟩ (r := 1) rfl (av := [.int 1, .int (h33 1 2)]) (st := []) rfl rfl (Nat.le_of_ble_eq_true rfl) (tX5_fail e36) ?_
              obtain rfl := Option.some.inj H
              exact R_ret (o := none) dX5_readClause_135 rfl
            · refine R_if_ne_t dX5_readClause_123 (tgt := 135) (by decide) c35 ?_
              obtain rfl := Option.some.inj H
              exact R_ret (o := none) dX5_readClause_135 rfl
          · have nc11 : Int32.toInt r2 ≠ 100 := ti_ne c11
            have nc20 : Int32.toInt r2 ≠ 104 := ti_ne c20
            have nc29 : Int32.toInt r2 ≠ 118 := ti_ne c29
            refine R_lookup dX5_readClause_52 (by decide) (off := 60) (by simp [Op.lookupswitch.offset, nc11, nc11.symm, nc20, nc20.symm, nc29, nc29.symm]) (tgt := 112) (by decide) ?_
            refine R_aload_n dX5_readClause_112 rfl rfl ?_
            refine R_aload_n dX5_readClause_113 rfl rfl ?_
            obtain ⟨h39, e38, H⟩ := bn_some H
            refine R_cV dX5_readClause_114 lvX5_60 ⟨Nat.le_of_ble_eq_true rfl, Nat.le_of_ble_eq_true rfl⟩ (r := 1) rfl (av := [.ref a1]) (st := []) rfl rfl (Nat.le_of_ble_eq_true rfl) (tX5_readPaper ka1 e38) ?_
            refine R_aload_n dX5_readClause_117 rfl rfl ?_
            refine R_bipush dX5_readClause_118 (v := 59) (by decide) ?_
            obtain ⟨r42, h41, e40, H⟩ := bn2_some H
            refine R_cV dX5_readClause_120 lvX5_63 ⟨Nat.le_of_ble_eq_true rfl, Nat.le_of_ble_eq_true rfl⟩ (r := 1) rfl (av := [.int 59]) (st := []) rfl rfl (Nat.le_of_ble_eq_true rfl) (tX5_takeIf e40) ?_
            rcases it_split H with ⟨c43, H⟩ | ⟨c43, H⟩
            · refine R_if_ne_f dX5_readClause_123 (tgt := 135) (by decide) c43 ?_
              refine R_aload_n dX5_readClause_126 rfl rfl ?_
              refine R_iconst dX5_readClause_127 (v := 1) (by decide) ?_
              refine R_aload_n dX5_readClause_128 rfl rfl ?_
              refine R_getX dX5_readClause_129 lfX5_23 rfl rfl (x := h41 1 2) rfl ?_
              obtain ⟨h45, e44, H⟩ := bn_some H
              refine R_cV dX5_readClause_132 lvX5_44 ⟨Nat.le_of_ble_eq_true rfl, Nat.le_of_ble_eq_true rfl⟩ (r := 1) rfl (av := [.int 1, .int (h41 1 2)]) (st := []) rfl rfl (Nat.le_of_ble_eq_true rfl) (tX5_fail e44) ?_
              obtain rfl := Option.some.inj H
              exact R_ret (o := none) dX5_readClause_135 rfl
            · refine R_if_ne_t dX5_readClause_123 (tgt := 135) (by decide) c43 ?_
              obtain rfl := Option.some.inj H
              exact R_ret (o := none) dX5_readClause_135 rfl
    · refine R_if_eq_f dX5_readClause_28 (tgt := 41) (by decide) c10 ?_
      refine R_aload_n dX5_readClause_31 rfl rfl ?_
      refine R_iconst dX5_readClause_32 (v := 3) (by decide) ?_
      refine R_aload_n dX5_readClause_33 rfl rfl ?_
      refine R_getX dX5_readClause_34 lfX5_23 rfl rfl (x := h 1 2) rfl ?_
      obtain ⟨h47, e46, H⟩ := bn_some H
      refine R_cV dX5_readClause_37 lvX5_44 ⟨Nat.le_of_ble_eq_true rfl, Nat.le_of_ble_eq_true rfl⟩ (r := 1) rfl (av := [.int 3, .int (h 1 2)]) (st := []) rfl rfl (Nat.le_of_ble_eq_true rfl) (tX5_fail e46) ?_
      obtain rfl := Option.some.inj H
      exact R_ret (o := none) dX5_readClause_40 rfl

set_option maxRecDepth 100000 in
set_option maxHeartbeats 4000000 in
theorem tX5_readInto_L21 {sp : Nat × (Nat → Int32)} {K : aH → Option (Int32 × aH)} {a1 : Nat} (ka1 : kC a1 = 6) (hK : ∀ (hk : aH) (r : Int32) (h2 : aH), K hk = some (r, h2) → Rn sp mX5_readInto 61 [.ref 1, .null, .null] [] hk (some (.int r)) h2) : ∀ (n : Nat) (h : aH) (x2 : Int32) (r : Int32) (h2 : aH), fX5_readInto_L21 K a1 n h x2 = some (r, h2) → Rn sp mX5_readInto 21 [.ref 1, .ref a1, .int x2] [] h (some (.int r)) h2 := by
  intro n
  induction n with
  | zero =>
    intro h x2 r h2 H
    rw [fX5_readInto_L21] at H
    cases H
  | succ n ih =>
    intro h x2 r h2 H
    rw [fX5_readInto_L21] at H
    refine R_iload_n dX5_readInto_21 rfl rfl ?_
    refine R_sipush dX5_readInto_22 (v := 230) (by decide) ?_
    rcases it_split H with ⟨c3, H⟩ | ⟨c3, H⟩
    · refine R_icmp_ge_t dX5_readInto_25 (tgt := 61) (by decide) c3 ?_
      refine R_null (i := 1) (ls2 := [.ref 1, .null, .int x2]) rfl ?_
      refine R_null (i := 2) (ls2 := [.ref 1, .null, .null]) rfl ?_
      exact hK _ _ _ H
    · refine R_icmp_ge_f dX5_readInto_25 (tgt := 61) (by decide) c3 ?_
      refine R_aload_n dX5_readInto_28 rfl rfl ?_
      refine R_getX dX5_readInto_29 lfX5_23 rfl rfl (x := h 1 2) rfl ?_
      refine R_aload_n dX5_readInto_32 rfl rfl ?_
      refine R_getX dX5_readInto_33 lfX5_19 rfl rfl (x := h 1 1) rfl ?_
      rcases it_split H with ⟨c4, H⟩ | ⟨c4, H⟩
      · refine R_icmp_ge_t dX5_readInto_36 (tgt := 61) (by decide) c4 ?_
        refine R_null (i := 1) (ls2 := [.ref 1, .null, .int x2]) rfl ?_
        refine R_null (i := 2) (ls2 := [.ref 1, .null, .null]) rfl ?_
        exact hK _ _ _ H
      · refine R_icmp_ge_f dX5_readInto_36 (tgt := 61) (by decide) c4 ?_
        refine R_aload_n dX5_readInto_39 rfl rfl ?_
        refine R_getX dX5_readInto_40 lfX5_26 rfl rfl (x := h 1 3) rfl ?_
        rcases it_split H with ⟨c5, H⟩ | ⟨c5, H⟩
        · refine R_if_ne_f dX5_readInto_43 (tgt := 61) (by decide) c5 ?_
          refine R_aload_n dX5_readInto_46 rfl rfl ?_
          refine R_aload_n dX5_readInto_47 rfl rfl ?_
          obtain ⟨h7, e6, H⟩ := bn_some H
          refine R_cV dX5_readInto_48 lvX5_32 ⟨Nat.le_of_ble_eq_true rfl, Nat.le_of_ble_eq_true rfl⟩ (r := 1) rfl (av := [.ref a1]) (st := []) rfl rfl (Nat.le_of_ble_eq_true rfl) (tX5_readClause ka1 e6) ?_
          refine R_aload_n dX5_readInto_51 rfl rfl ?_
          obtain ⟨h9, e8, H⟩ := bn_some H
          refine R_cV dX5_readInto_52 lvX5_29 ⟨Nat.le_of_ble_eq_true rfl, Nat.le_of_ble_eq_true rfl⟩ (r := 1) rfl (av := []) (st := []) rfl rfl (Nat.le_of_ble_eq_true rfl) (tX5_skipBlanks e8) ?_
          refine R_iincW dX5_readInto_55 rfl (v := x2 + 1) rfl (by decide) rfl (ls2 := [.ref 1, .ref a1, .int (x2 + 1)]) rfl ?_
          refine R_goto dX5_readInto_58 (tgt := 21) (by decide) ?_
          exact ih _ _ _ _ H
        · refine R_if_ne_t dX5_readInto_43 (tgt := 61) (by decide) c5 ?_
          refine R_null (i := 1) (ls2 := [.ref 1, .null, .int x2]) rfl ?_
          refine R_null (i := 2) (ls2 := [.ref 1, .null, .null]) rfl ?_
          exact hK _ _ _ H

set_option maxRecDepth 100000 in
set_option maxHeartbeats 4000000 in
theorem tX5_readInto {h : aH} {a1 : Nat} {r : Int32} {h2 : aH} (ka1 : kC a1 = 6) (H : fX5_readInto h a1 = some (r, h2)) : Ev mX5_readInto [.ref 1, .ref a1] h (some (.int r)) h2 := by
  unfold fX5_readInto at H
  refine Ev_of (sp := (0, fun _ => 0)) oX5_readInto nlX5 (Nat.le_of_ble_eq_true rfl) (ls0 := [.ref 1, .ref a1, .null]) rfl ?_
  refine R_aload_n dX5_readInto_0 rfl rfl ?_
  refine R_iconst dX5_readInto_1 (v := 0) (by decide) ?_
  refine R_putI dX5_readInto_2 lfX5_23 rfl rfl ?_
  refine R_aload_n dX5_readInto_5 rfl rfl ?_
  refine R_iconst dX5_readInto_6 (v := 0) (by decide) ?_
  refine R_putI dX5_readInto_7 lfX5_26 rfl rfl ?_
  refine R_aload_n dX5_readInto_10 rfl rfl ?_
  refine R_iconst dX5_readInto_11 (v := (-1)) (by decide) ?_
  refine R_putI dX5_readInto_12 lfX5_15 rfl rfl ?_
  refine R_aload_n dX5_readInto_15 rfl rfl ?_
  obtain ⟨h2, e1, H⟩ := bn_some H
  refine R_cV dX5_readInto_16 lvX5_29 ⟨Nat.le_of_ble_eq_true rfl, Nat.le_of_ble_eq_true rfl⟩ (r := 1) rfl (av := []) (st := []) rfl rfl (Nat.le_of_ble_eq_true rfl) (tX5_skipBlanks e1) ?_
  refine R_iconst dX5_readInto_19 (v := 0) (by decide) ?_
  refine R_istoreN dX5_readInto_20 rfl (by decide) rfl (ls2 := [.ref 1, .ref a1, .int 0]) rfl ?_
  refine tX5_readInto_L21 ka1 (fun h10 r h2 H => ?_) _ _ _ _ _ H
  refine R_aload_n dX5_readInto_61 rfl rfl ?_
  refine R_iconst dX5_readInto_62 (v := 0) (by decide) ?_
  refine R_putI dX5_readInto_63 lfX5_19 rfl rfl ?_
  refine R_aload_n dX5_readInto_66 rfl rfl ?_
  refine R_getX dX5_readInto_67 lfX5_26 rfl rfl (x := h10 1 3) rfl ?_
  obtain ⟨rfl, rfl⟩ := so2 H
  exact R_retI dX5_readInto_70 rfl (Or.inl rfl)

set_option maxRecDepth 100000 in
set_option maxHeartbeats 4000000 in
theorem tX6_clear {h : aH} {a0 : Nat} {h2 : aH} (ka0 : kC a0 = 6) (H : fX6_clear h a0 = some h2) : Ev mX6_clear [.ref a0] h none h2 := by
  unfold fX6_clear at H
  refine Ev_of (sp := (0, fun _ => 0)) oX6_clear nlX6 (Nat.le_of_ble_eq_true rfl) (ls0 := [.ref a0]) rfl ?_
  refine R_aload_n dX6_clear_0 rfl rfl ?_
  refine R_iconst dX6_clear_1 (v := 0) (by decide) ?_
  refine R_putZ dX6_clear_2 lfX6_36 ka0 rfl (by decide) ?_
  refine R_aload_n dX6_clear_5 rfl rfl ?_
  refine R_iconst dX6_clear_6 (v := 0) (by decide) ?_
  refine R_putI dX6_clear_7 lfX6_40 ka0 rfl ?_
  refine R_aload_n dX6_clear_10 rfl rfl ?_
  refine R_iconst dX6_clear_11 (v := 0) (by decide) ?_
  refine R_putI dX6_clear_12 lfX6_44 ka0 rfl ?_
  refine R_aload_n dX6_clear_15 rfl rfl ?_
  refine R_iconst dX6_clear_16 (v := 0) (by decide) ?_
  refine R_putI dX6_clear_17 lfX6_47 ka0 rfl ?_
  refine R_aload_n dX6_clear_20 rfl rfl ?_
  refine R_iconst dX6_clear_21 (v := 0) (by decide) ?_
  refine R_putI dX6_clear_22 lfX6_50 ka0 rfl ?_
  refine R_aload_n dX6_clear_25 rfl rfl ?_
  refine R_iconst dX6_clear_26 (v := 0) (by decide) ?_
  refine R_putI dX6_clear_27 lfX6_53 ka0 rfl ?_
  refine R_aload_n dX6_clear_30 rfl rfl ?_
  refine R_iconst dX6_clear_31 (v := 0) (by decide) ?_
  refine R_putI dX6_clear_32 lfX6_56 ka0 rfl ?_
  obtain rfl := Option.some.inj H
  exact R_ret (o := none) dX6_clear_35 rfl

set_option maxRecDepth 100000 in
set_option maxHeartbeats 4000000 in
theorem tX6_rainOf {h : aH} {a0 : Nat} {x1 : Int32} {r : Int32} (ka0 : kC a0 = 6) (H : fX6_rainOf h a0 x1 = some r) : Ev mX6_rainOf [.ref a0, .int x1] h (some (.int r)) h := by
  unfold fX6_rainOf at H
  refine Ev_of (sp := (0, fun _ => 0)) oX6_rainOf nlX6 (Nat.le_of_ble_eq_true rfl) (ls0 := [.ref a0, .int x1]) rfl ?_
  refine R_aload_n dX6_rainOf_0 rfl rfl ?_
  refine R_getX dX6_rainOf_1 lfX6_50 ka0 rfl (x := h a0 4) rfl ?_
  refine R_iconst dX6_rainOf_4 (v := 1) (by decide) ?_
  rcases it_split H with ⟨c1, H⟩ | ⟨c1, H⟩
  · refine R_icmp_ge_t dX6_rainOf_5 (tgt := 12) (by decide) c1 ?_
    refine R_aload_n dX6_rainOf_12 rfl rfl ?_
    refine R_getF dX6_rainOf_13 lfX6_9 ka0 rfl (q := a0 + 1) rfl ?_
    refine R_iload_n dX6_rainOf_16 rfl rfl ?_
    refine R_aload_n dX6_rainOf_17 rfl rfl ?_
    refine R_getX dX6_rainOf_18 lfX6_50 ka0 rfl (x := h a0 4) rfl ?_
    obtain ⟨c2, H⟩ := it_some H
    refine R_iremX dX6_rainOf_21 c2 ?_
    obtain ⟨c3, H⟩ := it_some H
    refine R_ildY dX6_rainOf_22 (kV_1 ka0) (nV_1 ka0) (ck_in c3) (j := tn (rmd x1 (h a0 4))) rfl (x := h (a0 + 1) (tn (rmd x1 (h a0 4)))) rfl ?_
    obtain rfl := Option.some.inj H
    exact R_retI dX6_rainOf_23 rfl (Or.inl rfl)
  · refine R_icmp_ge_f dX6_rainOf_5 (tgt := 12) (by decide) c1 ?_
    refine R_iconst dX6_rainOf_8 (v := 0) (by decide) ?_
    refine R_goto dX6_rainOf_9 (tgt := 23) (by decide) ?_
    obtain rfl := Option.some.inj H
    exact R_retI dX6_rainOf_23 rfl (Or.inl rfl)

set_option maxRecDepth 100000 in
set_option maxHeartbeats 4000000 in
theorem tX6_fillLooks_L12 {sp : Nat × (Nat → Int32)} {K : aH → Option aH} {a0 : Nat} {x1 : Int32} (ka0 : kC a0 = 6) (hK : ∀ (hk : aH) (h2 : aH), K hk = some h2 → Rn sp mX6_fillLooks 49 [.ref a0, .int x1, .null] [] hk none h2) : ∀ (n : Nat) (h : aH) (x2 : Int32) (h2 : aH), fX6_fillLooks_L12 K a0 x1 n h x2 = some h2 → Rn sp mX6_fillLooks 12 [.ref a0, .int x1, .int x2] [] h none h2 := by
  intro n
  induction n with
  | zero =>
    intro h x2 h2 H
    rw [fX6_fillLooks_L12] at H
    cases H
  | succ n ih =>
    intro h x2 h2 H
    rw [fX6_fillLooks_L12] at H
    refine R_iload_n dX6_fillLooks_12 rfl rfl ?_
    refine R_bipush dX6_fillLooks_13 (v := 96) (by decide) ?_
    rcases it_split H with ⟨c2, H⟩ | ⟨c2, H⟩
    · refine R_icmp_ge_t dX6_fillLooks_15 (tgt := 49) (by decide) c2 ?_
      refine R_null (i := 2) (ls2 := [.ref a0, .int x1, .null]) rfl ?_
      exact hK _ _ H
    · refine R_icmp_ge_f dX6_fillLooks_15 (tgt := 49) (by decide) c2 ?_
      refine R_aload_n dX6_fillLooks_18 rfl rfl ?_
      refine R_getF dX6_fillLooks_19 lfX6_33 ka0 rfl (q := a0 + 8) rfl ?_
      refine R_iload_n dX6_fillLooks_22 rfl rfl ?_
      refine R_bipush dX6_fillLooks_23 (v := 96) (by decide) ?_
      refine R_imul dX6_fillLooks_25 ?_
      refine R_iload_n dX6_fillLooks_26 rfl rfl ?_
      refine R_iadd dX6_fillLooks_27 ?_
      refine R_aload_n dX6_fillLooks_28 rfl rfl ?_
      refine R_iload_n dX6_fillLooks_29 rfl rfl ?_
      refine R_iload_n dX6_fillLooks_30 rfl rfl ?_
      refine R_aload_n dX6_fillLooks_31 rfl rfl ?_
      refine R_iload_n dX6_fillLooks_32 rfl rfl ?_
      refine R_bipush dX6_fillLooks_33 (v := 12) (by decide) ?_
      refine R_idiv dX6_fillLooks_35 (by decide) ?_
      obtain ⟨r4, e3, H⟩ := bn_some H
      refine R_cV dX6_fillLooks_36 lvX6_82 ⟨Nat.le_of_ble_eq_true rfl, Nat.le_of_ble_eq_true rfl⟩ (r := a0) ka0 (av := [.int (x2 / 12)]) (st := [.int x2, .int x1, .ref a0, .int ((x1 * 96) + x2), .ref (a0 + 8)]) rfl rfl (Nat.le_of_ble_eq_true rfl) (tX6_rainOf ka0 e3) ?_
      obtain ⟨r6, e5, H⟩ := bn_some H
      refine R_cV dX6_fillLooks_39 lvX6_85 ⟨Nat.le_of_ble_eq_true rfl, Nat.le_of_ble_eq_true rfl⟩ (r := a0) ka0 (av := [.int x1, .int x2, .int r4]) (st := [.int ((x1 * 96) + x2), .ref (a0 + 8)]) rfl rfl (Nat.le_of_ble_eq_true rfl) (tX6_makeLook ka0 e5) ?_
      obtain ⟨c7, H⟩ := it_some H
      refine R_iastX dX6_fillLooks_42 (kV_8 ka0) (nV_8 ka0) (ck_in c7) (j := tn ((x1 * 96) + x2)) rfl ?_
      refine R_iincW dX6_fillLooks_43 rfl (v := x2 + 1) rfl (by decide) rfl (ls2 := [.ref a0, .int x1, .int (x2 + 1)]) rfl ?_
      refine R_goto dX6_fillLooks_46 (tgt := 12) (by decide) ?_
      exact ih _ _ _ H

set_option maxRecDepth 100000 in
set_option maxHeartbeats 4000000 in
theorem tX6_fillLooks_L2 {sp : Nat × (Nat → Int32)} {K : aH → Option aH} {a0 : Nat} (ka0 : kC a0 = 6) (hK : ∀ (hk : aH) (h2 : aH), K hk = some h2 → Rn sp mX6_fillLooks 55 [.null, .null, .null] [] hk none h2) : ∀ (n : Nat) (h : aH) (x1 : Int32) (h2 : aH), fX6_fillLooks_L2 K a0 n h x1 = some h2 → Rn sp mX6_fillLooks 2 [.ref a0, .int x1, .null] [] h none h2 := by
  intro n
  induction n with
  | zero =>
    intro h x1 h2 H
    rw [fX6_fillLooks_L2] at H
    cases H
  | succ n ih =>
    intro h x1 h2 H
    rw [fX6_fillLooks_L2] at H
    refine R_iload_n dX6_fillLooks_2 rfl rfl ?_
    refine R_aload_n dX6_fillLooks_3 rfl rfl ?_
    refine R_getX dX6_fillLooks_4 lfX6_53 ka0 rfl (x := h a0 5) rfl ?_
    rcases it_split H with ⟨c1, H⟩ | ⟨c1, H⟩
    · refine R_icmp_ge_t dX6_fillLooks_7 (tgt := 55) (by decide) c1 ?_
      refine R_null (i := 0) (ls2 := [.null, .int x1, .null]) rfl ?_
      refine R_null (i := 1) (ls2 := [.null, .null, .null]) rfl ?_
      exact hK _ _ H
    · refine R_icmp_ge_f dX6_fillLooks_7 (tgt := 55) (by decide) c1 ?_
      refine R_iconst dX6_fillLooks_10 (v := 0) (by decide) ?_
      refine R_istoreN dX6_fillLooks_11 rfl (by decide) rfl (ls2 := [.ref a0, .int x1, .int 0]) rfl ?_
      refine tX6_fillLooks_L12 ka0 (fun h8 h2 H => ?_) _ _ _ _ H
      refine R_iincW dX6_fillLooks_49 rfl (v := x1 + 1) rfl (by decide) rfl (ls2 := [.ref a0, .int (x1 + 1), .null]) rfl ?_
      refine R_goto dX6_fillLooks_52 (tgt := 2) (by decide) ?_
      exact ih _ _ _ H

set_option maxRecDepth 100000 in
set_option maxHeartbeats 4000000 in
theorem tX6_fillLooks {h : aH} {a0 : Nat} {h2 : aH} (ka0 : kC a0 = 6) (H : fX6_fillLooks h a0 = some h2) : Ev mX6_fillLooks [.ref a0] h none h2 := by
  unfold fX6_fillLooks at H
  refine Ev_of (sp := (0, fun _ => 0)) oX6_fillLooks nlX6 (Nat.le_of_ble_eq_true rfl) (ls0 := [.ref a0, .null, .null]) rfl ?_
  refine R_iconst dX6_fillLooks_0 (v := 0) (by decide) ?_
  refine R_istoreN dX6_fillLooks_1 rfl (by decide) rfl (ls2 := [.ref a0, .int 0, .null]) rfl ?_
  refine tX6_fillLooks_L2 ka0 (fun h9 h2 H => ?_) _ _ _ _ H
  obtain rfl := Option.some.inj H
  exact R_ret (o := none) dX6_fillLooks_55 rfl

set_option maxRecDepth 100000 in
set_option maxHeartbeats 4000000 in
theorem tX6_firstHour_L3 {sp : Nat × (Nat → Int32)} {K : Unit → Option Int32} {h : aH} {a0 : Nat} {x1 : Int32} {x2 : Int32} (ka0 : kC a0 = 6) (hK : ∀ (_ : Unit) (r : Int32), K () = some r → Rn sp mX6_firstHour 30 [.null, .null, .null, .null, .null] [] h (some (.int r)) h) : ∀ (n : Nat) (x4 : Int32) (r : Int32), fX6_firstHour_L3 K h a0 x1 x2 n x4 = some r → Rn sp mX6_firstHour 3 [.ref a0, .int x1, .int x2, .null, .int x4] [] h (some (.int r)) h := by
  intro n
  induction n with
  | zero =>
    intro x4 r H
    rw [fX6_firstHour_L3] at H
    cases H
  | succ n ih =>
    intro x4 r H
    rw [fX6_firstHour_L3] at H
    refine R_iload dX6_firstHour_3 rfl ?_
    refine R_bipush dX6_firstHour_5 (v := 96) (by decide) ?_
    rcases it_split H with ⟨c1, H⟩ | ⟨c1, H⟩
    · refine R_icmp_ge_t dX6_firstHour_7 (tgt := 30) (by decide) c1 ?_
      refine R_null (i := 0) (ls2 := [.null, .int x1, .int x2, .null, .int x4]) rfl ?_
      refine R_null (i := 1) (ls2 := [.null, .null, .int x2, .null, .int x4]) rfl ?_
      refine R_null (i := 2) (ls2 := [.null, .null, .null, .null, .int x4]) rfl ?_
      refine R_null (i := 4) (ls2 := [.null, .null, .null, .null, .null]) rfl ?_
      exact hK () _ H
    · refine R_icmp_ge_f dX6_firstHour_7 (tgt := 30) (by decide) c1 ?_
      refine R_aload_n dX6_firstHour_10 rfl rfl ?_
      refine R_iload_n dX6_firstHour_11 rfl rfl ?_
      refine R_iload dX6_firstHour_12 rfl ?_
      obtain ⟨r3, e2, H⟩ := bn_some H
      refine R_cV dX6_firstHour_14 lvX6_92 ⟨Nat.le_of_ble_eq_true rfl, Nat.le_of_ble_eq_true rfl⟩ (r := a0) ka0 (av := [.int x1, .int x4]) (st := []) rfl rfl (Nat.le_of_ble_eq_true rfl) (tX6_lookAt ka0 e2) ?_
      refine R_iload_n dX6_firstHour_17 rfl rfl ?_
      rcases it_split H with ⟨c4, H⟩ | ⟨c4, H⟩
      · refine R_icmp_ne_f dX6_firstHour_18 (tgt := 24) (by decide) c4 ?_
        refine R_iload dX6_firstHour_21 rfl ?_
        obtain rfl := Option.some.inj H
        exact R_retI dX6_firstHour_23 rfl (Or.inl rfl)
      · refine R_icmp_ne_t dX6_firstHour_18 (tgt := 24) (by decide) c4 ?_
        refine R_iincW dX6_firstHour_24 rfl (v := x4 + 1) rfl (by decide) rfl (ls2 := [.ref a0, .int x1, .int x2, .null, .int (x4 + 1)]) rfl ?_
        refine R_goto dX6_firstHour_27 (tgt := 3) (by decide) ?_
        exact ih _ _ H

set_option maxRecDepth 100000 in
set_option maxHeartbeats 4000000 in
theorem tX6_firstHour {h : aH} {a0 : Nat} {x1 : Int32} {x2 : Int32} {x3 : Int32} {r : Int32} (ka0 : kC a0 = 6) (H : fX6_firstHour h a0 x1 x2 x3 = some r) : Ev mX6_firstHour [.ref a0, .int x1, .int x2, .int x3] h (some (.int r)) h := by
  unfold fX6_firstHour at H
  refine Ev_of (sp := (0, fun _ => 0)) oX6_firstHour nlX6 (Nat.le_of_ble_eq_true rfl) (ls0 := [.ref a0, .int x1, .int x2, .int x3, .null]) rfl ?_
  refine R_iload_n dX6_firstHour_0 rfl rfl ?_
  refine R_istoreW dX6_firstHour_1 (by decide) rfl (ls2 := [.ref a0, .int x1, .int x2, .int x3, .int x3]) rfl ?_
  refine R_null (i := 3) (ls2 := [.ref a0, .int x1, .int x2, .null, .int x3]) rfl ?_
  refine tX6_firstHour_L3 ka0 (fun _ r H => ?_) _ _ _ H
  refine R_iconst dX6_firstHour_30 (v := (-1)) (by decide) ?_
  obtain rfl := Option.some.inj H
  exact R_retI dX6_firstHour_31 rfl (Or.inl rfl)

set_option maxRecDepth 100000 in
set_option maxHeartbeats 4000000 in
theorem tX6_hoursOfLook_L6 {sp : Nat × (Nat → Int32)} {K : Int32 → Option Int32} {h : aH} {a0 : Nat} {x1 : Int32} {x2 : Int32} {x3 : Int32} (ka0 : kC a0 = 6) (hK : ∀ (y4 : Int32) (r : Int32), K y4 = some r → Rn sp mX6_hoursOfLook 42 [.null, .null, .null, .int x3, .int y4, .null] [] h (some (.int r)) h) : ∀ (n : Nat) (x4 x5 : Int32) (r : Int32), fX6_hoursOfLook_L6 K h a0 x1 x2 x3 n x4 x5 = some r → Rn sp mX6_hoursOfLook 6 [.ref a0, .int x1, .int x2, .int x3, .int x4, .int x5] [] h (some (.int r)) h := by
  intro n
  induction n with
  | zero =>
    intro x4 x5 r H
    rw [fX6_hoursOfLook_L6] at H
    cases H
  | succ n ih =>
    intro x4 x5 r H
    rw [fX6_hoursOfLook_L6] at H
    refine R_iload dX6_hoursOfLook_6 rfl ?_
    refine R_bipush dX6_hoursOfLook_8 (v := 96) (by decide) ?_
    rcases it_split H with ⟨c1, H⟩ | ⟨c1, H⟩
    · refine R_icmp_ge_t dX6_hoursOfLook_10 (tgt := 42) (by decide) c1 ?_
      refine R_null (i := 0) (ls2 := [.null, .int x1, .int x2, .int x3, .int x4, .int x5]) rfl ?_
      refine R_null (i := 1) (ls2 := [.null, .null, .int x2, .int x3, .int x4, .int x5]) rfl ?_
      refine R_null (i := 2) (ls2 := [.null, .null, .null, .int x3, .int x4, .int x5]) rfl ?_
      refine R_null (i := 5) (ls2 := [.null, .null, .null, .int x3, .int x4, .null]) rfl ?_
      exact hK _ _ H
    · refine R_icmp_ge_f dX6_hoursOfLook_10 (tgt := 42) (by decide) c1 ?_
      refine R_aload_n dX6_hoursOfLook_13 rfl rfl ?_
      refine R_iload_n dX6_hoursOfLook_14 rfl rfl ?_
      refine R_iload dX6_hoursOfLook_15 rfl ?_
      obtain ⟨r3, e2, H⟩ := bn_some H
      refine R_cV dX6_hoursOfLook_17 lvX6_92 ⟨Nat.le_of_ble_eq_true rfl, Nat.le_of_ble_eq_true rfl⟩ (r := a0) ka0 (av := [.int x1, .int x5]) (st := []) rfl rfl (Nat.le_of_ble_eq_true rfl) (tX6_lookAt ka0 e2) ?_
      refine R_iload_n dX6_hoursOfLook_20 rfl rfl ?_
      rcases it_split H with ⟨c4, H⟩ | ⟨c4, H⟩
      · refine R_icmp_ne_f dX6_hoursOfLook_21 (tgt := 36) (by decide) c4 ?_
        refine R_iload dX6_hoursOfLook_24 rfl ?_
        refine R_iload_n dX6_hoursOfLook_26 rfl rfl ?_
        rcases it_split H with ⟨c5, H⟩ | ⟨c5, H⟩
        · refine R_icmp_ne_f dX6_hoursOfLook_27 (tgt := 33) (by decide) c5 ?_
          refine R_iload dX6_hoursOfLook_30 rfl ?_
          obtain rfl := Option.some.inj H
          exact R_retI dX6_hoursOfLook_32 rfl (Or.inl rfl)
        · refine R_icmp_ne_t dX6_hoursOfLook_27 (tgt := 33) (by decide) c5 ?_
          refine R_iincW dX6_hoursOfLook_33 rfl (v := x4 + 1) rfl (by decide) rfl (ls2 := [.ref a0, .int x1, .int x2, .int x3, .int (x4 + 1), .int x5]) rfl ?_
          refine R_iincW dX6_hoursOfLook_36 rfl (v := x5 + 1) rfl (by decide) rfl (ls2 := [.ref a0, .int x1, .int x2, .int x3, .int (x4 + 1), .int (x5 + 1)]) rfl ?_
          refine R_goto dX6_hoursOfLook_39 (tgt := 6) (by decide) ?_
          exact ih _ _ _ H
      · refine R_icmp_ne_t dX6_hoursOfLook_21 (tgt := 36) (by decide) c4 ?_
        refine R_iincW dX6_hoursOfLook_36 rfl (v := x5 + 1) rfl (by decide) rfl (ls2 := [.ref a0, .int x1, .int x2, .int x3, .int x4, .int (x5 + 1)]) rfl ?_
        refine R_goto dX6_hoursOfLook_39 (tgt := 6) (by decide) ?_
        exact ih _ _ _ H

set_option maxRecDepth 100000 in
set_option maxHeartbeats 4000000 in
theorem tX6_hoursOfLook {h : aH} {a0 : Nat} {x1 : Int32} {x2 : Int32} {x3 : Int32} {r : Int32} (ka0 : kC a0 = 6) (H : fX6_hoursOfLook h a0 x1 x2 x3 = some r) : Ev mX6_hoursOfLook [.ref a0, .int x1, .int x2, .int x3] h (some (.int r)) h := by
  unfold fX6_hoursOfLook at H
  refine Ev_of (sp := (0, fun _ => 0)) oX6_hoursOfLook nlX6 (Nat.le_of_ble_eq_true rfl) (ls0 := [.ref a0, .int x1, .int x2, .int x3, .null, .null]) rfl ?_
  refine R_iconst dX6_hoursOfLook_0 (v := 0) (by decide) ?_
  refine R_istoreW dX6_hoursOfLook_1 (by decide) rfl (ls2 := [.ref a0, .int x1, .int x2, .int x3, .int 0, .null]) rfl ?_
  refine R_iconst dX6_hoursOfLook_3 (v := 0) (by decide) ?_
  refine R_istoreW dX6_hoursOfLook_4 (by decide) rfl (ls2 := [.ref a0, .int x1, .int x2, .int x3, .int 0, .int 0]) rfl ?_
  refine tX6_hoursOfLook_L6 ka0 (fun z6 r H => ?_) _ _ _ _ H
  refine R_iload_n dX6_hoursOfLook_42 rfl rfl ?_
  refine R_iconst dX6_hoursOfLook_43 (v := (-1)) (by decide) ?_
  rcases it_split H with ⟨c7, H⟩ | ⟨c7, H⟩
  · refine R_icmp_ne_f dX6_hoursOfLook_44 (tgt := 52) (by decide) c7 ?_
    refine R_iload dX6_hoursOfLook_47 rfl ?_
    refine R_goto dX6_hoursOfLook_49 (tgt := 53) (by decide) ?_
    obtain rfl := Option.some.inj H
    exact R_retI dX6_hoursOfLook_53 rfl (Or.inl rfl)
  · refine R_icmp_ne_t dX6_hoursOfLook_44 (tgt := 52) (by decide) c7 ?_
    refine R_iconst dX6_hoursOfLook_52 (v := (-1)) (by decide) ?_
    obtain rfl := Option.some.inj H
    exact R_retI dX6_hoursOfLook_53 rfl (Or.inl rfl)

set_option maxRecDepth 100000 in
set_option maxHeartbeats 4000000 in
theorem tJ6_bitCount_0f7a4 {h : aH} {x0 : Int32} {r : Int32} (H : fJ6_bitCount_0f7a4 x0 = some r) : Ev mJ6_bitCount_0f7a4 [.int x0] h (some (.int r)) h := by
  unfold fJ6_bitCount_0f7a4 at H
  refine Ev_of (sp := (0, fun _ => 0)) oJ6_bitCount_0f7a4 nlJ6 (Nat.le_of_ble_eq_true rfl) (ls0 := [.int x0]) rfl ?_
  refine R_iload_n dJ6_bitCount_0f7a4_0 rfl rfl ?_
  refine R_iload_n dJ6_bitCount_0f7a4_1 rfl rfl ?_
  refine R_iconst dJ6_bitCount_0f7a4_2 (v := 1) (by decide) ?_
  refine R_iushrX dJ6_bitCount_0f7a4_3 ?_
  refine R_ldcw dJ6_bitCount_0f7a4_4 lcJ6_265 ?_
  refine R_iand dJ6_bitCount_0f7a4_7 ?_
  refine R_isub dJ6_bitCount_0f7a4_8 ?_
  refine R_istoreN dJ6_bitCount_0f7a4_9 rfl (by decide) rfl (ls2 := [.int (x0 - ((ush x0 1) &&& 1431655765))]) rfl ?_
  refine R_iload_n dJ6_bitCount_0f7a4_10 rfl rfl ?_
  refine R_ldcw dJ6_bitCount_0f7a4_11 lcJ6_266 ?_
  refine R_iand dJ6_bitCount_0f7a4_14 ?_
  refine R_iload_n dJ6_bitCount_0f7a4_15 rfl rfl ?_
  refine R_iconst dJ6_bitCount_0f7a4_16 (v := 2) (by decide) ?_
  refine R_iushrX dJ6_bitCount_0f7a4_17 ?_
  refine R_ldcw dJ6_bitCount_0f7a4_18 lcJ6_266 ?_
  refine R_iand dJ6_bitCount_0f7a4_21 ?_
  refine R_iadd dJ6_bitCount_0f7a4_22 ?_
  refine R_istoreN dJ6_bitCount_0f7a4_23 rfl (by decide) rfl (ls2 := [.int (((x0 - ((ush x0 1) &&& 1431655765)) &&& 858993459) + ((ush (x0 - ((ush x0 1) &&& 1431655765)) 2) &&& 858993459))]) rfl ?_
  refine R_iload_n dJ6_bitCount_0f7a4_24 rfl rfl ?_
  refine R_iload_n dJ6_bitCount_0f7a4_25 rfl rfl ?_
  refine R_iconst dJ6_bitCount_0f7a4_26 (v := 4) (by decide) ?_
  refine R_iushrX dJ6_bitCount_0f7a4_27 ?_
  refine R_iadd dJ6_bitCount_0f7a4_28 ?_
  refine R_ldcw dJ6_bitCount_0f7a4_29 lcJ6_267 ?_
  refine R_iand dJ6_bitCount_0f7a4_32 ?_
  refine R_istoreN dJ6_bitCount_0f7a4_33 rfl (by decide) rfl (ls2 := [.int (((((x0 - ((ush x0 1) &&& 1431655765)) &&& 858993459) + ((ush (x0 - ((ush x0 1) &&& 1431655765)) 2) &&& 858993459)) + (ush (((x0 - ((ush x0 1) &&& 1431655765)) &&& 858993459) + ((ush (x0 - ((ush x0 1) &&& 1431655765)) 2) &&& 858993459)) 4)) &&& 252645135)]) rfl ?_
  refine R_iload_n dJ6_bitCount_0f7a4_34 rfl rfl ?_
  refine R_iload_n dJ6_bitCount_0f7a4_35 rfl rfl ?_
  refine R_bipush dJ6_bitCount_0f7a4_36 (v := 8) (by decide) ?_
  refine R_iushrX dJ6_bitCount_0f7a4_38 ?_
  refine R_iadd dJ6_bitCount_0f7a4_39 ?_
  refine R_istoreN dJ6_bitCount_0f7a4_40 rfl (by decide) rfl (ls2 := [.int ((((((x0 - ((ush x0 1) &&& 1431655765)) &&& 858993459) + ((ush (x0 - ((ush x0 1) &&& 1431655765)) 2) &&& 858993459)) + (ush (((x0 - ((ush x0 1) &&& 1431655765)) &&& 858993459) + ((ush (x0 - ((ush x0 1) &&& 1431655765)) 2) &&& 858993459)) 4)) &&& 252645135) + (ush (((((x0 - ((ush x0 1) &&& 1431655765)) &&& 858993459) + ((ush (x0 - ((ush x0 1) &&& 1431655765)) 2) &&& 858993459)) + (ush (((x0 - ((ush x0 1) &&& 1431655765)) &&& 858993459) + ((ush (x0 - ((ush x0 1) &&& 1431655765)) 2) &&& 858993459)) 4)) &&& 252645135) 8))]) rfl ?_
  refine R_iload_n dJ6_bitCount_0f7a4_41 rfl rfl ?_
  refine R_iload_n dJ6_bitCount_0f7a4_42 rfl rfl ?_
  refine R_bipush dJ6_bitCount_0f7a4_43 (v := 16) (by decide) ?_
  refine R_iushrX dJ6_bitCount_0f7a4_45 ?_
  refine R_iadd dJ6_bitCount_0f7a4_46 ?_
  refine R_istoreN dJ6_bitCount_0f7a4_47 rfl (by decide) rfl (ls2 := [.int (((((((x0 - ((ush x0 1) &&& 1431655765)) &&& 858993459) + ((ush (x0 - ((ush x0 1) &&& 1431655765)) 2) &&& 858993459)) + (ush (((x0 - ((ush x0 1) &&& 1431655765)) &&& 858993459) + ((ush (x0 - ((ush x0 1) &&& 1431655765)) 2) &&& 858993459)) 4)) &&& 252645135) + (ush (((((x0 - ((ush x0 1) &&& 1431655765)) &&& 858993459) + ((ush (x0 - ((ush x0 1) &&& 1431655765)) 2) &&& 858993459)) + (ush (((x0 - ((ush x0 1) &&& 1431655765)) &&& 858993459) + ((ush (x0 - ((ush x0 1) &&& 1431655765)) 2) &&& 858993459)) 4)) &&& 252645135) 8)) + (ush ((((((x0 - ((ush x0 1) &&& 1431655765)) &&& 858993459) + ((ush (x0 - ((ush x0 1) &&& 1431655765)) 2) &&& 858993459)) + (ush (((x0 - ((ush x0 1) &&& 1431655765)) &&& 858993459) + ((ush (x0 - ((ush x0 1) &&& 1431655765)) 2) &&& 858993459)) 4)) &&& 252645135) + (ush (((((x0 - ((ush x0 1) &&& 1431655765)) &&& 858993459) + ((ush (x0 - ((ush x0 1) &&& 1431655765)) 2) &&& 858993459)) + (ush (((x0 - ((ush x0 1) &&& 1431655765)) &&& 858993459) + ((ush (x0 - ((ush x0 1) &&& 1431655765)) 2) &&& 858993459)) 4)) &&& 252645135) 8)) 16))]) rfl ?_
  refine R_iload_n dJ6_bitCount_0f7a4_48 rfl rfl ?_
  refine R_bipush dJ6_bitCount_0f7a4_49 (v := 63) (by decide) ?_
  refine R_iand dJ6_bitCount_0f7a4_51 ?_
  obtain rfl := Option.some.inj H
  exact R_retI dJ6_bitCount_0f7a4_52 rfl (Or.inl rfl)
