/-! from the entry to the law's loop -/
theorem ce_congr {ad ad' : Nat → Nat} {cA cA' : Nat → ClassId} {h : aH} {k : Nat} (hc : 100 ≤ kC k → cA k = cA' k) (hr : ∀ j, j < kN k → fk (kC k) j = 1 → ad (k + ro (kC k) j) = ad' (k + ro (kC k) j)) (hm : ∀ j, j < kN k → fk (kC k) j ≠ 0 → fk (kC k) j ≠ 1 → ad (h k j).toNatClampNeg = ad' (h k j).toNatClampNeg) : ce ad cA h k = ce ad' cA' h k := by
  unfold ce
  by_cases hk : kC k < 100
  · rw [if_pos hk, if_pos hk]
    have : fl ad k (h k) = fl ad' k (h k) := by
      unfold fl
      apply List.map_congr_left
      intro j hj
      have hj := List.mem_range.mp hj
      unfold fv
      by_cases h0 : fk (kC k) j = 0
      · rw [if_pos h0, if_pos h0]
      · rw [if_neg h0, if_neg h0]
        by_cases h1 : fk (kC k) j = 1
        · rw [if_pos h1, if_pos h1, hr j hj h1]
        · rw [if_neg h1, if_neg h1, hm j hj h0 h1]
    rw [this]
  · rw [if_neg hk, if_neg hk, hc (by omega)]
theorem st_a : ∀ k, k < 54 → ∀ j, j < 34 → fk (kC k) j = 1 → k + ro (kC k) j < 54 := by decide +kernel
theorem st_b : ∀ k, k < 54 → ∀ j, j < 34 → fk (kC k) j ≠ 0 → fk (kC k) j ≠ 1 → kC k < 100 → (hI k j).toNatClampNeg < 54 := by decide +kernel
theorem st_c : ∀ i, i < 19 → ∀ j, j < 34 → fk (kC (54 + i)) j = 1 → 54 + i + ro (kC (54 + i)) j < 73 := by decide +kernel
theorem st_d : ∀ i, i < 19 → ∀ j, j < 34 → fk (kC (54 + i)) j ≠ 0 → fk (kC (54 + i)) j = 1 := by decide +kernel
theorem st_e : ∀ k, k < 73 → kC k < 100 → kN k < 34 := by decide +kernel
theorem st_f : ∀ k, k < 73 → 100 ≤ kC k → ∀ j, j < 34 → fk (kC k) j = 0 := by decide +kernel
theorem fk_arr {c j : Nat} (h : 9 ≤ c) : fk c j = 0 := by
  have h1 : fkT.getD c [] = [] := by
    rw [List.getD_eq_getElem?_getD, List.getElem?_eq_none (by show 9 ≤ c; exact h)]
    rfl
  unfold fk
  rw [h1]
  rfl
theorem va_D_wd {A : Nat → Prop} {ad : Nat → Nat} {cA : Nat → ClassId} {h h' : aH} (hD : va_D A (wd ad cA h)) : va_D A (wd ad cA h') := by
  have key : ∀ {i : Nat} {q : Nat × va_E}, (wd ad cA h')[i]? = some q → (wd ad cA h)[i]? = some (q.1, ce ad cA h i) := by
    intro i q hq
    have hi : i < 73 := by
      have := (List.getElem?_eq_some_iff.mp hq).1
      rw [wd_len] at this; exact this
    rw [wd_at hi] at hq
    cases hq
    exact wd_at hi
  exact ⟨fun i j x y hx hy hxy => hD.1 i j _ _ (key hx) (key hy) hxy, fun k q hq => hD.2 k (q.1, ce ad cA h k) (key hq)⟩
set_option maxHeartbeats 4000000 in
set_option maxRecDepth 100000 in
theorem whole_open (hpure : ∀ sp : Nat × (Nat → Int32), sp.1 ≤ 320 → ∃ h2, fL_law sp hI = some (true, h2)) {p : Program} {e : Env} {s : State} {m : MethodId} {below : List Frame} {meth : Method} {c : Code} (l : Launch) {b L : Nat} {xs : Nat → Int32} (hL : L ≤ 320) (C0 : lw_At p s m meth c b L xs) : W p l e room_1 s m #[Value.ref b] below meth c s.heap [] 0 0 (lw_Z below #[Value.ref b] s) (entryFrame m ([Value.ref b] : List Value).toArray 4) := by
  obtain ⟨hx, hb, hr, hml, hown, hts, hX, hbl, hlocks, hgv⟩ := C0
  have hA : ∀ q : Nat, s.heap.size ≤ q → (fun q : Nat => s.heap.size ≤ q) q := fun _ h => h
  have hbA : ¬ (fun q : Nat => s.heap.size ≤ q) b := Nat.not_le.mpr hbl
  have hta : ∀ w ∈ aT, w.before #[Value.ref b] s = true := fun w hw => hts w (aT_lw hw)
  have hnw : ∀ w ∈ nws, va_Nw w s := by
    intro w hw
    have h1 := hts w (nws_in w hw)
    simp only [nws, nW, List.mem_cons, List.not_mem_nil, or_false] at hw
    rcases hw with rfl | rfl | rfl | rfl | rfl | rfl | rfl | rfl <;> exact va_Nw.of rfl h1
  have hex : ∀ k : Nat, ∃ x : ClassId × (Nat → Nat), ∀ q, vwCl[k]? = some q → u_Kn s q.1 q.2.1 q.2.2 x.1 x.2 := by
    intro k
    cases hk : vwCl[k]? with
    | none => exact ⟨(m.cls, fun _ => 0), fun q hq => by cases hq⟩
    | some q =>
      obtain ⟨C', T', N', ty', g1, g2, g3, g4⟩ := aCf_all hk
      rw [hk] at g1
      cases g1
      have hi : (Cond.instantiable C' N').before #[Value.ref b] s = true := by
        have hc : k < 9 := cl_lt hk
        match k, hc, hk with
        | 0, _, hk => cases hk; exact hts _ (by decide +kernel)
        | 1, _, hk => cases hk; exact hts _ (by decide +kernel)
        | 2, _, hk => cases hk; exact hts _ (by decide +kernel)
        | 3, _, hk => cases hk; exact hts _ (by decide +kernel)
        | 4, _, hk => cases hk; exact hts _ (by decide +kernel)
        | 5, _, hk => cases hk; exact hts _ (by decide +kernel)
        | 6, _, hk => cases hk; exact hts _ (by decide +kernel)
        | 7, _, hk => cases hk; exact hts _ (by decide +kernel)
        | 8, _, hk => cases hk; exact hts _ (by decide +kernel)
      obtain ⟨cc, iS, hkn⟩ := u_known hta g2 hi
      exact ⟨(cc, iS), fun q hq => by cases hq; exact hkn⟩
  obtain ⟨D, hDk⟩ : ∃ D : va_G, ∀ (k : Nat) (q : vw_C), vwCl[k]? = some q → u_Kn s q.1 q.2.1 q.2.2 (D.1 k) (D.2 k) :=
    ⟨(fun k => (Classical.choose (hex k)).1, fun k => (Classical.choose (hex k)).2), fun k q hq => Classical.choose_spec (hex k) q hq⟩
  have hS : va_S (fun q : Nat => s.heap.size ≤ q) s.heap s.heap [] := va_S.rf
  have hK : va_K D vwCl [] s := ⟨hDk, fun k q h => by simp at h⟩
  have hP : va_P D vwCl [] s.heap := fun k q h => by simp at h
  have hD : va_D (fun q : Nat => s.heap.size ≤ q) [] := ⟨fun i j p q h => by simp at h, fun k q h => by simp at h⟩
  have hl := lv_entry ([.ref b]) (n := 4) (Nat.le_of_ble_eq_true rfl)
  rw [lg_entry_eq]
  generalize (lg_sl ([.ref b]) ++ List.replicate (4 - (lg_sl ([.ref b])).length) Slot.unset).toArray = ls at hl ⊢
  have hl : lv_has ls 4 [(0, .ref b)] := hl
  have hrc : ∀ (M' : aM) (n : Nat) {q ci : Nat} {fs0 : List Value} {H : Heap}, cOk M' → n = n → va_P D vwCl [(q, .inr (ci, fs0))] H → PreS s H (va_Pc [.ref q] (fun U => U.heap.size = H.size ∧ va_P D vwCl [(q, .inr (ci, fs0))] U.heap ∧ va_K D vwCl [] U ∧ va_D (fun _ => True) [(q, .inr (ci, fs0))] ∧ ∀ w ∈ nws, va_Nw w U)) [.ref q] := by
    intro M' n q ci fs0 H _ _ hPq
    exact ⟨C_pre, fun U hU hW => ⟨rfl, by rw [hU], by rw [hU]; exact hPq, va_K.moved hW.alike hK, ⟨fun i j x y hx hy _ => by
      have a1 : i < 1 := (List.getElem?_eq_some_iff.mp hx).1
      have a2 : j < 1 := (List.getElem?_eq_some_iff.mp hy).1
      omega, fun _ _ _ => trivial⟩, nws_warm hW hnw⟩⟩
  -- new WeatherHand()
  refine va_new (D := D) (cl := vwCl) (ci := 7) (fs := [.null, .null, .null, .null, .null, .null, .null, .null, .null, .null, .null, .int 0]) (C := RX7) (T := TX7) (N := 12) hx hb hts (by decide +kernel) tyX7 tyX7_ok hown (hts (.classLink RL 7 RX7) (by decide +kernel)) (hts (.instantiable RX7 12) (by decide +kernel)) (hts (.initialized RX7) (by decide +kernel)) hK hP hD hS hA rfl (by decide) (Nat.le_of_ble_eq_true rfl) (Nat.le_of_ble_eq_true rfl) dL_law_0 (fun q0 H hP hD hS => ?_)
  have hP : va_P D vwCl [(q0, .inr (7, [.null, .null, .null, .null, .null, .null, .null, .null, .null, .null, .null, .int 0]))] H := hP
  have hD : va_D (fun q : Nat => s.heap.size ≤ q) [(q0, .inr (7, [.null, .null, .null, .null, .null, .null, .null, .null, .null, .null, .null, .int 0]))] := hD
  refine lv_dup hx hb dL_law_3 rfl ?_
  obtain ⟨k1, k2, k3, k4, k5, k6, k7, k8, k9, k10⟩ := id kX7_init
  refine C_back (st := [.ref q0]) (wr := []) (wc := [(q0, .inr (7, [.null, .null, .null, .null, .null, .null, .null, .null, .null, .null, .null, .int 0]))]) (mc := 53) (ms := 4403) (G' := gX7_init q0) [0] [] rfl rfl (by decide) (by decide) hP hD hA hK hS ?_ ?_
  · exact va_runI (As := []) (bytes := cX7_init) (maxL := 1) (n := 0) (index := 9) (b := q0) ⟨hx, hb, hml, hown, hta⟩ (eX7_init l D q0 H.size) ⟨callB_of 0 hta (goodTbl (M' := mX7_init) k1) rfl rfl rfl (hta _ k7) (hta (.methodLink RL 9 yX7_init) (aT_in (by decide +kernel) rfl)) ⟨k5.1, k5.2, k6⟩ ⟨Nat.le_of_ble_eq_true rfl, Nat.le_of_ble_eq_true rfl⟩, k8, hta _ k9⟩ (hrc mX7_init 0 kX7_init rfl hP) rfl rfl hl.1 rfl (lv_room (Nat.le_of_ble_eq_true rfl)) dL_law_4 ⟨Nat.le_of_ble_eq_true rfl, Nat.le_of_ble_eq_true rfl⟩
  intro w7 t7 hg7 H locs hP hD hK hS
  obtain ⟨ad7, cA7, ha7, rfl, rfl⟩ := hg7
  refine lv_astore_n (lv' := [(1, .ref q0), (0, .ref b)]) hx hb dL_law_7 rfl hl (by decide) rfl (fun ls hl => ?_)
  -- new WeatherHandModel()
  have hP : va_P D vwCl ((List.range 54).map (fun i => (ad7 (0 + i), ce ad7 cA7 hI (0 + i)))) H := hP
  generalize hw7 : (List.range 54).map (fun i => (ad7 (0 + i), ce ad7 cA7 hI (0 + i))) = w7 at hP hD
  generalize ht7 : ((List.range 54).filter (fun i => 100 ≤ kC (0 + i))).map (fun i => (cA7 (0 + i), if kC (0 + i) = 101 then FieldType.boolean else FieldType.int)) = t7 at hK
  have hD : va_D (fun q : Nat => s.heap.size ≤ q) w7 := hD
  have hK : va_K D vwCl t7 s := hK
  generalize hfs : [Value.null, .null, .int 0, .int 0, .null, .null, .int 0, .int 0, .null, .null, .null, .int 0, .int 0, .null, .null, .null, .int 0, .int 0, .null, .int 0, .int 0, .int 0, .int 0, .int 0, .null, .int 0, .null, .null, .null, .null, .null, .null, .int 0] = fs8
  refine va_new (D := D) (cl := vwCl) (ci := 8) (fs := fs8) (C := RX8) (T := TX8) (N := 33) hx hb hts (by decide +kernel) tyX8 tyX8_ok hown (hts (.classLink RL 10 RX8) (by decide +kernel)) (hts (.instantiable RX8 33) (by decide +kernel)) (hts (.initialized RX8) (by decide +kernel)) hK hP hD hS hA rfl (by rw [← hfs]; decide) (Nat.le_of_ble_eq_true rfl) (Nat.le_of_ble_eq_true rfl) dL_law_8 (fun q54 H hP hD hS => ?_)
  refine lv_dup hx hb dL_law_11 rfl ?_
  have hlen : w7.length = 54 := by rw [← hw7]; simp
  have hat : (w7 ++ [(q54, (Sum.inr (8, fs8) : va_E))])[54]? = some (q54, .inr (8, fs8)) := by
    rw [List.getElem?_append_right (by omega), hlen]; rfl
  have hP8 : va_P D vwCl [(q54, .inr (8, fs8))] H := fun j x hx => by
    have hj : j < 1 := (List.getElem?_eq_some_iff.mp hx).1
    have hj0 : j = 0 := by omega
    subst hj0
    cases hx
    exact hP 54 _ hat
  obtain ⟨k1, k2, k3, k4, k5, k6, k7, k8, k9, k10⟩ := id kX8_init
  have hrw : (List.range 54).map (fun i => (w7 ++ [(q54, (Sum.inr (8, fs8) : va_E))])[i]?) = w7.map some := by
    apply List.ext_getElem?
    intro i
    rw [List.getElem?_map, List.getElem?_map]
    rcases Nat.lt_or_ge i 54 with z | z
    · rw [List.getElem?_range z]
      show some ((w7 ++ [(q54, (Sum.inr (8, fs8) : va_E))])[i]?) = _
      rw [List.getElem?_append_left (by omega), List.getElem?_eq_getElem (by omega)]
      rfl
    · rw [List.getElem?_eq_none (by simp; omega), List.getElem?_eq_none (by omega)]
      rfl
  subst hfs
  refine C_back (st := [.ref q54]) (wr := w7) (wc := [(q54, .inr (8, [Value.null, .null, .int 0, .int 0, .null, .null, .int 0, .int 0, .null, .null, .null, .int 0, .int 0, .null, .null, .null, .int 0, .int 0, .null, .int 0, .int 0, .int 0, .int 0, .int 0, .null, .int 0, .null, .null, .null, .null, .null, .null, .int 0]))]) (R := room_1) (mc := 18) (ms := 12548) (G' := gX8_init q54) [54] (List.range 54) (by simp only [List.map_cons, List.map_nil]; rw [hat]) hrw (by decide) (by decide) hP hD hA hK hS ?_ ?_
  · exact va_runI (As := []) (bytes := cX8_init) (maxL := 1) (n := 0) (index := 12) (b := q54) ⟨hx, hb, hml, hown, hta⟩ (eX8_init l D q54 H.size) ⟨callB_of 0 hta (goodTbl (M' := mX8_init) k1) rfl rfl rfl (hta _ k7) (hta (.methodLink RL 12 yX8_init) (aT_in (by decide +kernel) rfl)) ⟨k5.1, k5.2, k6⟩ ⟨Nat.le_of_ble_eq_true rfl, Nat.le_of_ble_eq_true rfl⟩, k8, hta _ k9⟩ (hrc mX8_init 0 kX8_init rfl hP8) rfl rfl hl.1 rfl (lv_room (Nat.le_of_ble_eq_true rfl)) dL_law_12 ⟨Nat.le_of_ble_eq_true rfl, Nat.le_of_ble_eq_true rfl⟩
  intro w8 t8 hg8 H locs hP hD hK hS
  obtain ⟨ad8, cA8, ha8, rfl, rfl⟩ := hg8
  refine lv_astore_n (lv' := [(2, .ref q54), (1, .ref q0), (0, .ref b)]) hx hb dL_law_15 rfl hl (by decide) rfl (fun ls hl => ?_)
  subst hw7
  subst ht7
  obtain ⟨ad, had⟩ : ∃ ad : Nat → Nat, ad = fun k => if k < 54 then ad7 k else if k < 73 then ad8 k else b := ⟨_, rfl⟩
  obtain ⟨cA, hcA⟩ : ∃ cA : Nat → ClassId, cA = fun k => if 100 ≤ kC k then (if k < 54 then cA7 k else cA8 k) else cA7 2 := ⟨_, rfl⟩
  have hw : (List.range 54).map (fun i => (ad7 (0 + i), ce ad7 cA7 hI (0 + i))) ++ (List.range 19).map (fun i => (ad8 (54 + i), ce ad8 cA8 hI (54 + i))) = wd ad cA hI := by
    apply List.ext_getElem?
    intro i
    rcases Nat.lt_or_ge i 54 with z | z
    · rw [List.getElem?_append_left (by simp; omega), List.getElem?_map, List.getElem?_range z, wd_at (by omega)]
      show some (ad7 (0 + i), ce ad7 cA7 hI (0 + i)) = _
      rw [Nat.zero_add]
      have e1 : ad7 i = ad i := by rw [had]; simp [z]
      have e2 : ce ad7 cA7 hI i = ce ad cA hI i := by
        refine ce_congr (fun hk => ?_) (fun j hj hf => ?_) (fun j hj h0 h1 => ?_)
        · rw [hcA]; simp [hk, z]
        · have hc9 : ¬ 9 ≤ kC i := fun q => by rw [fk_arr q] at hf; cases hf
          have := st_a i z j (Nat.lt_trans hj (st_e i (by omega) (by omega))) hf
          rw [had]; simp [this]
        · have hc9 : ¬ 9 ≤ kC i := fun q => h0 (fk_arr q)
          have := st_b i z j (Nat.lt_trans hj (st_e i (by omega) (by omega))) h0 h1 (by omega)
          rw [had]; simp [this]
      rw [e1, e2]
    · rw [List.getElem?_append_right (by simp; omega), List.length_map, List.length_range]
      rcases Nat.lt_or_ge i 73 with y | y
      · obtain ⟨k, rfl⟩ : ∃ k, i = 54 + k := ⟨i - 54, by omega⟩
        have hk19 : k < 19 := by omega
        have hn54 : ¬ 54 + k < 54 := by omega
        rw [Nat.add_sub_cancel_left, List.getElem?_map, List.getElem?_range hk19, wd_at (by omega)]
        show some (ad8 (54 + k), ce ad8 cA8 hI (54 + k)) = _
        have e1 : ad8 (54 + k) = ad (54 + k) := by rw [had]; simp only [hn54, y, if_true, if_false]
        have e2 : ce ad8 cA8 hI (54 + k) = ce ad cA hI (54 + k) := by
          refine ce_congr (fun hk => ?_) (fun j hj hf => ?_) (fun j hj h0 h1 => ?_)
          · rw [hcA]; simp only [hk, hn54, if_true, if_false]
          · have hc9 : ¬ 9 ≤ kC (54 + k) := fun q => by rw [fk_arr q] at hf; cases hf
            have := st_c k hk19 j (Nat.lt_trans hj (st_e (54 + k) (by omega) (by omega))) hf
            have h9 : ¬ (54 + k + ro (kC (54 + k)) j < 54) := by omega
            rw [had]; simp only [this, h9, if_true, if_false]
          · have hc9 : ¬ 9 ≤ kC (54 + k) := fun q => h0 (fk_arr q)
            exact absurd (st_d k hk19 j (Nat.lt_trans hj (st_e (54 + k) (by omega) (by omega))) h0) h1
        rw [e1, e2]
      · rw [List.getElem?_eq_none (by simp; omega), List.getElem?_eq_none (by rw [wd_len]; omega)]
  have hKw : va_K D vwCl (tyw cA) s := by
    refine ⟨hK.1, fun k q hk => ?_⟩
    have hk73 : k < 73 := by
      have := (List.getElem?_eq_some_iff.mp hk).1
      simp [tyw] at this; exact this
    rw [tyw_at hk73] at hk
    cases hk
    have hmem : ∀ q, q ∈ (((List.range 54).filter (fun i => 100 ≤ kC (0 + i))).map (fun i => (cA7 (0 + i), if kC (0 + i) = 101 then FieldType.boolean else FieldType.int)) ++ ((List.range 19).filter (fun i => 100 ≤ kC (54 + i))).map (fun i => (cA8 (54 + i), if kC (54 + i) = 101 then FieldType.boolean else FieldType.int))) → ArrOfT s q.1 q.2 ∧ va_RA s q.1 q.2 := by
      intro q hq
      obtain ⟨j, hj⟩ := List.getElem?_of_mem hq
      exact hK.2 j q hj
    apply hmem
    rw [hcA]
    by_cases hc : 100 ≤ kC k
    · simp only [hc, if_true]
      by_cases h54 : k < 54
      · simp only [h54, if_true]
        exact List.mem_append_left _ (List.mem_map.mpr ⟨k, List.mem_filter.mpr ⟨List.mem_range.mpr h54, by rw [Nat.zero_add]; simpa using hc⟩, by rw [Nat.zero_add]⟩)
      · simp only [h54, if_false]
        refine List.mem_append_right _ (List.mem_map.mpr ⟨k - 54, List.mem_filter.mpr ⟨List.mem_range.mpr (by omega), ?_⟩, ?_⟩)
        · rw [show 54 + (k - 54) = k by omega]; simpa using hc
        · rw [show 54 + (k - 54) = k by omega]
    · simp only [hc, if_false]
      have h101 : ¬ kC k = 101 := by omega
      simp only [h101, if_false]
      exact List.mem_append_left _ (List.mem_map.mpr ⟨2, List.mem_filter.mpr ⟨List.mem_range.mpr (by omega), by decide⟩, rfl⟩)
  rw [hw] at hP hD
  obtain ⟨h2, hf⟩ := hpure (L, xs) hL
  have e73 : ad 73 = b := by rw [had]; rfl
  have e0 : ad 0 = q0 := by rw [had]; exact ha7
  have e54 : ad 54 = q54 := by rw [had]; exact ha8
  have run := tL_law hf l p e s m #[Value.ref b] below meth c D ad cA (fun q : Nat => s.heap.size ≤ q) 73 16996 (lw_Z below #[Value.ref b] s) ⟨hx, hb, hml, hown, hta, hKw, fun h => va_D_wd hD, hA, ⟨Nat.le_refl _, Nat.le_refl _⟩, fun _ => by rw [e73]; exact ⟨hX, hbl, hbA⟩, hnw nW (by simp [nws])⟩ (fun pc' ls' H locs hd hrk hP2 hS2 => ?_) H locs ls ⟨hl.1, hl.2.1, fun i v hi hv => ?_⟩ hP hS
  · exact run
  · refine va_forget (fun q hq => hS2.2.2 q hq) ?_
    exact lw_ret hx hb hr hlocks hd
  · match i, hi with
    | 0, hi => cases hi; show ls[0]? = some (.val (.ref (ad 73))); rw [e73]; exact lv_at hl 2 rfl
    | 1, hi => cases hi; show ls[1]? = some (.val (.ref (ad 0))); rw [e0]; exact lv_at hl 1 rfl
    | 2, hi => cases hi; show ls[2]? = some (.val (.ref (ad 54))); rw [e54]; exact lv_at hl 0 rfl
    | 3, hi => cases hi; exact absurd rfl hv
    | k + 4, hi => simp at hi
