/-! rules of fields, arrays, calls -/
def aF (own : String) (idx c j : Nat) (ds : String) (fin : Bool) : Prop := ∃ (C nm : String) (T : u_T) (N : Nat), vwCl[c]? = some (C, T, N) ∧ j < N ∧ T j = (C, nm, ds, fin) ∧ Cond.fieldLink own idx C nm ds ∈ aT
def aCf (c : Nat) : Prop := ∃ (C : String) (T : u_T) (N : Nat) (ty : Nat → FieldType), vwCl[c]? = some (C, T, N) ∧ (∀ w ∈ u_ws C T N, w ∈ aT) ∧ (∀ k, k < N → parseFieldDescriptor (T k).2.2.1 = some (ty k)) ∧ (∀ a, a < N → ∀ b, b < N → a ≠ b → (T a).2.1 ≠ (T b).2.1)
theorem aCf_0 : aCf 0 := ⟨RX0, TX0, 7, tyX0, rfl, by decide +kernel, tyX0_ok, nmX0⟩
theorem aCf_1 : aCf 1 := ⟨RX1, TX1, 5, tyX1, rfl, by decide +kernel, tyX1_ok, nmX1⟩
theorem aCf_2 : aCf 2 := ⟨RX2, TX2, 4, tyX2, rfl, by decide +kernel, tyX2_ok, nmX2⟩
theorem aCf_3 : aCf 3 := ⟨RX3, TX3, 7, tyX3, rfl, by decide +kernel, tyX3_ok, nmX3⟩
theorem aCf_4 : aCf 4 := ⟨RX4, TX4, 3, tyX4, rfl, by decide +kernel, tyX4_ok, nmX4⟩
theorem aCf_5 : aCf 5 := ⟨RX5, TX5, 5, tyX5, rfl, by decide +kernel, tyX5_ok, nmX5⟩
theorem aCf_6 : aCf 6 := ⟨RX6, TX6, 15, tyX6, rfl, by decide +kernel, tyX6_ok, nmX6⟩
theorem aCf_7 : aCf 7 := ⟨RX7, TX7, 12, tyX7, rfl, by decide +kernel, tyX7_ok, nmX7⟩
theorem aCf_8 : aCf 8 := ⟨RX8, TX8, 33, tyX8, rfl, by decide +kernel, tyX8_ok, nmX8⟩
theorem aCf_all {c : Nat} {q : vw_C} (h : vwCl[c]? = some q) : aCf c := by
  have hc : c < 9 := (List.getElem?_eq_some_iff.mp h).1
  match c, hc with
  | 0, _ => exact aCf_0
  | 1, _ => exact aCf_1
  | 2, _ => exact aCf_2
  | 3, _ => exact aCf_3
  | 4, _ => exact aCf_4
  | 5, _ => exact aCf_5
  | 6, _ => exact aCf_6
  | 7, _ => exact aCf_7
  | 8, _ => exact aCf_8
theorem kN_all : ∀ k, k < 73 → kC k < 9 → (vwCl[kC k]?).map (fun q => q.2.2) = some (kN k) := by decide +kernel
theorem kN_of {k c : Nat} {C : String} {T : u_T} {N : Nat} (hk : kC k = c) (h : vwCl[c]? = some (C, T, N)) : kN k = N := by
  have hc : c < 9 := (List.getElem?_eq_some_iff.mp h).1
  have h1 := kN_all k (kC_lt (by omega)) (by omega)
  rw [hk, h] at h1
  exact (Option.some.inj h1).symm
theorem cl_lt {c : Nat} {q : vw_C} (h : vwCl[c]? = some q) : c < 9 := (List.getElem?_eq_some_iff.mp h).1
section HRules
variable {sp : Nat × (Nat → Int32)} {M : aM} {pc : Nat} {ls st : List Value} {h h2 : aH} {o : Option Value}
theorem R_getV {idx c j r : Nat} {ds : String} {fin : Bool} {v : Value} (hd : decode (mB M) pc = .ok (.getfield idx, 3)) (hf : aF (mO M) idx c j ds fin) (hk : kC r = c) (hv : ∀ ad : Nat → Nat, fv ad r c j (h r j) = lf ad v) (k : Rn sp M (pc + 3) ls (v :: st) h o h2) : Rn sp M pc ls (.ref r :: st) h o h2 := by
  intro l p e s m args below meth c' D ad cA A cells slots Q C F H locs lc hl hP hS
  obtain ⟨Cn, nm, T, N, h1, h3, h4, h5⟩ := hf
  obtain ⟨C', T', N', ty, g1, g2, g3, g4⟩ := aCf_all h1
  rw [h1] at g1
  cases g1
  have hN := kN_of hk h1
  refine va_get (D := D) (ref := Cn) (v := lf ad v) C.1 C.2.1 C.2.2.2.2.1 g2 C.2.2.2.1 C.2.2.2.2.2.1 hP r (wd_obj hk (by have := cl_lt h1; omega)) h1 j h3 (C.2.2.2.2.1 _ ?_) ?_ ?_ hd (k l p e s m args below meth c' D ad cA A cells slots Q C F H locs lc hl hP hS)
  · rw [h4]; exact h5
  · rw [h4]; exact fun _ z => z
  · rw [fl_at (by omega), hk, hv ad]
theorem R_getI {idx c j r : Nat} {ds : String} {fin : Bool} (hd : decode (mB M) pc = .ok (.getfield idx, 3)) (hf : aF (mO M) idx c j ds fin) (hk : kC r = c) (ht : fk c j = 0) (k : Rn sp M (pc + 3) ls (.int (h r j) :: st) h o h2) : Rn sp M pc ls (.ref r :: st) h o h2 :=
  R_getV hd hf hk (fun ad => by simp [fv, ht, lf]) k
theorem R_getF {idx c j r q : Nat} {ds : String} {fin : Bool} (hd : decode (mB M) pc = .ok (.getfield idx, 3)) (hf : aF (mO M) idx c j ds fin) (hk : kC r = c) (ht : fk c j = 1) (hq : r + ro c j = q) (k : Rn sp M (pc + 3) ls (.ref q :: st) h o h2) : Rn sp M pc ls (.ref r :: st) h o h2 :=
  R_getV hd hf hk (fun ad => by simp [fv, ht, lf, hq]) k
theorem R_getM {idx c j r : Nat} {ds : String} {fin : Bool} (hd : decode (mB M) pc = .ok (.getfield idx, 3)) (hf : aF (mO M) idx c j ds fin) (hk : kC r = c) (ht : fk c j = 2) (k : Rn sp M (pc + 3) ls (.ref (h r j).toNatClampNeg :: st) h o h2) : Rn sp M pc ls (.ref r :: st) h o h2 :=
  R_getV hd hf hk (fun ad => by simp [fv, ht, lf]) k
theorem R_putV {idx c j r : Nat} {ds : String} {v : Value} {x : Int32} {ty : FieldType} (hd : decode (mB M) pc = .ok (.putfield idx, 3)) (hf : aF (mO M) idx c j ds false) (hk : kC r = c) (hp : parseFieldDescriptor ds = some ty) (hn : ∀ ad : Nat → Nat, narrow ty (lf ad v) = lf ad v) (hfit : ∀ ad : Nat → Nat, fits ty (lf ad v) = true) (hv : ∀ ad : Nat → Nat, fv ad r c j x = lf ad v) (k : Rn sp M (pc + 3) ls st (aU h r j x) o h2) : Rn sp M pc ls (v :: .ref r :: st) h o h2 := by
  intro l p e s m args below meth c' D ad cA A cells slots Q C F H locs lc hl hP hS
  obtain ⟨Cn, nm, T, N, h1, h3, h4, h5⟩ := hf
  obtain ⟨C', T', N', ty', g1, g2, g3, g4⟩ := aCf_all h1
  rw [h1] at g1
  cases g1
  have hN := kN_of hk h1
  refine va_put (D := D) (ref := Cn) (v := lf ad v) (ty := ty) C.1 C.2.1 C.2.2.2.2.1 g2 ty' g3 g4 C.2.2.2.1 C.2.2.2.2.2.1 hP (C.2.2.2.2.2.2.1 h) hS r (wd_obj hk (by have := cl_lt h1; omega)) h1 j h3 (C.2.2.2.2.1 _ ?_) ?_ ?_ ?_ (hn ad) (hfit ad) (by rw [fl_len]; omega) hd (fun H1 locs1 hP1 hD1 hS1 => ?_)
  · rw [h4]; exact h5
  · rw [h4]; exact fun _ z => z
  · rw [h4]
  · rw [h4]; exact hp
  · rw [← hv ad, wd_put hk (by have := cl_lt h1; omega) (by omega)] at hP1
    exact k l p e s m args below meth c' D ad cA A cells slots Q C F H1 locs1 lc hl hP1 hS1
theorem R_putI {idx c j r : Nat} {x : Int32} (hd : decode (mB M) pc = .ok (.putfield idx, 3)) (hf : aF (mO M) idx c j "I" false) (hk : kC r = c) (ht : fk c j = 0) (k : Rn sp M (pc + 3) ls st (aU h r j x) o h2) : Rn sp M pc ls (.int x :: .ref r :: st) h o h2 :=
  R_putV (ty := .int) hd hf hk (by decide +kernel) (fun _ => rfl) (fun _ => rfl) (fun ad => by simp [fv, ht, lf]) k
theorem R_putZ {idx c j r : Nat} {x : Int32} (hd : decode (mB M) pc = .ok (.putfield idx, 3)) (hf : aF (mO M) idx c j "Z" false) (hk : kC r = c) (ht : fk c j = 0) (hx : x = 0 ∨ x = 1) (k : Rn sp M (pc + 3) ls st (aU h r j x) o h2) : Rn sp M pc ls (.int x :: .ref r :: st) h o h2 :=
  R_putV (ty := .boolean) hd hf hk (by decide +kernel) (fun _ => by rcases hx with rfl | rfl <;> rfl) (fun _ => by rcases hx with rfl | rfl <;> rfl) (fun ad => by simp [fv, ht, lf]) k
theorem R_putM {idx c j r q : Nat} (hd : decode (mB M) pc = .ok (.putfield idx, 3)) (hf : aF (mO M) idx c j "LWeatherHand$Valley;" false) (hk : kC r = c) (ht : fk c j = 2) (hq : q < 73) (k : Rn sp M (pc + 3) ls st (aU h r j (nI q)) o h2) : Rn sp M pc ls (.ref q :: .ref r :: st) h o h2 :=
  R_putV (ty := .object "WeatherHand$Valley") hd hf hk (by decide +kernel) (fun _ => rfl) (fun _ => rfl) (fun ad => by simp [fv, ht, lf, nI_clamp (show q < 2 ^ 31 by omega)]) k
theorem R_iald {i : Int32} {r n : Nat} (hd : decode (mB M) pc = .ok (.iaload, 1)) (hk : kC r = 100) (hn : kN r = n) (hin : vp_in i n) (k : Rn sp M (pc + 1) ls (.int (h r i.toNatClampNeg) :: st) h o h2) : Rn sp M pc ls (.int i :: .ref r :: st) h o h2 := by
  intro l p e s m args below meth c D ad cA A cells slots Q C F H locs lc hl hP hS
  have ht := tyw_at (cA := cA) (kC_lt (show kC r ≠ 200 by omega))
  rw [if_neg (by omega)] at ht
  exact va_iald C.1 C.2.1 C.2.2.2.2.2.1 hP r r (wd_arr (Or.inl hk)) ht (by rw [hn]; exact hin) hd (k l p e s m args below meth c D ad cA A cells slots Q C F H locs lc hl hP hS)
theorem R_zald {i : Int32} {r n : Nat} (hd : decode (mB M) pc = .ok (.baload, 1)) (hk : kC r = 101) (hn : kN r = n) (hin : vp_in i n) (k : Rn sp M (pc + 1) ls (.int (h r i.toNatClampNeg) :: st) h o h2) : Rn sp M pc ls (.int i :: .ref r :: st) h o h2 := by
  intro l p e s m args below meth c D ad cA A cells slots Q C F H locs lc hl hP hS
  have ht := tyw_at (cA := cA) (kC_lt (show kC r ≠ 200 by omega))
  rw [if_pos hk] at ht
  exact va_zald C.1 C.2.1 C.2.2.2.2.2.1 hP r r (wd_arr (Or.inr hk)) ht (by rw [hn]; exact hin) hd (k l p e s m args below meth c D ad cA A cells slots Q C F H locs lc hl hP hS)
theorem R_iast {i x : Int32} {r n : Nat} (hd : decode (mB M) pc = .ok (.iastore, 1)) (hk : kC r = 100) (hn : kN r = n) (hin : vp_in i n) (k : Rn sp M (pc + 1) ls st (aU h r i.toNatClampNeg x) o h2) : Rn sp M pc ls (.int x :: .int i :: .ref r :: st) h o h2 := by
  intro l p e s m args below meth c D ad cA A cells slots Q C F H locs lc hl hP hS
  have ht := tyw_at (cA := cA) (kC_lt (show kC r ≠ 200 by omega))
  rw [if_neg (by omega)] at ht
  refine va_iast C.1 C.2.1 C.2.2.2.2.2.1 hP (C.2.2.2.2.2.2.1 h) hS r r (wd_arr (Or.inl hk)) ht (by rw [hn]; exact hin) hd (fun H1 locs1 hP1 hD1 hS1 => ?_)
  rw [wd_ast (Or.inl hk)] at hP1
  exact k l p e s m args below meth c D ad cA A cells slots Q C F H1 locs1 lc hl hP1 hS1
theorem R_zast {i x : Int32} {r n : Nat} (hd : decode (mB M) pc = .ok (.bastore, 1)) (hk : kC r = 101) (hn : kN r = n) (hin : vp_in i n) (hx : x = 0 ∨ x = 1) (k : Rn sp M (pc + 1) ls st (aU h r i.toNatClampNeg x) o h2) : Rn sp M pc ls (.int x :: .int i :: .ref r :: st) h o h2 := by
  intro l p e s m args below meth c D ad cA A cells slots Q C F H locs lc hl hP hS
  have ht := tyw_at (cA := cA) (kC_lt (show kC r ≠ 200 by omega))
  rw [if_pos hk] at ht
  have hz : vp_nar .boolean x = x := by rcases hx with rfl | rfl <;> rfl
  refine va_zast C.1 C.2.1 C.2.2.2.2.2.1 hP (C.2.2.2.2.2.2.1 h) hS r r (wd_arr (Or.inr hk)) ht (by rw [hn]; exact hin) hd (fun H1 locs1 hP1 hD1 hS1 => ?_)
  rw [hz, wd_ast (Or.inr hk)] at hP1
  exact k l p e s m args below meth c D ad cA A cells slots Q C F H1 locs1 lc hl hP1 hS1
theorem R_sld {i : Int32} (hd : decode (mB M) pc = .ok (.iaload, 1)) (hO : mO M = RL) (hin : vp_in i sp.1) (k : Rn sp M (pc + 1) ls (.int (sp.2 i.toNatClampNeg) :: st) h o h2) : Rn sp M pc ls (.int i :: .ref 73 :: st) h o h2 := by
  intro l p e s m args below meth c D ad cA A cells slots Q C F H locs lc hl hP hS
  obtain ⟨hX, hb, hbA⟩ := C.2.2.2.2.2.2.2.2.2.1 hO
  exact va_sld C.1 C.2.1 hX hb hbA hS hin hd (k l p e s m args below meth c D ad cA A cells slots Q C F H locs lc hl hP hS)
theorem R_slen (hd : decode (mB M) pc = .ok (.arraylength, 1)) (hO : mO M = RL) (k : Rn sp M (pc + 1) ls (.int (nI sp.1) :: st) h o h2) : Rn sp M pc ls (.ref 73 :: st) h o h2 := by
  intro l p e s m args below meth c D ad cA A cells slots Q C F H locs lc hl hP hS
  obtain ⟨hX, hb, hbA⟩ := C.2.2.2.2.2.2.2.2.2.1 hO
  exact va_slen C.1 C.2.1 hX hb hbA hS hd (k l p e s m args below meth c D ad cA A cells slots Q C F H locs lc hl hP hS)
theorem R_max {x y : Int32} {idx : Nat} (hd : decode (mB M) pc = .ok (.invokestatic idx, 3)) (hk : Cond.methodLink (mO M) idx Lib.Math.max.name ∈ aT) (hf : 1 ≤ (mRm M).frames) (hw : (st.map fun v => v.category).sum + 13 ≤ (mRm M).locals) (k : Rn sp M (pc + 3) ls (.int (if x < y then y else x) :: st) h o h2) : Rn sp M pc ls (.int y :: .int x :: st) h o h2 := by
  intro l p e s m args below meth c D ad cA A cells slots Q C F H locs lc hl hP hS
  exact va_mmax C.1 C.2.1 (C.2.2.1.trans hl.1.symm) C.2.2.2.1 (C.2.2.2.2.1 _ hk) (C.2.2.2.2.1 _ (aT_in (by decide +kernel) rfl)) (C.2.2.2.2.1 _ (aT_in (by decide +kernel) rfl)) (C.2.2.2.2.1 _ (aT_in (by decide +kernel) rfl)) hf (by rw [lf_cats]; exact hw) C.2.2.2.2.2.2.2.2.1.1 C.2.2.2.2.2.2.2.2.1.2 hd (k l p e s m args below meth c D ad cA A cells slots Q C F H locs lc hl hP hS)
theorem R_min {x y : Int32} {idx : Nat} (hd : decode (mB M) pc = .ok (.invokestatic idx, 3)) (hk : Cond.methodLink (mO M) idx Lib.Math.min.name ∈ aT) (hf : 1 ≤ (mRm M).frames) (hw : (st.map fun v => v.category).sum + 13 ≤ (mRm M).locals) (k : Rn sp M (pc + 3) ls (.int (if y < x then y else x) :: st) h o h2) : Rn sp M pc ls (.int y :: .int x :: st) h o h2 := by
  intro l p e s m args below meth c D ad cA A cells slots Q C F H locs lc hl hP hS
  exact va_mmin C.1 C.2.1 (C.2.2.1.trans hl.1.symm) C.2.2.2.1 (C.2.2.2.2.1 _ hk) (C.2.2.2.2.1 _ (aT_in (by decide +kernel) rfl)) (C.2.2.2.2.1 _ (aT_in (by decide +kernel) rfl)) (C.2.2.2.2.1 _ (aT_in (by decide +kernel) rfl)) hf (by rw [lf_cats]; exact hw) C.2.2.2.2.2.2.2.2.1.1 C.2.2.2.2.2.2.2.2.1.2 hd (k l p e s m args below meth c D ad cA A cells slots Q C F H locs lc hl hP hS)
theorem R_copy {sq dq n : Int32} {idx r q n0 n1 : Nat} (hd : decode (mB M) pc = .ok (.invokestatic idx, 3)) (hlk : Cond.methodLink (mO M) idx arraycopyName ∈ aT) (hkr : kC r = 100) (hkq : kC q = 100) (hnr : kN r = n0) (hnq : kN q = n1) (h1 : ¬ sq < 0) (h2' : ¬ dq < 0) (h3 : ¬ n < 0) (h4 : sq.toNatClampNeg + n.toNatClampNeg ≤ n0) (h5 : dq.toNatClampNeg + n.toNatClampNeg ≤ n1) (hf : 1 ≤ (mRm M).frames) (hw : (st.map fun v => v.category).sum + (nativeFrameWords "java/lang/System" "arraycopy" 5 + 11) ≤ (mRm M).locals) (k : Rn sp M (pc + 3) ls st (aV h q (va_cpy (h r) (h q) sq.toNatClampNeg dq.toNatClampNeg n.toNatClampNeg)) o h2) : Rn sp M pc ls (.int n :: .int dq :: .ref q :: .int sq :: .ref r :: st) h o h2 := by
  intro l p e s m args below meth c D ad cA A cells slots Q C F H locs lc hl hP hS
  have ht := tyw_at (cA := cA) (kC_lt (show kC r ≠ 200 by omega))
  have ht2 := tyw_at (cA := cA) (kC_lt (show kC q ≠ 200 by omega))
  rw [if_neg (by omega)] at ht ht2
  refine va_copyi (ty := .int) C.1 C.2.1 (C.2.2.1.trans hl.1.symm) C.2.2.2.1 (C.2.2.2.2.1 _ hlk) (C.2.2.2.2.1 _ (aT_in (by decide +kernel) rfl)) (C.2.2.2.2.1 _ (aT_in (by decide +kernel) rfl)) (C.2.2.2.2.1 _ (aT_in (by decide +kernel) rfl)) C.2.2.2.2.2.1 hP (C.2.2.2.2.2.2.1 h) hS r q r q (wd_arr (Or.inl hkr)) (wd_arr (Or.inl hkq)) ht ht2 rfl h1 h2' h3 (by rw [hnr]; exact h4) (by rw [hnq]; exact h5) (fun _ _ => rfl) hf (by rw [lf_cats]; exact hw) hd (fun H1 locs1 hP1 hD1 hS1 => ?_)
  rw [wd_arv (Or.inl hkq)] at hP1
  exact k l p e s m args below meth c D ad cA A cells slots Q C F H1 locs1 lc hl hP1 hS1
end HRules
