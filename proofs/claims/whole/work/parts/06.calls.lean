/-! a call -/
def aOk (M : aM) (n : Nat) : Prop := Cond.code (mY M) (mB M) (mL M) (mR M) ∈ aT ∧ (mY M).cls = mO M ∧ plainName (mO M) = true ∧ ((mO M) ≠ "java/lang/invoke/MethodHandle" ∧ (mO M) ≠ "java/lang/invoke/VarHandle") ∧ ((mRm M).cells = 0 ∧ (mRm M).slots = 0) ∧ (parseMethodDescriptor (mY M).desc).map (fun d => d.parameters.length) = some n ∧ Cond.initialized (mO M) ∈ aT
def aRo (M M' : aM) : Prop := (mRm M').frames + 1 ≤ (mRm M).frames ∧ 8 + (mL M' + 11) + (mRm M').locals ≤ (mRm M).locals
def Ev (M : aM) (av : List Value) (h : aH) (o : Option Value) (h1 : aH) : Prop :=
  ∀ (l : Launch) (D : va_G) (ad : Nat → Nat) (cA : Nat → ClassId) (sz : Nat), Met l (mY M) (Cond.code (mY M) (mB M) (mL M) (mR M) :: aT) (mRm M)
    (va_Pc (av.map (lf ad)) (fun U => U.heap.size = sz ∧ va_P D vwCl (wd ad cA h) U.heap ∧ va_K D vwCl (tyw cA) U ∧ va_Nw nW U ∧ ∀ h, va_D (fun _ => True) (wd ad cA h)))
    (fun _ st oc t => oc = .returned (o.map (lf ad)) ∧ va_P D vwCl (wd ad cA h1) t.heap ∧ va_F (va_A (wd ad cA h) sz) st t) 0 0 (va_A (wd ad cA h) sz)
def lay (n : Nat) (av : List Value) : List Value := (av.flatMap fun v => if v.category = 2 then [v, .null] else [v]) ++ List.replicate (n - (av.flatMap fun v => if v.category = 2 then [v, .null] else [v]).length) .null
theorem lay_at {ad : Nat → Nat} : ∀ (av : List Value) (i0 n i : Nat) (v : Value), ((av.flatMap fun v => if v.category = 2 then [v, .null] else [v]) ++ List.replicate n .null)[i]? = some v → v ≠ .null → (i0 + i, lf ad v) ∈ lv_args i0 (av.map (lf ad)) := by
  intro av
  induction av with
  | nil =>
    intro i0 n i v hi hv
    simp only [List.flatMap_nil, List.nil_append] at hi
    exact absurd (List.eq_of_mem_replicate (List.mem_of_getElem? hi)) hv
  | cons w t ih =>
    intro i0 n i v hi hv
    simp only [List.map_cons, lv_args, lf_cat]
    by_cases hc : w.category = 2
    · rw [List.flatMap_cons, if_pos hc] at hi
      rw [if_pos hc]
      match i with
      | 0 => simp at hi; subst hi; exact List.mem_cons_self
      | 1 => simp at hi; exact absurd hi.symm hv
      | i + 2 =>
        have := ih (i0 + 2) n i v (by simpa using hi) hv
        rw [show i0 + (i + 2) = i0 + 2 + i by omega]
        exact List.mem_cons_of_mem _ this
    · rw [List.flatMap_cons, if_neg hc] at hi
      rw [if_neg hc]
      match i with
      | 0 => simp at hi; subst hi; exact List.mem_cons_self
      | i + 1 =>
        have := ih (i0 + 1) n i v (by simpa using hi) hv
        rw [show i0 + (i + 1) = i0 + 1 + i by omega]
        exact List.mem_cons_of_mem _ this
theorem lg_sl_len (av : List Value) (ad : Nat → Nat) : (lg_sl (av.map (lf ad))).length = (av.flatMap fun v => if v.category = 2 then [v, .null] else [v]).length := by
  induction av with
  | nil => rfl
  | cons v t ih =>
    simp only [List.map_cons, lg_sl, List.flatMap_cons, List.length_append, lf_cat] at ih ⊢
    rw [ih]
    by_cases hc : v.category = 2
    · rw [if_pos hc, if_pos hc]; rfl
    · rw [if_neg hc, if_neg hc]; rfl
/-- a method's run from its entry is its contract -/
theorem Ev_of {sp : Nat × (Nat → Int32)} {M : aM} {n : Nat} {av ls0 : List Value} {h h1 : aH} {o : Option Value} (hok : aOk M n) (hnl : mO M ≠ RL) (hlen : (av.flatMap fun v => if v.category = 2 then [v, .null] else [v]).length ≤ mL M) (hl0 : lay (mL M) av = ls0) (k : Rn sp M 0 ls0 [] h o h1) : Ev M av h o h1 := by
  intro l D ad cA sz
  obtain ⟨hcd, hcl, hpn, -, hcs, -, -⟩ := hok
  refine Met.ofW (cc := mB M) (maxL := mL M) (ret := mR M) (by rw [hcl]; exact hpn) rfl ?_
  intro p e s m args below meth c s₁ B hml hv
  obtain ⟨rfl, hsz, hP, hK, hNw, hD0⟩ := hv
  have hts : ∀ w ∈ aT, w.before (av.map (lf ad)).toArray s = true := fun w hw => atoms_spec (ws := Cond.code (mY M) (mB M) (mL M) (mR M) :: aT) B.pre w (List.mem_cons_of_mem _ hw)
  have hown : s.vm.findClass (mO M) = some m.cls := by rw [← hcl]; exact findClass_of_methodNamed B.named
  have hr := B.returns
  have hlocks := B.notSynchronized
  subst hsz
  have hl := lv_entry (av.map (lf ad)) (n := mL M) (by rw [lg_sl_len]; exact hlen)
  rw [lg_entry_eq]
  have hADr : ∀ q, va_A (wd ad cA h) s.heap.size q ↔ (∃ k, k < 73 ∧ q = ad k) ∨ s.heap.size ≤ q := by
    intro q
    constructor
    · rintro (⟨k, e, hk⟩ | hq)
      · have hlt : k < 73 := by
          have := (List.getElem?_eq_some_iff.mp hk).1
          rw [wd_len] at this; exact this
        rw [wd_at hlt] at hk
        cases hk
        exact Or.inl ⟨k, hlt, rfl⟩
      · exact Or.inr hq
    · rintro (⟨k, hk, rfl⟩ | hq)
      · exact Or.inl ⟨k, _, wd_at hk⟩
      · exact Or.inr hq
  have C : cX D ad cA (va_A (wd ad cA h) s.heap.size) sp M p s m (av.map (lf ad)).toArray c 0 0 := by
    refine ⟨B.exec, B.bytes, hml, hown, hts, hK, fun h' => ⟨(hD0 h').1, fun k q hk => ?_⟩, fun q hq => Or.inr hq, ⟨Nat.zero_le _, Nat.zero_le _⟩, fun z => absurd z hnl, hNw⟩
    have hlt : k < 73 := by
      have := (List.getElem?_eq_some_iff.mp hk).1
      rw [wd_len] at this; exact this
    rw [wd_at hlt] at hk
    cases hk
    exact (hADr _).mpr (Or.inl ⟨k, hlt, rfl⟩)
  refine k l p e s m _ below meth c D ad cA _ 0 0 _ C (fun pc' ls' H locs hd hrk hP2 hS2 => ?_) s.heap [] _ ⟨hl.1, hl.2.1, fun i v hi hv => ?_⟩ hP va_S.rf
  · match o, hd, hrk with
    | none, hd, hrk =>
      exact W.vret B.exec B.bytes (hr.trans hrk) (fun t ht hW => ⟨rfl, by rw [ht]; exact hP2, hS2.F ht⟩) hS2.2.2 hd
    | some (.int x), hd, hrk =>
      rcases hrk with hrk | ⟨hrk, hx⟩
      · exact W.zret (ty := .int) B.exec B.bytes (hr.trans hrk) rfl (fun t ht hW => ⟨rfl, by rw [ht]; exact hP2, hS2.F ht⟩) hS2.2.2 hd
      · exact W.zret (ty := .boolean) B.exec B.bytes (hr.trans hrk) (by rcases hx with rfl | rfl <;> rfl) (fun t ht hW => ⟨rfl, by rw [ht]; exact hP2, hS2.F ht⟩) hS2.2.2 hd
    | some (.ref r), hd, hrk =>
      obtain ⟨nm, hrk⟩ := hrk
      exact W.aret B.exec B.bytes (hr.trans hrk) (Or.inl ⟨nm, rfl⟩) (Or.inr ⟨_, rfl⟩) (fun t ht hW => ⟨rfl, by rw [ht]; exact hP2, hS2.F ht⟩) hS2.2.2 hd
  · rw [← hl0] at hi
    have := lay_at (ad := ad) av 0 _ i v hi hv
    rw [Nat.zero_add] at this
    exact hl.2.2 _ this
section Calls
variable {sp : Nat × (Nat → Int32)} {M : aM} {pc : Nat} {ls st : List Value} {h h2 : aH} {o : Option Value}
theorem goodTbl {M' : aM} (hc : Cond.code (mY M') (mB M') (mL M') (mR M') ∈ aT) : GoodIn aT (Cond.code (mY M') (mB M') (mL M') (mR M') :: aT) := by
  intro w hw
  have hm : w ∈ aT := by
    rcases List.mem_cons.mp hw with rfl | q
    · exact hc
    · exact q
  exact ⟨hm, good_of_word (aT_ok hm)⟩
/-- behind a call -/
theorem R_back {p : Program} {l : Launch} {e : Env} {s : State} {m : MethodId} {args : Array Value} {below : List Frame} {meth : Method} {c : Code} {D : va_G} {ad : Nat → Nat} {cA : Nat → ClassId} {A : Nat → Prop} {cells slots : Nat} {Q : State → Prop} {H : Heap} {locs : List Loc} {lc : Array Slot} {st0 : List Value} {o1 : Option Value} {h1 : aH} {R : Room}
    (hD : va_D A (wd ad cA h)) (hA : ∀ q, s.heap.size ≤ q → A q) (hS : va_S A s.heap H locs)
    (run : va_Run p l e R s m args below meth c H locs cells slots 0 0 (F0 m pc lc st0) (st.map (lf ad)) (fun st oc t => oc = .returned (o1.map (lf ad)) ∧ va_P D vwCl (wd ad cA h1) t.heap ∧ va_F (va_A (wd ad cA h) H.size) st t) (va_A (wd ad cA h) H.size))
    (k : ∀ (H1 : Heap) (locs1 : List Loc), va_P D vwCl (wd ad cA h1) H1 → va_S A s.heap H1 locs1 → W p l e R s m args below meth c H1 locs1 cells slots Q (F0 m (pc + 3) lc ((o1.toList ++ st).map (lf ad)))) : W p l e R s m args below meth c H locs cells slots Q (F0 m pc lc st0) := by
  have hf : ∀ q, va_A (wd ad cA h) H.size q → A q := by
    rintro q (⟨k, e, hk⟩ | hq)
    · exact hD.2 k (q, e) hk
    · exact hA q (Nat.le_trans hS.1 hq)
  intro T hT X
  obtain ⟨v, st₀, t, T', L, h0, X', hL, e1, e2, ⟨hv, hP1, hz, hk⟩, stp⟩ := run T hT X
  have hv2 : v = o1.map (lf ad) := by
    cases hv; rfl
  subst hv2
  rw [h0] at hz hk
  have hS1 : va_S A s.heap T'.heap (locs ++ L) := ⟨Nat.le_trans hS.1 (by rw [e1]; exact hz), fun q q1 q2 => by rw [e1, hk q (Nat.lt_of_lt_of_le q1 hS.1) (fun z => q2 (hf q z))]; exact hS.2.1 q q1 q2, fun q hq => by
    rcases List.mem_append.mp hq with z | z
    · exact hS.2.2 q z
    · exact hf _ (hL q z)⟩
  obtain ⟨t2, a1, b1⟩ := k T'.heap (locs ++ L) (by rw [e1]; exact hP1) hS1 T' rfl X'
  refine ⟨t2, stp t2 ?_, b1⟩
  have e3 : (o1.toList ++ st).map (lf ad) = (o1.map (lf ad)).toList ++ st.map (lf ad) := by cases o1 <;> rfl
  rw [e3] at a1
  exact a1
theorem pre_blind {D : va_G} {ad : Nat → Nat} {cA : Nat → ClassId} {sz : Nat} {av : List Value} {h : aH} : FrameBlind (va_Pc av (fun U => U.heap.size = sz ∧ va_P D vwCl (wd ad cA h) U.heap ∧ va_K D vwCl (tyw cA) U ∧ va_Nw nW U ∧ ∀ h, va_D (fun _ => True) (wd ad cA h))) :=
  fun a U g mk q => by obtain ⟨q0, q1, qP, qK, qN, qD⟩ := q; exact ⟨q0, q1, qP, va_K.moved (u := U) (U := U.calling g mk a) (Vm.Alike.refl U.vm) qK, va_Nw.same rfl rfl qN, qD⟩
theorem R_callV {M' : aM} {idx r c n : Nat} {av st0 : List Value} {o1 : Option Value} {h1 : aH} {q : vw_C} (hd : decode (mB M) pc = .ok (.invokevirtual idx, 3)) (hok : aOk M' n) (hro : aRo M M') (hcl : vwCl[c]? = some q) (hcn : q.1 = mO M')
    (hli : Cond.methodLink (mO M) idx (mY M') ∈ aT) (hin : Cond.instanceMethod (mY M') ∈ aT) (hse : Cond.selects (mO M') (mY M') (mY M') ∈ aT) (hk : kC r = c) (hst : st0 = av.reverse ++ .ref r :: st) (hn : av.length = n) (hw : (st.map fun v => v.category).sum ≤ 8)
    (hE : Ev M' (.ref r :: av) h o1 h1) (k : Rn sp M (pc + 3) ls (o1.toList ++ st) h1 o h2) : Rn sp M pc ls st0 h o h2 := by
  intro l p e s m args below meth c' D ad cA A cells slots Q C F H locs lc hl hP hS
  obtain ⟨hcd, hyc, hpn, hmh, hcs, hnp, hini⟩ := hok
  have hts := C.2.2.2.2.1
  refine R_back (st := st) (C.2.2.2.2.2.2.1 h) C.2.2.2.2.2.2.2.1 hS ?_ (fun H1 locs1 hP1 hS1 => k l p e s m args below meth c' D ad cA A cells slots Q C F H1 locs1 lc hl hP1 hS1)
  refine va_runV (C := mO M') (As := av.map (lf ad)) (ret := mR M') (bytes := mB M') (maxL := mL M') (n := n) (index := idx) (b := ad r) ⟨C.1, C.2.1, C.2.2.1, C.2.2.2.1, hts⟩ (hE l D ad cA H.size) ⟨callB_of n hts (goodTbl hcd) rfl hcs.1 hcs.2 (by rw [hyc]; exact hts _ hini) (hts _ hli) ⟨by rw [hyc]; exact hmh.1, by rw [hyc]; exact hmh.2, hnp⟩ hro, hts _ hin, hts _ hse⟩ ⟨pre_blind, ?_, fun U hU hW => ⟨rfl, by rw [hU], by rw [hU]; exact hP, va_K.moved hW.alike C.2.2.2.2.2.1, va_Nw.warmM hW C.2.2.2.2.2.2.2.2.2.2, fun h => (C.2.2.2.2.2.2.1 h).weaken (fun _ _ _ _ => trivial)⟩⟩ rfl (by rw [List.length_map]; exact hn) hl.1 ?_ ?_ hd ⟨C.2.2.2.2.2.2.2.2.1.1, C.2.2.2.2.2.2.2.2.1.2⟩
  · rw [← hcn]
    exact va_recv C.2.2.2.2.2.1 hP hcl (wd_obj hk (by have := cl_lt hcl; omega))
  · show st0.map (lf ad) = _
    rw [hst]
    simp [lf]
  · exact lv_room (by rw [lf_cats]; exact hw)
theorem R_callS {M' : aM} {idx n : Nat} {av st0 : List Value} {o1 : Option Value} {h1 : aH} (hd : decode (mB M) pc = .ok (.invokestatic idx, 3)) (hok : aOk M' n) (hro : aRo M M')
    (hli : Cond.methodLink (mO M) idx (mY M') ∈ aT) (hin : Cond.static (mY M') ∈ aT) (hst : st0 = av.reverse ++ st) (hn : av.length = n) (hw : (st.map fun v => v.category).sum ≤ 8)
    (hE : Ev M' av h o1 h1) (k : Rn sp M (pc + 3) ls (o1.toList ++ st) h1 o h2) : Rn sp M pc ls st0 h o h2 := by
  intro l p e s m args below meth c' D ad cA A cells slots Q C F H locs lc hl hP hS
  obtain ⟨hcd, hyc, hpn, hmh, hcs, hnp, hini⟩ := hok
  have hts := C.2.2.2.2.1
  refine R_back (st := st) (C.2.2.2.2.2.2.1 h) C.2.2.2.2.2.2.2.1 hS ?_ (fun H1 locs1 hP1 hS1 => k l p e s m args below meth c' D ad cA A cells slots Q C F H1 locs1 lc hl hP1 hS1)
  refine va_runS (As := av.map (lf ad)) (ret := mR M') (bytes := mB M') (maxL := mL M') (n := n) (index := idx) ⟨C.1, C.2.1, C.2.2.1, C.2.2.2.1, hts⟩ (hE l D ad cA H.size) ⟨callB_of n hts (goodTbl hcd) rfl hcs.1 hcs.2 (by rw [hyc]; exact hts _ hini) (hts _ hli) ⟨by rw [hyc]; exact hmh.1, by rw [hyc]; exact hmh.2, hnp⟩ hro, hts _ hin⟩ ⟨pre_blind, fun U hU hW => ⟨rfl, by rw [hU], by rw [hU]; exact hP, va_K.moved hW.alike C.2.2.2.2.2.1, va_Nw.warmM hW C.2.2.2.2.2.2.2.2.2.2, fun h => (C.2.2.2.2.2.2.1 h).weaken (fun _ _ _ _ => trivial)⟩⟩ rfl (by rw [List.length_map]; exact hn) hl.1 ?_ ?_ hd ⟨C.2.2.2.2.2.2.2.2.1.1, C.2.2.2.2.2.2.2.2.1.2⟩
  · show st0.map (lf ad) = _
    rw [hst]
    simp
  · exact lv_room (by rw [lf_cats]; exact hw)
theorem R_callSN {M' : aM} {idx n : Nat} {av st0 : List Value} {o1 : Option Value} {h1 : aH} {host : String} (hd : decode (mB M) pc = .ok (.invokestatic idx, 3)) (hok : aOk M' n) (hro : aRo M M')
    (hli : Cond.methodLinkNest (mO M) idx (mY M') host ∈ aT) (hin : Cond.static (mY M') ∈ aT) (hst : st0 = av.reverse ++ st) (hn : av.length = n) (hw : (st.map fun v => v.category).sum ≤ 8)
    (hE : Ev M' av h o1 h1) (k : Rn sp M (pc + 3) ls (o1.toList ++ st) h1 o h2) : Rn sp M pc ls st0 h o h2 := by
  intro l p e s m args below meth c' D ad cA A cells slots Q C F H locs lc hl hP hS
  obtain ⟨hcd, hyc, hpn, hmh, hcs, hnp, hini⟩ := hok
  have hts := C.2.2.2.2.1
  refine R_back (st := st) (C.2.2.2.2.2.2.1 h) C.2.2.2.2.2.2.2.1 hS ?_ (fun H1 locs1 hP1 hS1 => k l p e s m args below meth c' D ad cA A cells slots Q C F H1 locs1 lc hl hP1 hS1)
  refine va_runSN (host := host) (As := av.map (lf ad)) (ret := mR M') (bytes := mB M') (maxL := mL M') (n := n) (index := idx) ⟨C.1, C.2.1, C.2.2.1, C.2.2.2.1, hts⟩ (hE l D ad cA H.size) ⟨va_cnB n hts (goodTbl hcd) rfl hcs.1 hcs.2 (va_Nw.of rfl (hts _ hli)) (by rw [hyc]; exact hts _ hini) ⟨by rw [hyc]; exact hmh.1, by rw [hyc]; exact hmh.2, hnp⟩ hro, hts _ hin, trivial⟩ ⟨pre_blind, fun U hU hW => ⟨rfl, by rw [hU], by rw [hU]; exact hP, va_K.moved hW.alike C.2.2.2.2.2.1, va_Nw.warmM hW C.2.2.2.2.2.2.2.2.2.2, fun h => (C.2.2.2.2.2.2.1 h).weaken (fun _ _ _ _ => trivial)⟩⟩ rfl (by rw [List.length_map]; exact hn) hl.1 ?_ ?_ hd ⟨C.2.2.2.2.2.2.2.2.1.1, C.2.2.2.2.2.2.2.2.1.2⟩
  · show st0.map (lf ad) = _
    rw [hst]
    simp
  · exact lv_room (by rw [lf_cats]; exact hw)
end Calls
