/-! constructors: worlds that grow -/
def nws : List Cond := [.methodLinkNest RX7 9 yX5_init "WeatherHand", .methodLinkNest RX7 18 yX0_init "WeatherHand", .methodLinkNest RX7 31 yX3_init "WeatherHand", .methodLinkNest RX7 38 yX2_init "WeatherHand", .methodLinkNest RX7 45 yX1_init "WeatherHand", .methodLinkNest RX7 52 yX4_init "WeatherHand", .methodLinkNest RX7 63 yX6_init "WeatherHand", nW]
theorem nws_in : ∀ w ∈ nws, w ∈ lw_tbl := by decide +kernel
theorem nws_warm {s U : State} (hW : s.WarmedH U.vm) (h : ∀ w ∈ nws, va_Nw w s) : ∀ w ∈ nws, va_Nw w U := by
  intro w hw
  have h1 := h w hw
  simp only [nws, nW, List.mem_cons, List.not_mem_nil, or_false] at hw
  rcases hw with rfl | rfl | rfl | rfl | rfl | rfl | rfl | rfl <;> exact va_Nw.warmM hW h1
theorem nws_same {u U : State} (e : u.vm = U.vm) (h : ∀ w ∈ nws, va_Nw w u) : ∀ w ∈ nws, va_Nw w U := by
  intro w hw
  have h1 := h w hw
  simp only [nws, nW, List.mem_cons, List.not_mem_nil, or_false] at hw
  rcases hw with rfl | rfl | rfl | rfl | rfl | rfl | rfl | rfl <;> exact va_Nw.same rfl e h1
abbrev aTy : Type := List (ClassId × FieldType)
def cC (A : Nat → Prop) (M : aM) (p : Program) (s : State) (m : MethodId) (args : Array Value) (meth : Method) (c : Code) : Prop :=
  p.tables.exec = Jvm.exec ∧ c.code = mB M ∧ c.maxLocals = mL M ∧ s.vm.findClass (mO M) = some m.cls ∧ (∀ w ∈ aT, w.before args s = true) ∧ (∀ q, s.heap.size ≤ q → A q) ∧ (∀ w ∈ nws, va_Nw w s) ∧ (meth.name = "<init>" ∨ mO M = RL)
/-- from pc on, with this stack and this world, the method comes to its end, with a world for which G holds -/
def Rc (M : aM) (h0 pc : Nat) (st : List Value) (ws : va_W) (tys : aTy) (cells slots : Nat) (G : va_W → aTy → Prop) : Prop :=
  ∀ (l : Launch) (p : Program) (e : Env) (s : State) (m : MethodId) (args : Array Value) (below : List Frame) (meth : Method) (c : Code) (D : va_G) (A : Nat → Prop) (Q : State → Prop),
    cC A M p s m args meth c →
    (∀ (pc' : Nat) (ls' : Array Slot) (H : Heap) (locs : List Loc) (ws' : va_W) (tys' : aTy), decode (mB M) pc' = .ok (.return_, 1) → G ws' tys' → va_P D vwCl ws' H → va_D A ws' → va_K D vwCl tys' s → va_S A s.heap H locs → W p l e (mRm M) s m args below meth c H locs (mRm M).cells (mRm M).slots Q (F0 m pc' ls' [])) →
    ∀ (H : Heap) (locs : List Loc) (lc : Array Slot), lv_has lc (mL M) [(0, .ref h0)] → va_P D vwCl ws H → va_D A ws → va_K D vwCl tys s → va_S A s.heap H locs → W p l e (mRm M) s m args below meth c H locs cells slots Q (F0 m pc lc st)
section CRules
variable {M : aM} {h0 pc cells slots : Nat} {st : List Value} {ws : va_W} {tys : aTy} {G : va_W → aTy → Prop}
theorem C_ret (hd : decode (mB M) pc = .ok (.return_, 1)) (h1 : cells = (mRm M).cells) (h2 : slots = (mRm M).slots) (hG : G ws tys) : Rc M h0 pc [] ws tys cells slots G := by
  intro l p e s m args below meth c D A Q C F H locs lc hl hP hD hK hS
  subst h1; subst h2
  exact F pc lc H locs ws tys hd hG hP hD hK hS
theorem C_aload (hd : decode (mB M) pc = .ok (.aload_n 0, 1)) (k : Rc M h0 (pc + 1) (.ref h0 :: st) ws tys cells slots G) : Rc M h0 pc st ws tys cells slots G := by
  intro l p e s m args below meth c D A Q C F H locs lc hl hP hD hK hS
  exact lv_aload_n C.1 C.2.1 hd rfl (lv_at hl 0 rfl) (k l p e s m args below meth c D A Q C F H locs lc hl hP hD hK hS)
theorem C_dup {v : Value} (hd : decode (mB M) pc = .ok (.dup, 1)) (hc : v.category = 1) (k : Rc M h0 (pc + 1) (v :: v :: st) ws tys cells slots G) : Rc M h0 pc (v :: st) ws tys cells slots G := by
  intro l p e s m args below meth c D A Q C F H locs lc hl hP hD hK hS
  exact lv_dup C.1 C.2.1 hd hc (k l p e s m args below meth c D A Q C F H locs lc hl hP hD hK hS)
theorem C_iconst {n : Int} {v : Int32} (hd : decode (mB M) pc = .ok (.iconst n, 1)) (hv : Int32.ofInt n = v) (k : Rc M h0 (pc + 1) (.int v :: st) ws tys cells slots G) : Rc M h0 pc st ws tys cells slots G := by
  intro l p e s m args below meth c D A Q C F H locs lc hl hP hD hK hS
  exact lv_iconst C.1 C.2.1 hd hv (k l p e s m args below meth c D A Q C F H locs lc hl hP hD hK hS)
theorem C_bipush {n : Int} {v : Int32} (hd : decode (mB M) pc = .ok (.bipush n, 2)) (hv : (Int8.ofInt n).toInt32 = v) (k : Rc M h0 (pc + 2) (.int v :: st) ws tys cells slots G) : Rc M h0 pc st ws tys cells slots G := by
  intro l p e s m args below meth c D A Q C F H locs lc hl hP hD hK hS
  exact lv_bipush C.1 C.2.1 hd hv (k l p e s m args below meth c D A Q C F H locs lc hl hP hD hK hS)
theorem C_sipush {n : Int} {v : Int32} (hd : decode (mB M) pc = .ok (.sipush n, 3)) (hv : (Int16.ofInt n).toInt32 = v) (k : Rc M h0 (pc + 3) (.int v :: st) ws tys cells slots G) : Rc M h0 pc st ws tys cells slots G := by
  intro l p e s m args below meth c D A Q C F H locs lc hl hP hD hK hS
  exact lv_sipush C.1 C.2.1 hd hv (k l p e s m args below meth c D A Q C F H locs lc hl hP hD hK hS)
theorem C_obj {idx a : Nat} (hd : decode (mB M) pc = .ok (.invokespecial idx, 3)) (hl1 : Cond.methodLink (mO M) idx objectInit ∈ aT) (hf : 1 ≤ (mRm M).frames) (hw : (st.map fun v => v.category).sum + 12 ≤ (mRm M).locals) (k : Rc M h0 (pc + 3) st ws tys cells slots G) : Rc M h0 pc (.ref a :: st) ws tys cells slots G := by
  intro l p e s m args below meth c D A Q C F H locs lc hl hP hD hK hS
  refine W.objInit C.1 C.2.1 C.2.2.2.1 (C.2.2.2.2.1 _ hl1) (C.2.2.2.2.1 _ (aT_in (by decide +kernel) rfl)) (C.2.2.2.2.1 _ (aT_in (by decide +kernel) rfl)) rfl (by rw [C.2.2.1]; exact hl.1) rfl hd hf ?_ (k l p e s m args below meth c D A Q C F H locs lc hl hP hD hK hS)
  have z : (F0 m pc lc (Value.ref a :: st)).monitorRoom = 0 := rfl
  rw [z]
  omega
theorem C_new {idx ci : Nat} {Cn : String} {T : u_T} {N : Nat} {fs : List Value} (hd : decode (mB M) pc = .ok (.new idx, 3)) (hcl : vwCl[ci]? = some (Cn, T, N)) (ty : Nat → FieldType) (hty : ∀ k, k < N → parseFieldDescriptor (T k).2.2.1 = some (ty k)) (hlk : Cond.classLink (mO M) idx Cn ∈ aT) (hin : Cond.instantiable Cn N ∈ aT) (hini : Cond.initialized Cn ∈ aT) (hfs : ∀ j, j < N → defaultValue (ty j) = vp_V fs j) (h1 : cells + 1 ≤ (mRm M).cells) (h2 : slots + N ≤ (mRm M).slots)
    (k : ∀ q, Rc M h0 (pc + 3) (.ref q :: st) (ws ++ [(q, .inr (ci, fs))]) tys (cells + 1) (slots + N) G) : Rc M h0 pc st ws tys cells slots G := by
  intro l p e s m args below meth c D A Q C F H locs lc hl hP hD hK hS
  obtain ⟨C', T', N', ty', g1, g2, g3, g4⟩ := aCf_all hcl
  rw [hcl] at g1
  cases g1
  exact va_new C.1 C.2.1 C.2.2.2.2.1 g2 ty hty C.2.2.2.1 (C.2.2.2.2.1 _ hlk) (C.2.2.2.2.1 _ hin) (C.2.2.2.2.1 _ hini) hK hP hD hS C.2.2.2.2.2.1 hcl hfs h1 h2 hd (fun q H1 hP1 hD1 hS1 => k q l p e s m args below meth c D A Q C F H1 locs lc hl hP1 hD1 hK hS1)
theorem C_newi {n : Int32} {N : Nat} (hd : decode (mB M) pc = .ok (.newarray .int, 2)) (hn : ¬ n < 0) (hN : n.toNatClampNeg = N) (hb : N * componentBytes .int ≤ 536870912) (h1 : cells + 1 ≤ (mRm M).cells) (h2 : slots + N ≤ (mRm M).slots)
    (k : ∀ q cA, Rc M h0 (pc + 2) (.ref q :: st) (ws ++ [(q, .inl (cA, N, .inl (fun _ => 0)))]) (tys ++ [(cA, .int)]) (cells + 1) (slots + N) G) : Rc M h0 pc (.int n :: st) ws tys cells slots G := by
  intro l p e s m args below meth c D A Q C F H locs lc hl hP hD hK hS
  exact va_newa (atype := .int) (ty := .int) (a0 := (N, .inl (fun _ => 0))) C.1 C.2.1 (C.2.2.2.2.1 _ (aT_in (by decide +kernel) rfl)) rfl hK hP hD hS C.2.2.2.2.2.1 (fun _ => rfl) hn hN hb h1 h2 hd (fun q cA H1 hK1 hP1 hD1 hS1 => k q cA l p e s m args below meth c D A Q C F H1 locs lc hl hP1 hD1 hK1 hS1)
theorem C_newz {n : Int32} {N : Nat} (hd : decode (mB M) pc = .ok (.newarray .boolean, 2)) (hn : ¬ n < 0) (hN : n.toNatClampNeg = N) (hb : N * componentBytes .boolean ≤ 536870912) (h1 : cells + 1 ≤ (mRm M).cells) (h2 : slots + N ≤ (mRm M).slots)
    (k : ∀ q cA, Rc M h0 (pc + 2) (.ref q :: st) (ws ++ [(q, .inl (cA, N, .inl (fun _ => 0)))]) (tys ++ [(cA, .boolean)]) (cells + 1) (slots + N) G) : Rc M h0 pc (.int n :: st) ws tys cells slots G := by
  intro l p e s m args below meth c D A Q C F H locs lc hl hP hD hK hS
  exact va_newa (atype := .boolean) (ty := .boolean) (a0 := (N, .inl (fun _ => 0))) C.1 C.2.1 (C.2.2.2.2.1 _ (aT_in (by decide +kernel) rfl)) rfl hK hP hD hS C.2.2.2.2.2.1 (fun _ => rfl) hn hN hb h1 h2 hd (fun q cA H1 hK1 hP1 hD1 hS1 => k q cA l p e s m args below meth c D A Q C F H1 locs lc hl hP1 hD1 hK1 hS1)
/-- a field is put, of an object at a place of the world -/
theorem C_put {idx c j a q0 : Nat} {ds : String} {fin : Bool} {v : Value} {ty : FieldType} {fs : List Value} {ws2 : va_W} (hd : decode (mB M) pc = .ok (.putfield idx, 3)) (hf : aF (mO M) idx c j ds fin) (he : ws[q0]? = some (a, .inr (c, fs))) (hp : parseFieldDescriptor ds = some ty) (hn : narrow ty v = v) (hfit : fits ty v = true) (hlt : j < fs.length) (hown : fin = true → ∀ (Cn : String) (T : u_T) (N : Nat), vwCl[c]? = some (Cn, T, N) → mO M = Cn) (hnl : mO M ≠ RL) (h2 : ws.set q0 (a, .inr (c, fs.set j v)) = ws2)
    (k : Rc M h0 (pc + 3) st ws2 tys cells slots G) : Rc M h0 pc (v :: .ref a :: st) ws tys cells slots G := by
  intro l p e s m args below meth c' D A Q C F H locs lc hl hP hD hK hS
  subst h2
  obtain ⟨Cn, nm, T, N, h1, h3, h4, h5⟩ := hf
  obtain ⟨C', T', N', ty', g1, g2, g3, g4⟩ := aCf_all h1
  rw [h1] at g1
  cases g1
  have hin2 : meth.name = "<init>" := by
    rcases C.2.2.2.2.2.2.2 with z | z
    · exact z
    · exact absurd z hnl
  cases fin with
  | false =>
    refine va_put (D := D) (ref := Cn) (v := v) (ty := ty) C.1 C.2.1 C.2.2.2.2.1 g2 ty' g3 g4 C.2.2.2.1 hK hP hD hS q0 he h1 j h3 (C.2.2.2.2.1 _ ?_) ?_ ?_ ?_ hn hfit hlt hd (fun H1 locs1 hP1 hD1 hS1 => k l p e s m args below meth c' D A Q C F H1 locs1 lc hl hP1 hD1 hK hS1)
    · rw [h4]; exact h5
    · rw [h4]; exact fun _ z => z
    · rw [h4]
    · rw [h4]; exact hp
  | true =>
    refine va_putF (D := D) (ref := Cn) (v := v) (ty := ty) C.1 C.2.1 C.2.2.2.2.1 g2 ty' g3 g4 C.2.2.2.1 hK hP hD hS q0 he h1 j h3 (C.2.2.2.2.1 _ ?_) ?_ ?_ hin2 ?_ ?_ hn hfit hlt hd (fun H1 locs1 hP1 hD1 hS1 => k l p e s m args below meth c' D A Q C F H1 locs1 lc hl hP1 hD1 hK hS1)
    · rw [h4]; exact h5
    · rw [h4]; exact fun _ z => z
    · rw [h4]
    · rw [h4]; exact (hown rfl Cn T N h1).symm
    · rw [h4]; exact hp
theorem C_get {idx c j a q0 : Nat} {ds : String} {fin : Bool} {v : Value} {fs : List Value} (hd : decode (mB M) pc = .ok (.getfield idx, 3)) (hf : aF (mO M) idx c j ds fin) (he : ws[q0]? = some (a, .inr (c, fs))) (hv : fs[j]? = some v) (k : Rc M h0 (pc + 3) (v :: st) ws tys cells slots G) : Rc M h0 pc (.ref a :: st) ws tys cells slots G := by
  intro l p e s m args below meth c' D A Q C F H locs lc hl hP hD hK hS
  obtain ⟨Cn, nm, T, N, h1, h3, h4, h5⟩ := hf
  obtain ⟨C', T', N', ty', g1, g2, g3, g4⟩ := aCf_all h1
  rw [h1] at g1
  cases g1
  refine va_get (D := D) (ref := Cn) (v := v) C.1 C.2.1 C.2.2.2.2.1 g2 C.2.2.2.1 hK hP q0 he h1 j h3 (C.2.2.2.2.1 _ ?_) ?_ hv hd (k l p e s m args below meth c' D A Q C F H locs lc hl hP hD hK hS)
  · rw [h4]; exact h5
  · rw [h4]; exact fun _ z => z
theorem C_ast {a q0 t0 n : Nat} {cA : ClassId} {f : Nat → Int32} {i x : Int32} {ws2 : va_W} (hd : decode (mB M) pc = .ok (.iastore, 1)) (he : ws[q0]? = some (a, .inl (cA, n, .inl f))) (ht : tys[t0]? = some (cA, .int)) (hin : vp_in i n) (h2 : ws.set q0 (a, .inl (cA, n, .inl (upd f i.toNatClampNeg x))) = ws2) (k : Rc M h0 (pc + 1) st ws2 tys cells slots G) : Rc M h0 pc (.int x :: .int i :: .ref a :: st) ws tys cells slots G := by
  intro l p e s m args below meth c' D A Q C F H locs lc hl hP hD hK hS
  subst h2
  exact va_iast C.1 C.2.1 hK hP hD hS q0 t0 he ht hin hd (fun H1 locs1 hP1 hD1 hS1 => k l p e s m args below meth c' D A Q C F H1 locs1 lc hl hP1 hD1 hK hS1)
end CRules
/-- a constructor's contract: from the new object alone, to a world for which G holds -/
def Ec (M : aM) (ci : Nat) (fs0 : List Value) (G : Nat → va_W → aTy → Prop) : Prop :=
  ∀ (l : Launch) (D : va_G) (h0 sz : Nat), Met l (mY M) (Cond.code (mY M) (mB M) (mL M) (mR M) :: aT) (mRm M)
    (va_Pc [.ref h0] (fun U => U.heap.size = sz ∧ va_P D vwCl [(h0, .inr (ci, fs0))] U.heap ∧ va_K D vwCl [] U ∧ va_D (fun _ => True) [(h0, .inr (ci, fs0))] ∧ ∀ w ∈ nws, va_Nw w U))
    (fun _ st oc t => oc = .returned none ∧ (∃ ws tys, G h0 ws tys ∧ va_P D vwCl ws t.heap ∧ va_K D vwCl tys t ∧ va_D (va_A [(h0, .inr (ci, fs0))] sz) ws) ∧ va_F (va_A [(h0, .inr (ci, fs0))] sz) st t) (mRm M).cells (mRm M).slots (va_A [(h0, .inr (ci, fs0))] sz)
/-- what a constructor's record must hold -/
def cOk (M : aM) : Prop := Cond.code (mY M) (mB M) (mL M) none ∈ aT ∧ mR M = none ∧ (mY M).cls = mO M ∧ plainName (mO M) = true ∧ ((mO M) ≠ "java/lang/invoke/MethodHandle" ∧ (mO M) ≠ "java/lang/invoke/VarHandle") ∧ (parseMethodDescriptor (mY M).desc).map (fun d => d.parameters.length) = some 0 ∧ Cond.initialized (mO M) ∈ aT ∧ (mY M).name = "<init>" ∧ Cond.instanceMethod (mY M) ∈ aT ∧ mL M = 1
theorem Ec_of {M : aM} {ci : Nat} {fs0 : List Value} {G : Nat → va_W → aTy → Prop} (hok : cOk M) (k : ∀ h0, Rc M h0 0 [] [(h0, .inr (ci, fs0))] [] 0 0 (G h0)) : Ec M ci fs0 G := by
  intro l D h0 sz
  obtain ⟨hcd, hmr, hcl, hpn, -, -, -, hnm, -, hm1⟩ := hok
  refine Met.ofW (cc := mB M) (maxL := mL M) (ret := mR M) (by rw [hcl]; exact hpn) rfl ?_
  intro p e s m args below meth c s₁ B hml hv
  obtain ⟨rfl, hsz, hP, hK, hD0, hN⟩ := hv
  have hts : ∀ w ∈ aT, w.before [Value.ref h0].toArray s = true := fun w hw => atoms_spec (ws := Cond.code (mY M) (mB M) (mL M) (mR M) :: aT) B.pre w (List.mem_cons_of_mem _ hw)
  have hown : s.vm.findClass (mO M) = some m.cls := by rw [← hcl]; exact findClass_of_methodNamed B.named
  have hr := B.returns
  have hlocks := B.notSynchronized
  have hin : meth.name = "<init>" := (name_of_methodNamed B.named B.method).1.trans hnm
  subst hsz
  have hl := lv_entry [Value.ref h0] (n := mL M) (by rw [hm1]; exact Nat.le_refl 1)
  rw [lg_entry_eq]
  have hD := hD0.self (sz := s.heap.size)
  refine k h0 l p e s m _ below meth c D (va_A [(h0, .inr (ci, fs0))] s.heap.size) _ ⟨B.exec, B.bytes, hml, hown, hts, fun q hq => Or.inr hq, hN, Or.inl hin⟩ (fun pc' ls' H locs ws' tys' hd hG hP2 hD2 hK2 hS2 => ?_) s.heap [] _ hl hP hD hK va_S.rf
  exact W.vret B.exec B.bytes (hr.trans hmr) (fun t ht hW => ⟨rfl, ⟨ws', tys', hG, by rw [ht]; exact hP2, va_K.moved hW.alike hK2, hD2⟩, hS2.F ht⟩) hS2.2.2 hd
section CCall
variable {M : aM} {h0 pc cells slots : Nat} {st : List Value} {ws : va_W} {tys : aTy} {G : va_W → aTy → Prop}
theorem C_back {p : Program} {l : Launch} {e : Env} {s : State} {m : MethodId} {args : Array Value} {below : List Frame} {meth : Method} {c : Code} {D : va_G} {A : Nat → Prop} {Q : State → Prop} {H : Heap} {locs : List Loc} {lc : Array Slot} {st0 : List Value} {R : Room} {wr wc : va_W} {mc ms : Nat} {G' : va_W → aTy → Prop} (isC isR : List Nat)
    (hC : isC.map (fun i => ws[i]?) = wc.map some) (hR : isR.map (fun i => ws[i]?) = wr.map some) (hn : va_nd isR = true) (hdis : ∀ i ∈ isR, i ∉ isC)
    (hP : va_P D vwCl ws H) (hD : va_D A ws) (hA : ∀ q, s.heap.size ≤ q → A q) (hK : va_K D vwCl tys s) (hS : va_S A s.heap H locs)
    (run : va_Run p l e R s m args below meth c H locs cells slots mc ms (F0 m pc lc st0) st (fun st oc t => oc = .returned none ∧ (∃ ws tys, G' ws tys ∧ va_P D vwCl ws t.heap ∧ va_K D vwCl tys t ∧ va_D (va_A wc H.size) ws) ∧ va_F (va_A wc H.size) st t) (va_A wc H.size))
    (k : ∀ (w1 : va_W) (t1 : aTy), G' w1 t1 → ∀ (H1 : Heap) (locs1 : List Loc), va_P D vwCl (wr ++ w1) H1 → va_D A (wr ++ w1) → va_K D vwCl (tys ++ t1) s → va_S A s.heap H1 locs1 → W p l e R s m args below meth c H1 locs1 (cells + mc) (slots + ms) Q (F0 m (pc + 3) lc st)) : W p l e R s m args below meth c H locs cells slots Q (F0 m pc lc st0) := by
  have hf := va_free hD hS hA isC hC
  intro T hT X
  obtain ⟨v, st₀, t, T', L, h0, X', hL, e1, e2, ⟨hv, ⟨w1, t1, hG, hP1, hK1, hD1⟩, hz, hk⟩, stp⟩ := run T hT X
  cases hv
  rw [h0] at hz hk
  have hS1 : va_S A s.heap T'.heap (locs ++ L) := ⟨Nat.le_trans hS.1 (by rw [e1]; exact hz), fun q q1 q2 => by rw [e1, hk q (Nat.lt_of_lt_of_le q1 hS.1) (fun z => q2 (hf q z))]; exact hS.2.1 q q1 q2, fun q hq => by
    rcases List.mem_append.mp hq with z | z
    · exact hS.2.2 q z
    · exact hf _ (hL q z)⟩
  obtain ⟨hPj, hDj⟩ := va_join (H1 := T'.heap) hP hD isC isR hC hR hn hdis (fun q q1 q2 => by rw [e1]; exact hk q q1 q2) hf (by rw [e1]; exact hP1) hD1
  have hal : t.vm.Alike s.vm := by
    have := X'.warmed.alike
    rw [e2] at this
    exact this.symm
  obtain ⟨t2, a1, b1⟩ := k w1 t1 hG T'.heap (locs ++ L) hPj hDj (hK.app (va_K.moved hal hK1)) hS1 T' rfl X'
  exact ⟨t2, stp t2 a1, b1⟩
theorem C_pre {D : va_G} {sz h0 ci : Nat} {fs0 : List Value} : FrameBlind (va_Pc [.ref h0] (fun U => U.heap.size = sz ∧ va_P D vwCl [(h0, .inr (ci, fs0))] U.heap ∧ va_K D vwCl [] U ∧ va_D (fun _ => True) [(h0, .inr (ci, fs0))] ∧ ∀ w ∈ nws, va_Nw w U)) :=
  fun a U g mk q => by obtain ⟨q0, q1, qP, qK, qD, qN⟩ := q; exact ⟨q0, q1, qP, va_K.moved (u := U) (U := U.calling g mk a) (Vm.Alike.refl U.vm) qK, qD, nws_same (u := U) (U := U.calling g mk a) rfl qN⟩
/-- a nest mate's constructor is called -/
theorem C_ctorN {M' : aM} {idx ci q : Nat} {fs0 : List Value} {G' : Nat → va_W → aTy → Prop} {wr : va_W} (isC isR : List Nat) (hd : decode (mB M) pc = .ok (.invokespecial idx, 3)) (hok : cOk M') (hro : aRo M M') (hlk : Cond.methodLinkNest (mO M) idx (mY M') "WeatherHand" ∈ nws) (hE : Ec M' ci fs0 G')
    (hC : isC.map (fun i => ws[i]?) = [(q, .inr (ci, fs0))].map some) (hR : isR.map (fun i => ws[i]?) = wr.map some) (hn : va_nd isR = true) (hdis : ∀ i ∈ isR, i ∉ isC) (hw : (st.map fun v => v.category).sum ≤ 8) (h1 : cells + (mRm M').cells ≤ (mRm M).cells) (h2 : slots + (mRm M').slots ≤ (mRm M).slots)
    (k : ∀ w1 t1, G' q w1 t1 → Rc M h0 (pc + 3) st (wr ++ w1) (tys ++ t1) (cells + (mRm M').cells) (slots + (mRm M').slots) G) : Rc M h0 pc (.ref q :: st) ws tys cells slots G := by
  intro l p e s m args below meth c D A Q C F H locs lc hl hP hD hK hS
  obtain ⟨hcd, hmr, hcl, hpn, hmh, hnp, hini, hnm, hins, hm1⟩ := hok
  have hts := C.2.2.2.2.1
  have hcd2 : Cond.code (mY M') (mB M') (mL M') (mR M') ∈ aT := by rw [hmr]; exact hcd
  refine C_back isC isR hC hR hn hdis hP hD C.2.2.2.2.2.1 hK hS ?_ (fun w1 t1 hG H1 locs1 hP1 hD1 hK1 hS1 => k w1 t1 hG l p e s m args below meth c D A Q C F H1 locs1 lc hl hP1 hD1 hK1 hS1)
  have hPc : va_P D vwCl [(q, .inr (ci, fs0))] H := fun j x hx => by
    have h9 : (isC.map (fun i => ws[i]?))[j]? = some (some x) := by rw [hC, List.getElem?_map, hx]; rfl
    rw [List.getElem?_map] at h9
    cases hi : isC[j]? with
    | none => rw [hi] at h9; cases h9
    | some i => rw [hi] at h9; exact hP i x (Option.some.inj h9)
  refine va_runIN (host := "WeatherHand") (As := []) (bytes := mB M') (maxL := mL M') (n := 0) (index := idx) (b := q) ⟨C.1, C.2.1, C.2.2.1, C.2.2.2.1, hts⟩ (hE l D q H.size) ⟨va_cnB 0 hts (goodTbl hcd2) (by rw [hmr]) rfl rfl (C.2.2.2.2.2.2.1 _ hlk) (by rw [hcl]; exact hts _ hini) ⟨by rw [hcl]; exact hmh.1, by rw [hcl]; exact hmh.2, hnp⟩ hro, hnm, hts _ hins⟩ ⟨C_pre, fun U hU hW => ⟨rfl, by rw [hU], by rw [hU]; exact hPc, va_K.moved hW.alike (hK.sub (tys' := []) [] rfl), ⟨fun i j x y hx hy _ => by
    have a1 : i < 1 := (List.getElem?_eq_some_iff.mp hx).1
    have a2 : j < 1 := (List.getElem?_eq_some_iff.mp hy).1
    omega, fun _ _ _ => trivial⟩, nws_warm hW C.2.2.2.2.2.2.1⟩⟩ rfl rfl hl.1 rfl (lv_room hw) hd ⟨h1, h2⟩
theorem C_ctor {M' : aM} {idx ci q : Nat} {fs0 : List Value} {G' : Nat → va_W → aTy → Prop} {wr : va_W} (isC isR : List Nat) (hd : decode (mB M) pc = .ok (.invokespecial idx, 3)) (hok : cOk M') (hro : aRo M M') (hlk : Cond.methodLink (mO M) idx (mY M') ∈ aT) (hE : Ec M' ci fs0 G')
    (hC : isC.map (fun i => ws[i]?) = [(q, .inr (ci, fs0))].map some) (hR : isR.map (fun i => ws[i]?) = wr.map some) (hn : va_nd isR = true) (hdis : ∀ i ∈ isR, i ∉ isC) (hw : (st.map fun v => v.category).sum ≤ 8) (h1 : cells + (mRm M').cells ≤ (mRm M).cells) (h2 : slots + (mRm M').slots ≤ (mRm M).slots)
    (k : ∀ w1 t1, G' q w1 t1 → Rc M h0 (pc + 3) st (wr ++ w1) (tys ++ t1) (cells + (mRm M').cells) (slots + (mRm M').slots) G) : Rc M h0 pc (.ref q :: st) ws tys cells slots G := by
  intro l p e s m args below meth c D A Q C F H locs lc hl hP hD hK hS
  obtain ⟨hcd, hmr, hcl, hpn, hmh, hnp, hini, hnm, hins, hm1⟩ := hok
  have hts := C.2.2.2.2.1
  have hcd2 : Cond.code (mY M') (mB M') (mL M') (mR M') ∈ aT := by rw [hmr]; exact hcd
  refine C_back isC isR hC hR hn hdis hP hD C.2.2.2.2.2.1 hK hS ?_ (fun w1 t1 hG H1 locs1 hP1 hD1 hK1 hS1 => k w1 t1 hG l p e s m args below meth c D A Q C F H1 locs1 lc hl hP1 hD1 hK1 hS1)
  have hPc : va_P D vwCl [(q, .inr (ci, fs0))] H := fun j x hx => by
    have h9 : (isC.map (fun i => ws[i]?))[j]? = some (some x) := by rw [hC, List.getElem?_map, hx]; rfl
    rw [List.getElem?_map] at h9
    cases hi : isC[j]? with
    | none => rw [hi] at h9; cases h9
    | some i => rw [hi] at h9; exact hP i x (Option.some.inj h9)
  refine va_runI (As := []) (bytes := mB M') (maxL := mL M') (n := 0) (index := idx) (b := q) ⟨C.1, C.2.1, C.2.2.1, C.2.2.2.1, hts⟩ (hE l D q H.size) ⟨callB_of 0 hts (goodTbl hcd2) (by rw [hmr]) rfl rfl (by rw [hcl]; exact hts _ hini) (hts _ hlk) ⟨by rw [hcl]; exact hmh.1, by rw [hcl]; exact hmh.2, hnp⟩ hro, hnm, hts _ hins⟩ ⟨C_pre, fun U hU hW => ⟨rfl, by rw [hU], by rw [hU]; exact hPc, va_K.moved hW.alike (hK.sub (tys' := []) [] rfl), ⟨fun i j x y hx hy _ => by
    have a1 : i < 1 := (List.getElem?_eq_some_iff.mp hx).1
    have a2 : j < 1 := (List.getElem?_eq_some_iff.mp hy).1
    omega, fun _ _ _ => trivial⟩, nws_warm hW C.2.2.2.2.2.2.1⟩⟩ rfl rfl hl.1 rfl (lv_room hw) hd ⟨h1, h2⟩
end CCall
