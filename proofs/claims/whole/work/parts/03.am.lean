/-! THE ABSTRACT MACHINE: all cells of the run (73 of them) as one heap of ints; a method's run over it (Rn), a call (Ev); a rule an instruction. Nothing here speaks of one method. -/
/-- the tables' words that a callee may be handed on -/
def aT : List Cond := lw_tbl.filter goodWord
theorem aT_in {w : Cond} (h : w ∈ lw_tbl) (g : goodWord w = true) : w ∈ aT := List.mem_filter.mpr ⟨h, g⟩
theorem aT_lw {w : Cond} (h : w ∈ aT) : w ∈ lw_tbl := (List.mem_filter.mp h).1
theorem aT_ok {w : Cond} (h : w ∈ aT) : goodWord w = true := (List.mem_filter.mp h).2
/-- the one link between nest mates: Valley calls isHour -/
def nW : Cond := .methodLinkNest RX6 89 yX7_isHour "WeatherHand"
abbrev aH : Type := Nat → Nat → Int32
abbrev aM : Type := MethodName × ByteArray × Nat × Option FieldType × String × Room
abbrev mY (M : aM) : MethodName := M.1
abbrev mB (M : aM) : ByteArray := M.2.1
abbrev mL (M : aM) : Nat := M.2.2.1
abbrev mR (M : aM) : Option FieldType := M.2.2.2.1
abbrev mO (M : aM) : String := M.2.2.2.2.1
abbrev mRm (M : aM) : Room := M.2.2.2.2.2
/-- the cells in the order in which they are made: (class, or 100 ints, 101 booleans; fields or length) -/
def kT : List (Nat × Nat) := [(7, 12), (5, 5), (100, 230), (0, 7), (100, 4), (100, 48), (100, 48), (100, 48), (0, 7), (100, 4), (100, 48), (100, 48), (100, 48), (0, 7), (100, 4), (100, 48), (100, 48), (100, 48), (3, 7), (100, 30), (100, 30), (100, 30), (100, 30), (100, 30), (2, 4), (100, 20), (100, 20), (100, 20), (1, 5), (100, 384), (100, 384), (100, 384), (100, 1440), (4, 3), (100, 16), (100, 4), (6, 15), (100, 8), (100, 4), (100, 4), (100, 4), (100, 4), (100, 4), (100, 4), (100, 384), (6, 15), (100, 8), (100, 4), (100, 4), (100, 4), (100, 4), (100, 4), (100, 4), (100, 384), (8, 33), (100, 1782), (101, 2), (100, 6), (100, 16), (100, 8), (100, 8), (100, 8), (100, 8), (100, 8), (100, 8), (100, 230), (100, 4), (101, 384), (100, 10000), (100, 16), (100, 20), (100, 20), (100, 20)]
def kC (k : Nat) : Nat := (kT.getD k (200, 0)).1
def kN (k : Nat) : Nat := (kT.getD k (200, 0)).2
/-- a field: 0 a number, 1 a final reference, 2 a reference that changes -/
def fkT : List (List Nat) := [[1, 1, 1, 1, 0, 0, 0], [1, 1, 1, 1, 0], [1, 1, 1, 0], [1, 1, 1, 1, 1, 0, 0], [1, 0, 0], [1, 0, 0, 0, 0], [0, 0, 0, 0, 0, 0, 0, 1, 1, 1, 1, 1, 1, 1, 1], [1, 1, 1, 1, 1, 1, 1, 1, 1, 2, 2, 0], [1, 1, 0, 0, 1, 1, 0, 0, 1, 1, 1, 0, 0, 1, 1, 1, 0, 0, 1, 0, 0, 0, 0, 0, 1, 0, 1, 1, 1, 1, 1, 1, 0]]
/-- where a final reference points, from its object on -/
def roT : List (List Nat) := [[1, 2, 3, 4], [1, 2, 3, 4], [1, 2, 3], [1, 2, 3, 4, 5], [1], [1], [0, 0, 0, 0, 0, 0, 0, 1, 2, 3, 4, 5, 6, 7, 8], [1, 3, 8, 13, 18, 24, 28, 33, 35], [1, 2, 0, 0, 3, 4, 0, 0, 5, 6, 7, 0, 0, 8, 9, 10, 0, 0, 11, 0, 0, 0, 0, 0, 12, 0, 13, 14, 15, 16, 17, 18, 0]]
def fk (c j : Nat) : Nat := (fkT.getD c []).getD j 0
def ro (c j : Nat) : Nat := (roT.getD c []).getD j 0
def fv (ad : Nat → Nat) (k c j : Nat) (x : Int32) : Value := if fk c j = 0 then .int x else if fk c j = 1 then .ref (ad (k + ro c j)) else .ref (ad x.toNatClampNeg)
def fl (ad : Nat → Nat) (k : Nat) (f : Nat → Int32) : List Value := (List.range (kN k)).map (fun j => fv ad k (kC k) j (f j))
def ce (ad : Nat → Nat) (cA : Nat → ClassId) (h : aH) (k : Nat) : va_E := if kC k < 100 then .inr (kC k, fl ad k (h k)) else .inl (cA k, kN k, .inl (h k))
def wd (ad : Nat → Nat) (cA : Nat → ClassId) (h : aH) : va_W := (List.range 73).map (fun k => (ad k, ce ad cA h k))
def tyw (cA : Nat → ClassId) : List (ClassId × FieldType) := (List.range 73).map (fun k => (cA k, if kC k = 101 then .boolean else .int))
def aU (h : aH) (k j : Nat) (x : Int32) : aH := fun q => if q = k then upd (h k) j x else h q
def aV (h : aH) (k : Nat) (f : Nat → Int32) : aH := fun q => if q = k then f else h q
def lf (ad : Nat → Nat) (v : Value) : Value := match v with
  | .ref r => .ref (ad r)
  | v => v
theorem lf_cat (ad : Nat → Nat) (v : Value) : (lf ad v).category = v.category := by cases v <;> rfl
theorem lf_cats (ad : Nat → Nat) (st : List Value) : ((st.map (lf ad)).map fun v => v.category) = st.map fun v => v.category := by
  induction st with
  | nil => rfl
  | cons v t ih => simp only [List.map_cons, ih, lf_cat]
def lsR (ad : Nat → Nat) (L : List Value) (nL : Nat) (ls : Array Slot) : Prop := ls.size = nL ∧ lv_wf ls ∧ ∀ (i : Nat) (v : Value), L[i]? = some v → v ≠ .null → ls[i]? = some (.val (lf ad v))
theorem kC_lt {k : Nat} (h : kC k ≠ 200) : k < 73 := by
  rcases Nat.lt_or_ge k 73 with q | q
  · exact q
  · exact absurd (by unfold kC; rw [List.getD_eq_getElem?_getD, List.getElem?_eq_none (by show 73 ≤ k; exact q)]; rfl) h
theorem wd_at {ad : Nat → Nat} {cA : Nat → ClassId} {h : aH} {k : Nat} (hk : k < 73) : (wd ad cA h)[k]? = some (ad k, ce ad cA h k) := by
  unfold wd
  rw [List.getElem?_map, List.getElem?_range hk]
  rfl
theorem wd_obj {ad : Nat → Nat} {cA : Nat → ClassId} {h : aH} {k c : Nat} (hk : kC k = c) (hc : c < 100) : (wd ad cA h)[k]? = some (ad k, .inr (c, fl ad k (h k))) := by
  rw [wd_at (kC_lt (by omega))]
  unfold ce
  rw [if_pos (by omega), hk]
theorem wd_arr {ad : Nat → Nat} {cA : Nat → ClassId} {h : aH} {k : Nat} (hk : kC k = 100 ∨ kC k = 101) : (wd ad cA h)[k]? = some (ad k, .inl (cA k, kN k, .inl (h k))) := by
  rw [wd_at (kC_lt (by omega))]
  unfold ce
  rw [if_neg (by omega)]
theorem tyw_at {cA : Nat → ClassId} {k : Nat} (hk : k < 73) : (tyw cA)[k]? = some (cA k, if kC k = 101 then .boolean else .int) := by
  unfold tyw
  rw [List.getElem?_map, List.getElem?_range hk]
  rfl
theorem fl_at {ad : Nat → Nat} {k j : Nat} {f : Nat → Int32} (hj : j < kN k) : (fl ad k f)[j]? = some (fv ad k (kC k) j (f j)) := by
  unfold fl
  rw [List.getElem?_map, List.getElem?_range hj]
  rfl
theorem fl_len {ad : Nat → Nat} {k : Nat} {f : Nat → Int32} : (fl ad k f).length = kN k := by simp [fl]
theorem wd_len {ad : Nat → Nat} {cA : Nat → ClassId} {h : aH} : (wd ad cA h).length = 73 := by simp [wd]
/-- a cell is put anew -/
theorem wd_set {ad : Nat → Nat} {cA : Nat → ClassId} {h h2 : aH} {k : Nat} (hk : k < 73) (ho : ∀ q, q ≠ k → h2 q = h q) : (wd ad cA h).set k (ad k, ce ad cA h2 k) = wd ad cA h2 := by
  apply List.ext_getElem?
  intro i
  rcases Nat.lt_or_ge i 73 with q | q
  · rw [List.getElem?_set, wd_at (h := h2) q]
    by_cases e : k = i
    · subst e
      rw [if_pos rfl, if_pos (by rw [wd_len]; exact hk)]
    · rw [if_neg e, wd_at q]
      unfold ce
      rw [ho i (fun z => e z.symm)]
  · rw [List.getElem?_eq_none (by rw [List.length_set, wd_len]; exact q), List.getElem?_eq_none (by rw [wd_len]; exact q)]
theorem fl_set {ad : Nat → Nat} {k j : Nat} {f : Nat → Int32} {x : Int32} (hj : j < kN k) : (fl ad k f).set j (fv ad k (kC k) j x) = fl ad k (upd f j x) := by
  apply List.ext_getElem?
  intro i
  rcases Nat.lt_or_ge i (kN k) with q | q
  · rw [List.getElem?_set, fl_at (f := upd f j x) q]
    by_cases e : j = i
    · subst e
      rw [if_pos rfl, if_pos (by rw [fl_len]; exact hj)]
      simp [upd]
    · rw [if_neg e, fl_at q]
      have : upd f j x i = f i := by simp [upd]; intro z; exact absurd z.symm e
      rw [this]
  · rw [List.getElem?_eq_none (by rw [List.length_set, fl_len]; exact q), List.getElem?_eq_none (by rw [fl_len]; exact q)]
theorem aU_same {h : aH} {k j : Nat} {x : Int32} : aU h k j x k = upd (h k) j x := by simp [aU]
theorem aU_ne {h : aH} {k j q : Nat} {x : Int32} (hq : q ≠ k) : aU h k j x q = h q := by simp [aU, hq]
theorem wd_put {ad : Nat → Nat} {cA : Nat → ClassId} {h : aH} {k c j : Nat} {x : Int32} (hk : kC k = c) (hc : c < 100) (hj : j < kN k) : (wd ad cA h).set k (ad k, .inr (c, (fl ad k (h k)).set j (fv ad k c j x))) = wd ad cA (aU h k j x) := by
  have h1 : ce ad cA (aU h k j x) k = .inr (c, (fl ad k (h k)).set j (fv ad k c j x)) := by
    unfold ce
    rw [if_pos (by omega), aU_same, ← hk, fl_set hj]
  rw [← h1]
  exact wd_set (kC_lt (by omega)) (fun q hq => aU_ne hq)
theorem wd_ast {ad : Nat → Nat} {cA : Nat → ClassId} {h : aH} {k j : Nat} {x : Int32} (hk : kC k = 100 ∨ kC k = 101) : (wd ad cA h).set k (ad k, .inl (cA k, kN k, .inl (upd (h k) j x))) = wd ad cA (aU h k j x) := by
  have h1 : ce ad cA (aU h k j x) k = .inl (cA k, kN k, .inl (upd (h k) j x)) := by
    unfold ce
    rw [if_neg (by omega), aU_same]
  rw [← h1]
  exact wd_set (kC_lt (by omega)) (fun q hq => aU_ne hq)
theorem wd_arv {ad : Nat → Nat} {cA : Nat → ClassId} {h : aH} {k : Nat} {f : Nat → Int32} (hk : kC k = 100 ∨ kC k = 101) : (wd ad cA h).set k (ad k, .inl (cA k, kN k, .inl f)) = wd ad cA (aV h k f) := by
  have h1 : ce ad cA (aV h k f) k = .inl (cA k, kN k, .inl f) := by
    unfold ce aV
    rw [if_neg (by omega), if_pos rfl]
  rw [← h1]
  exact wd_set (kC_lt (by omega)) (fun q hq => by simp [aV, hq])
/-- where a run of a method stands -/
def cX (D : va_G) (ad : Nat → Nat) (cA : Nat → ClassId) (A : Nat → Prop) (sp : Nat × (Nat → Int32)) (M : aM) (p : Program) (s : State) (m : MethodId) (args : Array Value) (c : Code) (cells slots : Nat) : Prop :=
  p.tables.exec = Jvm.exec ∧ c.code = mB M ∧ c.maxLocals = mL M ∧ s.vm.findClass (mO M) = some m.cls ∧ (∀ w ∈ aT, w.before args s = true) ∧ va_K D vwCl (tyw cA) s ∧ (∀ h, va_D A (wd ad cA h)) ∧ (∀ q, s.heap.size ≤ q → A q) ∧ (cells ≤ (mRm M).cells ∧ slots ≤ (mRm M).slots) ∧ (mO M = RL → va_X (ad 73) sp.1 sp.2 s s.heap ∧ ad 73 < s.heap.size ∧ ¬ A (ad 73)) ∧ va_Nw nW s
def rI (o : Option Value) : Instr := match o with
  | none => .return_
  | some (.ref _) => .areturn
  | some _ => .ireturn
def rOk (M : aM) (o : Option Value) : Prop := match o with
  | none => mR M = none
  | some (.int x) => mR M = some .int ∨ (mR M = some .boolean ∧ (x = 0 ∨ x = 1))
  | some (.ref _) => ∃ n, mR M = some (.object n)
  | some _ => False
/-- from pc, with these locals, this stack, this heap, the method returns o, and the heap is h2 then -/
def Rn (sp : Nat × (Nat → Int32)) (M : aM) (pc : Nat) (ls st : List Value) (h : aH) (o : Option Value) (h2 : aH) : Prop :=
  ∀ (l : Launch) (p : Program) (e : Env) (s : State) (m : MethodId) (args : Array Value) (below : List Frame) (meth : Method) (c : Code) (D : va_G) (ad : Nat → Nat) (cA : Nat → ClassId) (A : Nat → Prop) (cells slots : Nat) (Q : State → Prop),
    cX D ad cA A sp M p s m args c cells slots →
    (∀ (pc' : Nat) (ls' : Array Slot) (H : Heap) (locs : List Loc), decode (mB M) pc' = .ok (rI o, 1) → rOk M o → va_P D vwCl (wd ad cA h2) H → va_S A s.heap H locs → W p l e (mRm M) s m args below meth c H locs cells slots Q (F0 m pc' ls' (o.toList.map (lf ad)))) →
    ∀ (H : Heap) (locs : List Loc) (lc : Array Slot), lsR ad ls (mL M) lc → va_P D vwCl (wd ad cA h) H → va_S A s.heap H locs → W p l e (mRm M) s m args below meth c H locs cells slots Q (F0 m pc lc (st.map (lf ad)))
