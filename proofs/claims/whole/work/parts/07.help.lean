/-! what the printed functions and their rows use -/
def bn {α β : Type} (x : Option α) (f : α → Option β) : Option β := match x with
  | none => none
  | some a => f a
theorem bn_some {α β : Type} {x : Option α} {f : α → Option β} {b : β} (H : bn x f = some b) : ∃ a, x = some a ∧ f a = some b := by
  cases x with
  | none => cases H
  | some a => exact ⟨a, rfl, H⟩
theorem it_split {α : Type} {c : Prop} [Decidable c] {A B r : α} (H : (if c then A else B) = r) : (c ∧ A = r) ∨ (¬ c ∧ B = r) := by
  by_cases h : c
  · rw [if_pos h] at H; exact Or.inl ⟨h, H⟩
  · rw [if_neg h] at H; exact Or.inr ⟨h, H⟩
theorem it_some {α : Type} {c : Prop} [Decidable c] {A : Option α} {r : α} (H : (if c then A else none) = some r) : c ∧ A = some r := by
  by_cases h : c
  · rw [if_pos h] at H; exact ⟨h, H⟩
  · rw [if_neg h] at H; cases H
def bn2 {α β γ : Type} (x : Option (α × β)) (f : α → β → Option γ) : Option γ := match x with
  | none => none
  | some a => f a.1 a.2
theorem bn2_some {α β γ : Type} {x : Option (α × β)} {f : α → β → Option γ} {c : γ} (H : bn2 x f = some c) : ∃ a b, x = some (a, b) ∧ f a b = some c := by
  cases x with
  | none => cases H
  | some a => exact ⟨a.1, a.2, rfl, H⟩
abbrev tn (x : Int32) : Nat := x.toNatClampNeg
/-- the first n places are copied -/
def cpy (f g : Nat → Int32) (n : Nat) : Nat → Int32 := fun k => if k < n then f k else g k
theorem cpy_va (f g : Nat → Int32) (n : Nat) : va_cpy f g 0 0 n = cpy f g n := by
  funext k
  simp [va_cpy, cpy]
/-- an index is within -/
def ck (i : Int32) (n : Nat) : Bool := decide (0 ≤ i.toInt ∧ i.toInt < n)
theorem ck_in {i : Int32} {n : Nat} (h : ck i n = true) : vp_in i n := vp_in_iff.mpr (of_decide_eq_true h)
/-- what is left over -/
def rmd (x y : Int32) : Int32 := x - x / y * y
def rmdL (x y : Int64) : Int64 := x - x / y * y
def ush (x y : Int32) : Int32 := (x.toUInt32 >>> (y.toUInt32 &&& Int32.toUInt32 31)).toInt32
def bi (b : Bool) : Int32 := if b then 1 else 0
theorem bi_01 (b : Bool) : bi b = 0 ∨ bi b = 1 := by cases b <;> simp [bi]
/-- an int as a boolean -/
def ib (x : Int32) : Option Bool := if x = 0 then some false else if x = 1 then some true else none
theorem ib_some {x : Int32} {b : Bool} (h : ib x = some b) : x = bi b := by
  unfold ib at h
  by_cases h0 : x = 0
  · rw [if_pos h0] at h; cases h; exact h0
  · rw [if_neg h0] at h
    by_cases h1 : x = 1
    · rw [if_pos h1] at h; cases h; exact h1
    · rw [if_neg h1] at h; cases h
/-- a field that holds a Valley -/
def vl (x : Int32) : Option Nat := if kC x.toNatClampNeg = 6 then some x.toNatClampNeg else none
theorem vl_some {x : Int32} {v : Nat} (h : vl x = some v) : x.toNatClampNeg = v ∧ kC v = 6 := by
  unfold vl at h
  by_cases h0 : kC x.toNatClampNeg = 6
  · rw [if_pos h0] at h; cases h; exact ⟨rfl, h0⟩
  · rw [if_neg h0] at h; cases h
theorem kxA_1 : ∀ a, a < 73 → kC a = 0 → kC (a + 1) = 100 ∧ kN (a + 1) = 4 := by decide +kernel
theorem kA_1 {a : Nat} (h : kC a = 0) : kC (a + 1) = 100 := (kxA_1 a (kC_lt (by omega)) h).1
theorem nA_1 {a : Nat} (h : kC a = 0) : kN (a + 1) = 4 := (kxA_1 a (kC_lt (by omega)) h).2
theorem kxA_2 : ∀ a, a < 73 → kC a = 0 → kC (a + 2) = 100 ∧ kN (a + 2) = 48 := by decide +kernel
theorem kA_2 {a : Nat} (h : kC a = 0) : kC (a + 2) = 100 := (kxA_2 a (kC_lt (by omega)) h).1
theorem nA_2 {a : Nat} (h : kC a = 0) : kN (a + 2) = 48 := (kxA_2 a (kC_lt (by omega)) h).2
theorem kxA_3 : ∀ a, a < 73 → kC a = 0 → kC (a + 3) = 100 ∧ kN (a + 3) = 48 := by decide +kernel
theorem kA_3 {a : Nat} (h : kC a = 0) : kC (a + 3) = 100 := (kxA_3 a (kC_lt (by omega)) h).1
theorem nA_3 {a : Nat} (h : kC a = 0) : kN (a + 3) = 48 := (kxA_3 a (kC_lt (by omega)) h).2
theorem kxA_4 : ∀ a, a < 73 → kC a = 0 → kC (a + 4) = 100 ∧ kN (a + 4) = 48 := by decide +kernel
theorem kA_4 {a : Nat} (h : kC a = 0) : kC (a + 4) = 100 := (kxA_4 a (kC_lt (by omega)) h).1
theorem nA_4 {a : Nat} (h : kC a = 0) : kN (a + 4) = 48 := (kxA_4 a (kC_lt (by omega)) h).2
theorem kxV_1 : ∀ a, a < 73 → kC a = 6 → kC (a + 1) = 100 ∧ kN (a + 1) = 8 := by decide +kernel
theorem kV_1 {a : Nat} (h : kC a = 6) : kC (a + 1) = 100 := (kxV_1 a (kC_lt (by omega)) h).1
theorem nV_1 {a : Nat} (h : kC a = 6) : kN (a + 1) = 8 := (kxV_1 a (kC_lt (by omega)) h).2
theorem kxV_2 : ∀ a, a < 73 → kC a = 6 → kC (a + 2) = 100 ∧ kN (a + 2) = 4 := by decide +kernel
theorem kV_2 {a : Nat} (h : kC a = 6) : kC (a + 2) = 100 := (kxV_2 a (kC_lt (by omega)) h).1
theorem nV_2 {a : Nat} (h : kC a = 6) : kN (a + 2) = 4 := (kxV_2 a (kC_lt (by omega)) h).2
theorem kxV_3 : ∀ a, a < 73 → kC a = 6 → kC (a + 3) = 100 ∧ kN (a + 3) = 4 := by decide +kernel
theorem kV_3 {a : Nat} (h : kC a = 6) : kC (a + 3) = 100 := (kxV_3 a (kC_lt (by omega)) h).1
theorem nV_3 {a : Nat} (h : kC a = 6) : kN (a + 3) = 4 := (kxV_3 a (kC_lt (by omega)) h).2
theorem kxV_4 : ∀ a, a < 73 → kC a = 6 → kC (a + 4) = 100 ∧ kN (a + 4) = 4 := by decide +kernel
theorem kV_4 {a : Nat} (h : kC a = 6) : kC (a + 4) = 100 := (kxV_4 a (kC_lt (by omega)) h).1
theorem nV_4 {a : Nat} (h : kC a = 6) : kN (a + 4) = 4 := (kxV_4 a (kC_lt (by omega)) h).2
theorem kxV_5 : ∀ a, a < 73 → kC a = 6 → kC (a + 5) = 100 ∧ kN (a + 5) = 4 := by decide +kernel
theorem kV_5 {a : Nat} (h : kC a = 6) : kC (a + 5) = 100 := (kxV_5 a (kC_lt (by omega)) h).1
theorem nV_5 {a : Nat} (h : kC a = 6) : kN (a + 5) = 4 := (kxV_5 a (kC_lt (by omega)) h).2
theorem kxV_6 : ∀ a, a < 73 → kC a = 6 → kC (a + 6) = 100 ∧ kN (a + 6) = 4 := by decide +kernel
theorem kV_6 {a : Nat} (h : kC a = 6) : kC (a + 6) = 100 := (kxV_6 a (kC_lt (by omega)) h).1
theorem nV_6 {a : Nat} (h : kC a = 6) : kN (a + 6) = 4 := (kxV_6 a (kC_lt (by omega)) h).2
theorem kxV_7 : ∀ a, a < 73 → kC a = 6 → kC (a + 7) = 100 ∧ kN (a + 7) = 4 := by decide +kernel
theorem kV_7 {a : Nat} (h : kC a = 6) : kC (a + 7) = 100 := (kxV_7 a (kC_lt (by omega)) h).1
theorem nV_7 {a : Nat} (h : kC a = 6) : kN (a + 7) = 4 := (kxV_7 a (kC_lt (by omega)) h).2
theorem kxV_8 : ∀ a, a < 73 → kC a = 6 → kC (a + 8) = 100 ∧ kN (a + 8) = 384 := by decide +kernel
theorem kV_8 {a : Nat} (h : kC a = 6) : kC (a + 8) = 100 := (kxV_8 a (kC_lt (by omega)) h).1
theorem nV_8 {a : Nat} (h : kC a = 6) : kN (a + 8) = 384 := (kxV_8 a (kC_lt (by omega)) h).2
section More
variable {sp : Nat × (Nat → Int32)} {M : aM} {pc : Nat} {ls ls2 st : List Value} {h h2 : aH} {o : Option Value}
theorem R_null {i : Nat} (hs : ls.set i .null = ls2) (k : Rn sp M pc ls2 st h o h2) : Rn sp M pc ls st h o h2 := by
  intro l p e s m args below meth c D ad cA A cells slots Q C F H locs lc hl hP hS
  refine k l p e s m args below meth c D ad cA A cells slots Q C F H locs lc ⟨hl.1, hl.2.1, fun j v hj hv => ?_⟩ hP hS
  rw [← hs, List.getElem?_set] at hj
  by_cases e : i = j
  · rw [if_pos e] at hj
    by_cases z : i < ls.length
    · rw [if_pos z] at hj; cases hj; exact absurd rfl hv
    · rw [if_neg z] at hj; cases hj
  · rw [if_neg e] at hj
    exact hl.2.2 j v hj hv
theorem R_istoreN {n : Fin 4} {i : Nat} {x : Int32} (hd : decode (mB M) pc = .ok (.istore_n n, 1)) (hn : (n : Nat) = i) (hi : i < mL M) (hc : ls.all (fun w => w.category == 1) = true) (hs : ls.set i (.int x) = ls2) (k : Rn sp M (pc + 1) ls2 st h o h2) : Rn sp M pc ls (.int x :: st) h o h2 := by
  subst hs; exact R_istore_n hd hn hi hc k
theorem R_istoreW {i : Nat} {x : Int32} (hd : decode (mB M) pc = .ok (.istore i, 2)) (hi : i < mL M) (hc : ls.all (fun w => w.category == 1) = true) (hs : ls.set i (.int x) = ls2) (k : Rn sp M (pc + 2) ls2 st h o h2) : Rn sp M pc ls (.int x :: st) h o h2 := by
  subst hs; exact R_istore hd hi hc k
theorem R_astoreN {n : Fin 4} {i x : Nat} (hd : decode (mB M) pc = .ok (.astore_n n, 1)) (hn : (n : Nat) = i) (hi : i < mL M) (hc : ls.all (fun w => w.category == 1) = true) (hs : ls.set i (.ref x) = ls2) (k : Rn sp M (pc + 1) ls2 st h o h2) : Rn sp M pc ls (.ref x :: st) h o h2 := by
  subst hs; exact R_astore_n hd hn hi hc k
theorem R_iincW {i : Nat} {n : Int} {x v : Int32} (hd : decode (mB M) pc = .ok (.iinc i n, 3)) (hx : ls[i]? = some (.int x)) (hv : x + Int32.ofInt n = v) (hi : i < mL M) (hc : ls.all (fun w => w.category == 1) = true) (hs : ls.set i (.int v) = ls2) (k : Rn sp M (pc + 3) ls2 st h o h2) : Rn sp M pc ls st h o h2 := by
  subst hs; exact R_iinc hd hx hv hi hc k
theorem R_getX {idx c j r : Nat} {ds : String} {fin : Bool} {x : Int32} (hd : decode (mB M) pc = .ok (.getfield idx, 3)) (hf : aF (mO M) idx c j ds fin) (hk : kC r = c) (ht : fk c j = 0) (hx : h r j = x) (k : Rn sp M (pc + 3) ls (.int x :: st) h o h2) : Rn sp M pc ls (.ref r :: st) h o h2 := by
  subst hx; exact R_getI hd hf hk ht k
theorem R_getW {idx c j r v : Nat} {ds : String} {fin : Bool} (hd : decode (mB M) pc = .ok (.getfield idx, 3)) (hf : aF (mO M) idx c j ds fin) (hk : kC r = c) (ht : fk c j = 2) (hv : (h r j).toNatClampNeg = v) (k : Rn sp M (pc + 3) ls (.ref v :: st) h o h2) : Rn sp M pc ls (.ref r :: st) h o h2 := by
  subst hv; exact R_getM hd hf hk ht k
theorem R_ildX {i x : Int32} {r n : Nat} (hd : decode (mB M) pc = .ok (.iaload, 1)) (hk : kC r = 100) (hn : kN r = n) (hin : vp_in i n) (hx : h r i.toNatClampNeg = x) (k : Rn sp M (pc + 1) ls (.int x :: st) h o h2) : Rn sp M pc ls (.int i :: .ref r :: st) h o h2 := by
  subst hx; exact R_iald hd hk hn hin k
theorem R_zldX {i x : Int32} {r n : Nat} (hd : decode (mB M) pc = .ok (.baload, 1)) (hk : kC r = 101) (hn : kN r = n) (hin : vp_in i n) (hx : h r i.toNatClampNeg = x) (k : Rn sp M (pc + 1) ls (.int x :: st) h o h2) : Rn sp M pc ls (.int i :: .ref r :: st) h o h2 := by
  subst hx; exact R_zald hd hk hn hin k
theorem R_iastX {i x : Int32} {r n j : Nat} (hd : decode (mB M) pc = .ok (.iastore, 1)) (hk : kC r = 100) (hn : kN r = n) (hin : vp_in i n) (hj : i.toNatClampNeg = j) (k : Rn sp M (pc + 1) ls st (aU h r j x) o h2) : Rn sp M pc ls (.int x :: .int i :: .ref r :: st) h o h2 := by
  subst hj; exact R_iast hd hk hn hin k
theorem R_zastX {i x : Int32} {r n j : Nat} (hd : decode (mB M) pc = .ok (.bastore, 1)) (hk : kC r = 101) (hn : kN r = n) (hin : vp_in i n) (hx : x = 0 ∨ x = 1) (hj : i.toNatClampNeg = j) (k : Rn sp M (pc + 1) ls st (aU h r j x) o h2) : Rn sp M pc ls (.int x :: .int i :: .ref r :: st) h o h2 := by
  subst hj; exact R_zast hd hk hn hin hx k
theorem R_iremX {x y : Int32} (hd : decode (mB M) pc = .ok (.irem, 1)) (hne : ¬ y = 0) (k : Rn sp M (pc + 1) ls (.int (rmd x y) :: st) h o h2) : Rn sp M pc ls (.int y :: .int x :: st) h o h2 := R_irem hd hne k
theorem R_lremX {x y : Int64} (hd : decode (mB M) pc = .ok (.lrem, 1)) (hne : ¬ y = 0) (k : Rn sp M (pc + 1) ls (.long (rmdL x y) :: st) h o h2) : Rn sp M pc ls (.long y :: .long x :: st) h o h2 := R_lrem hd hne k
theorem R_iushrX {x y : Int32} (hd : decode (mB M) pc = .ok (.iushr, 1)) (k : Rn sp M (pc + 1) ls (.int (ush x y) :: st) h o h2) : Rn sp M pc ls (.int y :: .int x :: st) h o h2 := R_iushr hd rfl k
/-- links of calls -/
def aLV (own : String) (idx : Nat) (M' : aM) (c n : Nat) : Prop := aOk M' n ∧ (∃ q, vwCl[c]? = some q ∧ q.1 = mO M') ∧ Cond.methodLink own idx (mY M') ∈ aT ∧ Cond.instanceMethod (mY M') ∈ aT ∧ Cond.selects (mO M') (mY M') (mY M') ∈ aT
def aLS (own : String) (idx : Nat) (M' : aM) (n : Nat) : Prop := aOk M' n ∧ Cond.methodLink own idx (mY M') ∈ aT ∧ Cond.static (mY M') ∈ aT
theorem R_cV {M' : aM} {idx r c n : Nat} {av st0 : List Value} {o1 : Option Value} {h1 : aH} (hd : decode (mB M) pc = .ok (.invokevirtual idx, 3)) (hl : aLV (mO M) idx M' c n) (hro : aRo M M') (hk : kC r = c) (hst : st0 = av.reverse ++ .ref r :: st) (hn : av.length = n) (hw : (st.map fun v => v.category).sum ≤ 8)
    (hE : Ev M' (.ref r :: av) h o1 h1) (k : Rn sp M (pc + 3) ls (o1.toList ++ st) h1 o h2) : Rn sp M pc ls st0 h o h2 := by
  obtain ⟨h1, ⟨q, h3, h4⟩, h5, h6, h7⟩ := hl
  exact R_callV hd h1 hro h3 h4 h5 h6 h7 hk hst hn hw hE k
theorem R_cS {M' : aM} {idx n : Nat} {av st0 : List Value} {o1 : Option Value} {h1 : aH} (hd : decode (mB M) pc = .ok (.invokestatic idx, 3)) (hl : aLS (mO M) idx M' n) (hro : aRo M M') (hst : st0 = av.reverse ++ st) (hn : av.length = n) (hw : (st.map fun v => v.category).sum ≤ 8)
    (hE : Ev M' av h o1 h1) (k : Rn sp M (pc + 3) ls (o1.toList ++ st) h1 o h2) : Rn sp M pc ls st0 h o h2 :=
  R_callS hd hl.1 hro hl.2.1 hl.2.2 hst hn hw hE k
/-- the nest mate's call -/
theorem R_cN {M' : aM} {n : Nat} {av st0 : List Value} {o1 : Option Value} {h1 : aH} (hd : decode (mB M) pc = .ok (.invokestatic 89, 3)) (hok : aOk M' n) (hin : Cond.static (mY M') ∈ aT) (hO : mO M = RX6) (hY : mY M' = yX7_isHour) (hro : aRo M M') (hst : st0 = av.reverse ++ st) (hn : av.length = n) (hw : (st.map fun v => v.category).sum ≤ 8)
    (hE : Ev M' av h o1 h1) (k : Rn sp M (pc + 3) ls (o1.toList ++ st) h1 o h2) : Rn sp M pc ls st0 h o h2 := by
  intro l p e s m args below meth c' D ad cA A cells slots Q C F H locs lc hl hP hS
  obtain ⟨hcd, hyc, hpn, hmh, hcs, hnp, hini⟩ := hok
  have hts := C.2.2.2.2.1
  refine R_back (st := st) (C.2.2.2.2.2.2.1 h) C.2.2.2.2.2.2.2.1 hS ?_ (fun H1 locs1 hP1 hS1 => k l p e s m args below meth c' D ad cA A cells slots Q C F H1 locs1 lc hl hP1 hS1)
  refine va_runSN (host := "WeatherHand") (As := av.map (lf ad)) (ret := mR M') (bytes := mB M') (maxL := mL M') (n := n) (index := 89) ⟨C.1, C.2.1, C.2.2.1, C.2.2.2.1, hts⟩ (hE l D ad cA H.size) ⟨va_cnB n hts (goodTbl hcd) rfl hcs.1 hcs.2 (by rw [hO, hY]; exact C.2.2.2.2.2.2.2.2.2.2) (by rw [hyc]; exact hts _ hini) ⟨by rw [hyc]; exact hmh.1, by rw [hyc]; exact hmh.2, hnp⟩ hro, hts _ hin, trivial⟩ ⟨pre_blind, fun U hU hW => ⟨rfl, by rw [hU], by rw [hU]; exact hP, va_K.moved hW.alike C.2.2.2.2.2.1, va_Nw.warmM hW C.2.2.2.2.2.2.2.2.2.2, fun h => (C.2.2.2.2.2.2.1 h).weaken (fun _ _ _ _ => trivial)⟩⟩ rfl (by rw [List.length_map]; exact hn) hl.1 ?_ ?_ hd ⟨C.2.2.2.2.2.2.2.2.1.1, C.2.2.2.2.2.2.2.2.1.2⟩
  · show st0.map (lf ad) = _
    rw [hst]
    simp
  · exact lv_room (by rw [lf_cats]; exact hw)
theorem R_retI {x y : Int32} (hd : decode (mB M) pc = .ok (.ireturn, 1)) (hy : x = y) (hr : rOk M (some (.int y))) : Rn sp M pc ls [.int x] h (some (.int y)) h := by
  subst hy; exact R_ret (o := some (.int x)) hd hr
theorem R_ildY {i x : Int32} {r n j : Nat} (hd : decode (mB M) pc = .ok (.iaload, 1)) (hk : kC r = 100) (hn : kN r = n) (hin : vp_in i n) (hj : i.toNatClampNeg = j) (hx : h r j = x) (k : Rn sp M (pc + 1) ls (.int x :: st) h o h2) : Rn sp M pc ls (.int i :: .ref r :: st) h o h2 := by
  subst hj; subst hx; exact R_iald hd hk hn hin k
theorem R_zldY {i x : Int32} {r n j : Nat} (hd : decode (mB M) pc = .ok (.baload, 1)) (hk : kC r = 101) (hn : kN r = n) (hin : vp_in i n) (hj : i.toNatClampNeg = j) (hx : h r j = x) (k : Rn sp M (pc + 1) ls (.int x :: st) h o h2) : Rn sp M pc ls (.int i :: .ref r :: st) h o h2 := by
  subst hj; subst hx; exact R_zald hd hk hn hin k
theorem R_copyX {n : Int32} {idx r q n0 n1 m : Nat} (hd : decode (mB M) pc = .ok (.invokestatic idx, 3)) (hlk : Cond.methodLink (mO M) idx arraycopyName ∈ aT) (hkr : kC r = 100) (hkq : kC q = 100) (hnr : kN r = n0) (hnq : kN q = n1) (h3 : ¬ n < 0) (hm : n.toNatClampNeg = m) (h4 : m ≤ n0) (h5 : m ≤ n1) (hf : 1 ≤ (mRm M).frames) (h9 : True) (hw : (st.map fun v => v.category).sum + (nativeFrameWords "java/lang/System" "arraycopy" 5 + 11) ≤ (mRm M).locals) {hz : aH} (hh : aV h q (cpy (h r) (h q) m) = hz) (k : Rn sp M (pc + 3) ls st hz o h2) : Rn sp M pc ls (.int n :: .int 0 :: .ref q :: .int 0 :: .ref r :: st) h o h2 := by
  subst hm; subst hh
  refine R_copy hd hlk hkr hkq hnr hnq (by decide) (by decide) h3 ?_ ?_ hf hw ?_
  · rw [show (0 : Int32).toNatClampNeg = 0 from rfl]; omega
  · rw [show (0 : Int32).toNatClampNeg = 0 from rfl]; omega
  · rw [show (0 : Int32).toNatClampNeg = 0 from rfl, cpy_va]; exact k
theorem ti_ne {x : Int32} {k : Int32} (h : ¬ x = k) : x.toInt ≠ k.toInt := fun z => h (Int32.toInt_inj.mp z)
end More
