/-! THE WHOLE STATE, and how both sides hold it -/
def TxC (h : aH) (tx : List Nat) : Prop := h 1 1 = nI tx.length ∧ ∀ i x, tx[i]? = some x → h 2 i = nI x
def TxM (h : aH) (tx : List Nat) : Prop := h 54 19 = nI tx.length ∧ ∀ i x, tx[i]? = some x → h 65 i = nI x
def wfT (tx : List Nat) : Prop := tx.length ≤ 230 ∧ ∀ x ∈ tx, x ≤ 255
def MsC (h : aH) (ms : Nat → Nat) : Prop := ∀ p, p < 4 → h 35 p = nI (ms p)
def MsM (h : aH) (ms : Nat → Nat) : Prop := ∀ p, p < 4 → h 66 p = nI (ms p)
def wfM (ms : Nat → Nat) : Prop := ∀ p, ms p < 4096
abbrev Im : Type := Nat → Option (Ps × Nat × Nat)
def ic (i : Nat) : Nat := if i = 0 then 8 else 13
def ImC (h : aH) (im : Im) : Prop := ∀ i, i < 2 → (im i = none → h (ic i) 6 = 0) ∧ ∀ q, im i = some q → h (ic i) 6 = 1 ∧ CA h (ic i) q.1 q.2.1 q.2.2
def ImM (h : aH) (im : Im) : Prop := ∀ i, i < 2 → (im i = none → h 56 i = 0) ∧ ∀ q, im i = some q → h 56 i = 1 ∧ MA h (54 + 54 * i) q.1 q.2.1 ∧ h 55 (54 + 54 * i + 53) = nI q.2.2
def wfI (V : Vd) (im : Im) : Prop := ∀ i, i < 2 → ∀ q, im i = some q → wfP V q.1 ∧ q.2.1 ≤ 96 ∧ q.2.2 < 2 ^ 31
abbrev Un : Type := List (Ps × Nat)
def upP (P : Ps) (p : Nat) (L : List Lt) : Ps := fun q => if q = p then L else P q
/-- the deed at the place i of the ring leads from S back to S2 -/
def UD (h : aH) (i : Nat) (S S2 : Ps × Nat) : Prop :=
  (h 19 i = 0 ∧ ∃ p x, p < 4 ∧ h 20 i = nI p ∧ S = (upP S2.1 p (S2.1 p ++ [x]), S2.2)) ∨
  (h 19 i = 1 ∧ ∃ p x, p < 4 ∧ h 20 i = nI p ∧ h 21 i = nI x.2.1 ∧ h 22 i = nI x.1 ∧ h 23 i = mI x.2.2 ∧ S2 = (upP S.1 p (S.1 p ++ [x]), S.2)) ∨
  (h 19 i = 2 ∧ S2.1 = S.1 ∧ h 23 i = mI S2.2)
def UnC (h : aH) (P : Ps) (bt : Nat) (un : Un) : Prop := ∃ ne, ne < 30 ∧ h 18 5 = nI ne ∧ h 18 6 = nI un.length ∧ ∀ j S S2, ((P, bt) :: un)[j]? = some S → un[j]? = some S2 → UD h ((ne + 30 - j) % 30) S S2
def UnM (h : aH) (un : Un) : Prop := h 54 25 = nI un.length ∧ ∀ j S, un[j]? = some S → MA h (162 + 54 * (un.length - 1 - j)) S.1 S.2
def wfU (V : Vd) (un : Un) : Prop := un.length ≤ 30 ∧ ∀ S ∈ un, wfP V S.1 ∧ S.2 ≤ 96
def RC (h : aH) (v w : Nat) (tx : List Nat) (ft : Int32) (V : Vd) (P : Ps) (bt sd : Nat) (im : Im) (un : Un) (ms : Nat → Nat) (bk : Bk) : Prop :=
  (h 0 9 = nI v ∧ h 0 10 = nI w ∧ h 0 11 = ft) ∧ TxC h tx ∧ CV h v V ∧ CL h v V ∧ CA h 3 P bt sd ∧ ImC h im ∧ UnC h P bt un ∧ MsC h ms ∧ CB h bk
def RM (h : aH) (tx : List Nat) (ft : Int32) (V : Vd) (P : Ps) (bt sd : Nat) (im : Im) (un : Un) (ms : Nat → Nat) (bk : Bk) : Prop :=
  h 54 23 = ft ∧ TxM h tx ∧ MV h V ∧ MA h 0 P bt ∧ h 55 53 = nI sd ∧ ImM h im ∧ UnM h un ∧ MsM h ms ∧ MB h bk ∧ ∀ j, j < 10000 → h 68 j = 0
def WF (v w : Nat) (tx : List Nat) (V : Vd) (P : Ps) (bt sd : Nat) (im : Im) (un : Un) (ms : Nat → Nat) (bk : Bk) : Prop :=
  (v = 36 ∧ w = 45 ∨ v = 45 ∧ w = 36) ∧ wfT tx ∧ wfV V ∧ wfP V P ∧ bt ≤ 96 ∧ sd < 2 ^ 31 ∧ wfI V im ∧ wfU V un ∧ wfM ms ∧ wfB V bk
def Inv (h : aH) : Prop := ∃ v w tx ft V P bt sd im un ms bk, RC h v w tx ft V P bt sd im un ms bk ∧ RM h tx ft V P bt sd im un ms bk ∧ WF v w tx V P bt sd im un ms bk
/-! pieces that a change leaves alone -/
section Congr
variable {h h2 : aH}
theorem TxC_c {tx : List Nat} (e1 : h2 1 = h 1) (e2 : h2 2 = h 2) (H : TxC h tx) : TxC h2 tx := by unfold TxC at *; rw [e1, e2]; exact H
theorem CV_c {v : Nat} {V : Vd} (e : ∀ k, v ≤ k → k < v + 5 → h2 k = h k) (H : CV h v V) : CV h2 v V := by
  unfold CV at *
  rw [e v (by omega) (by omega), e (v + 1) (by omega) (by omega), e (v + 2) (by omega) (by omega), e (v + 3) (by omega) (by omega), e (v + 4) (by omega) (by omega)]
  exact H
theorem CL_c {v : Nat} {V : Vd} (e : h2 (v + 8) = h (v + 8)) (H : CL h v V) : CL h2 v V := by unfold CL at *; rw [e]; exact H
theorem CA_c {a : Nat} {P : Ps} {bt sd : Nat} (e : ∀ k, a ≤ k → k < a + 5 → h2 k = h k) (H : CA h a P bt sd) : CA h2 a P bt sd := by
  unfold CA at *
  rw [e a (by omega) (by omega), e (a + 1) (by omega) (by omega), e (a + 2) (by omega) (by omega), e (a + 3) (by omega) (by omega), e (a + 4) (by omega) (by omega)]
  exact H
theorem ImC_c {im : Im} (e : ∀ k, 8 ≤ k → k < 18 → h2 k = h k) (H : ImC h im) : ImC h2 im := by
  intro i hi
  obtain ⟨a1, a2⟩ := H i hi
  have hic : 8 ≤ ic i ∧ ic i + 5 ≤ 18 := by unfold ic; by_cases z : i = 0 <;> simp [z]
  rw [e (ic i) (by omega) (by omega)]
  exact ⟨a1, fun q hq => ⟨(a2 q hq).1, CA_c (fun k h1 h3 => e k (by omega) (by omega)) (a2 q hq).2⟩⟩
theorem UD_c {i : Nat} {S S2 : Ps × Nat} (e : ∀ k, 19 ≤ k → k < 24 → h2 k = h k) (H : UD h i S S2) : UD h2 i S S2 := by
  unfold UD at *
  rw [e 19 (by omega) (by omega), e 20 (by omega) (by omega), e 21 (by omega) (by omega), e 22 (by omega) (by omega), e 23 (by omega) (by omega)]
  exact H
theorem UnC_c {P : Ps} {bt : Nat} {un : Un} (e : ∀ k, 18 ≤ k → k < 24 → h2 k = h k) (H : UnC h P bt un) : UnC h2 P bt un := by
  obtain ⟨ne, a1, a2, a3, a4⟩ := H
  refine ⟨ne, a1, ?_, ?_, fun j S S2 h1 h3 => UD_c (fun k q1 q2 => e k (by omega) q2) (a4 j S S2 h1 h3)⟩
  · rw [e 18 (by omega) (by omega)]; exact a2
  · rw [e 18 (by omega) (by omega)]; exact a3
theorem MsC_c {ms : Nat → Nat} (e : h2 35 = h 35) (H : MsC h ms) : MsC h2 ms := by unfold MsC at *; rw [e]; exact H
theorem CB_c {bk : Bk} (e : ∀ k, 24 ≤ k → k < 28 → h2 k = h k) (H : CB h bk) : CB h2 bk := by
  unfold CB at *
  rw [e 24 (by omega) (by omega), e 25 (by omega) (by omega), e 26 (by omega) (by omega), e 27 (by omega) (by omega)]
  exact H
theorem RC_c {v w : Nat} {tx : List Nat} {ft : Int32} {V : Vd} {P : Ps} {bt sd : Nat} {im : Im} {un : Un} {ms : Nat → Nat} {bk : Bk} (hv : v = 36 ∧ w = 45 ∨ v = 45 ∧ w = 36) (e : ∀ k, k < 54 → h2 k = h k) (H : RC h v w tx ft V P bt sd im un ms bk) : RC h2 v w tx ft V P bt sd im un ms bk := by
  obtain ⟨r1, r2, r3, r4, r5, r6, r7, r8, r9⟩ := H
  refine ⟨?_, TxC_c (e 1 (by omega)) (e 2 (by omega)) r2, CV_c (fun k _ _ => e k (by omega)) r3, CL_c (e _ (by omega)) r4, CA_c (fun k _ _ => e k (by omega)) r5, ImC_c (fun k _ _ => e k (by omega)) r6, UnC_c (fun k _ _ => e k (by omega)) r7, MsC_c (e 35 (by omega)) r8, CB_c (fun k _ _ => e k (by omega)) r9⟩
  rw [e 0 (by omega)]; exact r1
theorem TxM_c {tx : List Nat} (e1 : h2 54 19 = h 54 19) (e2 : h2 65 = h 65) (H : TxM h tx) : TxM h2 tx := by unfold TxM at *; rw [e1, e2]; exact H
theorem MV_c {V : Vd} (e2 : h2 54 2 = h 54 2) (e6 : h2 54 6 = h 54 6) (e11 : h2 54 11 = h 54 11) (e16 : h2 54 16 = h 54 16) (e : ∀ k, 57 ≤ k → k < 62 → h2 k = h k) (H : MV h V) : MV h2 V := by
  unfold MV at *
  rw [e2, e6, e11, e16, e 57 (by omega) (by omega), e 58 (by omega) (by omega), e 59 (by omega) (by omega), e 60 (by omega) (by omega), e 61 (by omega) (by omega)]
  exact H
theorem MA_c {o : Nat} {P : Ps} {bt : Nat} {V : Vd} (hP : wfP V P) (e : ∀ i, i < 53 → h2 55 (o + i) = h 55 (o + i)) (H : MA h o P bt) : MA h2 o P bt := by
  obtain ⟨a1, a2, a3⟩ := H
  refine ⟨fun p hp => ?_, fun p hp l x hx => ?_, ?_⟩
  · rw [e (48 + p) (by omega)]; exact a1 p hp
  · have := wfP_at hP hx
    rw [e (12 * p + l) (by omega)]; exact a2 p hp l x hx
  · rw [e 52 (by omega)]; exact a3
theorem MB_c {bk : Bk} (e1 : h2 54 32 = h 54 32) (e : ∀ k, 70 ≤ k → k < 73 → h2 k = h k) (H : MB h bk) : MB h2 bk := by
  unfold MB at *
  rw [e1, e 70 (by omega) (by omega), e 71 (by omega) (by omega), e 72 (by omega) (by omega)]
  exact H
theorem MsM_c {ms : Nat → Nat} (e : h2 66 = h 66) (H : MsM h ms) : MsM h2 ms := by unfold MsM at *; rw [e]; exact H
theorem ImM_c {V : Vd} {im : Im} (hI : wfI V im) (e1 : h2 56 = h 56) (e : ∀ i, 54 ≤ i → i < 162 → h2 55 i = h 55 i) (H : ImM h im) : ImM h2 im := by
  intro i hi
  obtain ⟨a1, a2⟩ := H i hi
  rw [e1]
  refine ⟨a1, fun q hq => ?_⟩
  obtain ⟨b1, b2, b3⟩ := a2 q hq
  refine ⟨b1, MA_c (hI i hi q hq).1 (fun k hk => e _ (by omega) (by omega)) b2, ?_⟩
  rw [e _ (by omega) (by omega)]; exact b3
theorem UnM_c {V : Vd} {un : Un} (hU : wfU V un) (e1 : h2 54 25 = h 54 25) (e : ∀ i, 162 ≤ i → i < 1782 → h2 55 i = h 55 i) (H : UnM h un) : UnM h2 un := by
  obtain ⟨a1, a2⟩ := H
  refine ⟨e1.trans a1, fun j S hS => ?_⟩
  have hj := (List.getElem?_eq_some_iff.mp hS).1
  have hl := hU.1
  exact MA_c (hU.2 S (List.mem_of_getElem? hS)).1 (fun k hk => e _ (by omega) (by omega)) (a2 j S hS)
theorem RM_c {v w : Nat} {tx : List Nat} {ft : Int32} {V : Vd} {P : Ps} {bt sd : Nat} {im : Im} {un : Un} {ms : Nat → Nat} {bk : Bk} (hW : WF v w tx V P bt sd im un ms bk) (e : ∀ k, 54 ≤ k → h2 k = h k) (H : RM h tx ft V P bt sd im un ms bk) : RM h2 tx ft V P bt sd im un ms bk := by
  obtain ⟨r1, r2, r3, r4, r5, r6, r7, r8, r9, r10⟩ := H
  obtain ⟨w1, w2, w3, w4, w5, w6, w7, w8, w9, w10⟩ := hW
  have e54 := e 54 (by omega)
  have e55 := e 55 (by omega)
  refine ⟨by rw [e54]; exact r1, TxM_c (by rw [e54]) (e 65 (by omega)) r2, MV_c (by rw [e54]) (by rw [e54]) (by rw [e54]) (by rw [e54]) (fun k _ _ => e k (by omega)) r3, MA_c w4 (fun i _ => by rw [e55]) r4, by rw [e55]; exact r5, ImM_c w7 (e 56 (by omega)) (fun i _ _ => by rw [e55]) r6, UnM_c w8 (by rw [e54]) (fun i _ _ => by rw [e55]) r7, MsM_c (e 66 (by omega)) r8, MB_c (by rw [e54]) (fun k _ _ => e k (by omega)) r9, fun j hj => by rw [e 68 (by omega)]; exact r10 j hj⟩
end Congr
theorem vl_of {x : Int32} {v : Nat} (h : x = nI v) (hv : v = 36 ∨ v = 45) : vl x = some v := by
  rw [h]
  unfold vl
  rcases hv with rfl | rfl
  · rw [nI_clamp (by omega), if_pos (by decide)]
  · rw [nI_clamp (by omega), if_pos (by decide)]
theorem RD_of {h : aH} {v w : Nat} {tx : List Nat} {ft : Int32} {V : Vd} {P : Ps} {bt sd : Nat} {im : Im} {un : Un} {ms : Nat → Nat} {bk : Bk} (hC : RC h v w tx ft V P bt sd im un ms bk) (hM : RM h tx ft V P bt sd im un ms bk) (hW : WF v w tx V P bt sd im un ms bk) : RD h v V P bt sd := by
  obtain ⟨r1, r2, r3, r4, r5, -⟩ := hC
  obtain ⟨m1, m2, m3, m4, -⟩ := hM
  obtain ⟨w1, w2, w3, w4, -⟩ := hW
  exact ⟨vl_of r1.1 (by omega), r3, r4, r5, m3, m4, w3, w4⟩
/-! bits -/
theorem s_l : ∀ n, n < 32 → ((nI n &&& 31).toBitVec.smod 32).toNat = n := by decide +kernel
theorem bitS {m l : Nat} (hm : m < 2 ^ 31) (hl : l < 31) : (nI m >>> (nI l &&& 31)) &&& 1 = nI (m / 2 ^ l % 2) := by
  rw [pk_shrN hm (nI l &&& 31) l (s_l l (by omega))]
  have : m / 2 ^ l ≤ m := Nat.div_le_self _ _
  exact pk_andN (n := m / 2 ^ l) (by omega) (m := 1) 1 (by decide)
theorem shl1 : ∀ l, l < 12 → (1 : Int32) <<< (nI l &&& 31) = nI (2 ^ l) := by decide +kernel
theorem or4096 {a b : Nat} (ha : a < 4096) (hb : b < 4096) : a ||| b < 4096 := Nat.or_lt_two_pow (n := 12) ha hb
