/-! the landed program's deeds: put, drop, noted, taken back -/
theorem UD_at {h h2 : aH} {i : Nat} {S S2 : Ps × Nat} (e : ∀ k, 19 ≤ k → k < 24 → h2 k i = h k i) (H : UD h i S S2) : UD h2 i S S2 := by
  unfold UD at *
  rw [e 19 (by omega) (by omega), e 20 (by omega) (by omega), e 21 (by omega) (by omega), e 22 (by omega) (by omega), e 23 (by omega) (by omega)]
  exact H
theorem upP_p (P : Ps) (p : Nat) (L : List Lt) : upP P p L p = L := if_pos rfl
theorem upP_ne (P : Ps) {p q : Nat} (L : List Lt) (z : ¬ q = p) : upP P p L q = P q := if_neg z
theorem upP_up (P : Ps) (p : Nat) (L M : List Lt) : upP (upP P p L) p M = upP P p M := by
  funext q
  unfold upP
  by_cases z : q = p
  · rw [if_pos z, if_pos z]
  · rw [if_neg z, if_neg z, if_neg z]
theorem upP_id {P : Ps} {p : Nat} {L : List Lt} (e : P p = L) : upP P p L = P := by
  funext q
  unfold upP
  by_cases z : q = p
  · rw [if_pos z, z, e]
  · rw [if_neg z]
theorem c_put {h : aH} {a : Nat} {P : Ps} {bt sd p : Nat} {x : Lt} (hA : CA h a P bt sd) (hP : ∀ q, (P q).length ≤ 12) (hp : p < 4) (hl : (P p).length < 12) : ∃ h1, fX0_put h a (nI p) (nI x.2.1) (nI x.1) (mI x.2.2) = some h1 ∧ (∀ k, k < a + 1 ∨ a + 4 < k → h1 k = h k) ∧ CA h1 a (upP P p (P p ++ [x])) bt sd := by
  obtain ⟨a1, a2, a3, a4⟩ := hA
  refine ⟨aU (aU (aU (aU h (a + 2) (p * 12 + (P p).length) (nI x.1)) (a + 3) (p * 12 + (P p).length) (nI x.2.1)) (a + 4) (p * 12 + (P p).length) (mI x.2.2)) (a + 1) p (nI ((P p).length + 1)), ?_, fun k hk => by rw [aU_ne (by omega), aU_ne (by omega), aU_ne (by omega), aU_ne (by omega)], fun q hq => ?_, fun q hq l y hy => ?_, ?_, ?_⟩
  · unfold fX0_put
    rw [if_neg (nI_pos (by omega)), if_neg (show ¬ 4 ≤ nI p from nI_ge (b := 4) hp (by omega)), if_pos (ck_t hp (by omega)), tn_nI (by omega), a1 p hp, if_neg (nI_pos (by omega)), if_pos (show nI _ < 12 from nI_lt (b := 12) hl (by omega)), ix12, if_pos (ck_t (by omega) (by omega)), tn_nI (by omega), nI_1]
  · by_cases z : q = p
    · subst z; rw [upP_p]; simp [aU_rd]
    · rw [upP_ne _ _ z]; simp [aU_rd, z, a1 q hq]
  · by_cases z : q = p
    · subst z
      rw [upP_p] at hy
      rcases Nat.lt_or_ge l (P q).length with g | g
      · rw [List.getElem?_append_left g] at hy
        have := a2 q hq l y hy
        simp [aU_rd, show ¬ l = (P q).length by omega, this]
      · rw [List.getElem?_append_right g] at hy
        have z0 : l - (P q).length = 0 := by
          have := (List.getElem?_eq_some_iff.mp hy).1
          simp at this; omega
        rw [z0] at hy
        cases hy
        have hi : l = (P q).length := by omega
        simp [aU_rd, hi]
    · rw [upP_ne _ _ z] at hy
      have b2 := (List.getElem?_eq_some_iff.mp hy).1
      have b3 := hP q
      have := a2 q hq l y hy
      simp [aU_rd, show ¬ q * 12 + l = p * 12 + (P p).length by omega, this]
  · simp [aU_rd, a3]
  · simp [aU_rd, a4]
theorem c_dropLast {h : aH} {a : Nat} {P : Ps} {bt sd p : Nat} {L : List Lt} {x : Lt} (hA : CA h a P bt sd) (hl : (P p).length ≤ 12) (hp : p < 4) (e : P p = L ++ [x]) : ∃ h1, fX0_dropLast h a (nI p) = some h1 ∧ (∀ k, k ≠ a + 1 → h1 k = h k) ∧ CA h1 a (upP P p L) bt sd := by
  have hA0 := hA
  obtain ⟨a1, a2, a3, a4⟩ := hA
  have len : (P p).length = L.length + 1 := by rw [e, List.length_append]; rfl
  refine ⟨aU h (a + 1) p (nI L.length), ?_, fun k hk => aU_ne hk, fun q hq => ?_, fun q hq l y hy => ?_, ?_, ?_⟩
  · unfold fX0_dropLast
    rw [c_count hA0 hp, bn_s, if_neg (show ¬ nI _ ≤ 0 from nI_ge (a := 0) (by omega) (by omega)), if_pos (ck_t hp (by omega)), tn_nI (by omega), a1 p hp, len, nI_pred]
  · by_cases z : q = p
    · subst z; rw [upP_p]; simp [aU_rd]
    · rw [upP_ne _ _ z]; simp [aU_rd, z, a1 q hq]
  · have hy2 : (P q)[l]? = some y := by
      by_cases z : q = p
      · subst z
        rw [upP_p] at hy
        rw [e, List.getElem?_append_left (List.getElem?_eq_some_iff.mp hy).1, hy]
      · rw [upP_ne _ _ z] at hy; exact hy
    have := a2 q hq l y hy2
    simp [aU_rd, this]
  · simp [aU_rd, a3]
  · simp [aU_rd, a4]
theorem c_begin {h : aH} {ne c : Nat} (h1 : ne < 30) (h2 : h 18 5 = nI ne) (h3 : h 18 6 = nI c) (h4 : c ≤ 30) (x : Int32) : fX3_begin h x = some (aU (aU (aU h 18 5 (nI ((ne + 1) % 30))) 19 ((ne + 1) % 30) x) 18 6 (nI (min 30 (c + 1)))) := by
  have ec : (if nI c + 1 < 30 then nI c + 1 else 30) = nI (min 30 (c + 1)) := by
    rw [nI_1]
    by_cases g : c + 1 < 30
    · rw [if_pos (show nI _ < 30 from nI_lt (b := 30) g (by omega)), Nat.min_eq_right (by omega)]
    · rw [if_neg (show ¬ nI _ < 30 from nI_nlt (b := 30) (by omega) (by omega)), Nat.min_eq_left (by omega)]; rfl
  unfold fX3_begin
  rw [h2, h3, ec, if_neg (nI_pos (by omega))]
  by_cases g : ne < 29
  · rw [if_pos (show nI _ < 29 from nI_lt (b := 29) g (by omega)), nI_1, if_pos (ck_t (by omega) (by omega)), tn_nI (by omega), Nat.mod_eq_of_lt (by omega)]
  · rw [if_neg (show ¬ nI _ < 29 from nI_nlt (b := 29) (by omega) (by omega)), show (ne + 1) % 30 = 0 by omega]; rfl
theorem UnC_push {h h1 : aH} {P P' : Ps} {bt bt' : Nat} {un : Un} {ne : Nat} (hn : ne < 30) (H : ∀ j S S2, ((P, bt) :: un)[j]? = some S → un[j]? = some S2 → UD h ((ne + 30 - j) % 30) S S2) (e5 : h1 18 5 = nI ((ne + 1) % 30)) (e6 : h1 18 6 = nI (min 30 (un.length + 1))) (eo : ∀ k, 19 ≤ k → k < 24 → ∀ i, i ≠ (ne + 1) % 30 → h1 k i = h k i) (eu : UD h1 ((ne + 1) % 30) (P', bt') (P, bt)) : UnC h1 P' bt' (pu (P, bt) un) := by
  refine ⟨(ne + 1) % 30, Nat.mod_lt _ (by omega), e5, by rw [pu_len]; exact e6, fun j S S2 hS hS2 => ?_⟩
  have hj : j < 30 := by
    have := (List.getElem?_eq_some_iff.mp hS2).1
    rw [pu_len] at this; omega
  unfold pu at hS2
  rw [List.getElem?_take, if_pos hj] at hS2
  cases j with
  | zero =>
    cases hS; cases hS2
    rw [show ((ne + 1) % 30 + 30 - 0) % 30 = (ne + 1) % 30 by omega]
    exact eu
  | succ j =>
    have hS : (pu (P, bt) un)[j]? = some S := hS
    unfold pu at hS
    rw [List.getElem?_take, if_pos (by omega)] at hS
    have hS2 : un[j]? = some S2 := hS2
    rw [show ((ne + 1) % 30 + 30 - (j + 1)) % 30 = (ne + 30 - j) % 30 by omega]
    exact UD_at (fun k h1 h2 => eo k h1 h2 _ (by omega)) (H j S S2 hS hS2)
section Notes
variable {h : aH} {P : Ps} {bt sd : Nat} {un : Un}
theorem c_noteAdded (hU : UnC h P bt un) (hl : un.length ≤ 30) {p : Nat} (hp : p < 4) (x : Lt) : ∃ h1, fX3_noteAdded h (nI p) = some h1 ∧ (∀ k, k < 18 ∨ 24 ≤ k → h1 k = h k) ∧ UnC h1 (upP P p (P p ++ [x])) bt (pu (P, bt) un) := by
  obtain ⟨ne, n1, n2, n3, n4⟩ := hU
  have hm : (ne + 1) % 30 < 30 := Nat.mod_lt _ (by omega)
  refine ⟨aU (aU (aU (aU h 18 5 (nI ((ne + 1) % 30))) 19 ((ne + 1) % 30) 0) 18 6 (nI (min 30 (un.length + 1)))) 20 ((ne + 1) % 30) (nI p), ?_, ?_, UnC_push n1 n4 ?_ ?_ ?_ (Or.inl ⟨?_, p, x, hp, ?_, rfl⟩)⟩
  · unfold fX3_noteAdded
    rw [c_begin n1 n2 n3 hl, bn_s]
    rw [show aU (aU (aU h 18 5 (nI ((ne + 1) % 30))) 19 ((ne + 1) % 30) 0) 18 6 (nI (min 30 (un.length + 1))) 18 5 = nI ((ne + 1) % 30) by simp [aU_rd], if_pos (ck_t hm (by omega)), tn_nI (by omega)]
  · intro k hk
    rw [aU_ne (by omega), aU_ne (by omega), aU_ne (by omega), aU_ne (by omega)]
  · simp [aU_rd]
  · simp [aU_rd]
  · intro k h1 h2 i hi
    simp [aU_rd, hi, show ¬ k = 18 by omega]
  · simp [aU_rd]
  · simp [aU_rd]
theorem c_noteBlotted (hU : UnC h P bt un) (hl : un.length ≤ 30) {p : Nat} (hp : p < 4) {L : List Lt} {x : Lt} (e : P p = L ++ [x]) : ∃ h1, fX3_noteBlotted h (nI p) (nI x.2.1) (nI x.1) (mI x.2.2) = some h1 ∧ (∀ k, k < 18 ∨ 24 ≤ k → h1 k = h k) ∧ UnC h1 (upP P p L) bt (pu (P, bt) un) := by
  obtain ⟨ne, n1, n2, n3, n4⟩ := hU
  have hm : (ne + 1) % 30 < 30 := Nat.mod_lt _ (by omega)
  refine ⟨aU (aU (aU (aU (aU (aU (aU h 18 5 (nI ((ne + 1) % 30))) 19 ((ne + 1) % 30) 1) 18 6 (nI (min 30 (un.length + 1)))) 20 ((ne + 1) % 30) (nI p)) 21 ((ne + 1) % 30) (nI x.2.1)) 22 ((ne + 1) % 30) (nI x.1)) 23 ((ne + 1) % 30) (mI x.2.2), ?_, ?_, UnC_push n1 n4 ?_ ?_ ?_ (Or.inr (Or.inl ⟨?_, p, x, hp, ?_, ?_, ?_, ?_, ?_⟩))⟩
  · unfold fX3_noteBlotted
    rw [c_begin n1 n2 n3 hl, bn_s]
    rw [show aU (aU (aU h 18 5 (nI ((ne + 1) % 30))) 19 ((ne + 1) % 30) 1) 18 6 (nI (min 30 (un.length + 1))) 18 5 = nI ((ne + 1) % 30) by simp [aU_rd], if_pos (ck_t hm (by omega)), tn_nI (by omega)]
  · intro k hk
    rw [aU_ne (by omega), aU_ne (by omega), aU_ne (by omega), aU_ne (by omega), aU_ne (by omega), aU_ne (by omega), aU_ne (by omega)]
  · simp [aU_rd]
  · simp [aU_rd]
  · intro k h1 h2 i hi
    simp [aU_rd, hi, show ¬ k = 18 by omega]
  · simp [aU_rd]
  · simp [aU_rd]
  · simp [aU_rd]
  · simp [aU_rd]
  · simp [aU_rd]
  · show (P, bt) = (upP (upP P p L) p (upP P p L p ++ [x]), bt)
    rw [upP_p, upP_up, upP_id e]
theorem c_noteBottled (hU : UnC h P bt un) (hl : un.length ≤ 30) (bt' : Nat) : ∃ h1, fX3_noteBottled h (mI bt) = some h1 ∧ (∀ k, k < 18 ∨ 24 ≤ k → h1 k = h k) ∧ UnC h1 P bt' (pu (P, bt) un) := by
  obtain ⟨ne, n1, n2, n3, n4⟩ := hU
  have hm : (ne + 1) % 30 < 30 := Nat.mod_lt _ (by omega)
  refine ⟨aU (aU (aU (aU h 18 5 (nI ((ne + 1) % 30))) 19 ((ne + 1) % 30) 2) 18 6 (nI (min 30 (un.length + 1)))) 23 ((ne + 1) % 30) (mI bt), ?_, ?_, UnC_push n1 n4 ?_ ?_ ?_ (Or.inr (Or.inr ⟨?_, rfl, ?_⟩))⟩
  · unfold fX3_noteBottled
    rw [c_begin n1 n2 n3 hl, bn_s]
    rw [show aU (aU (aU h 18 5 (nI ((ne + 1) % 30))) 19 ((ne + 1) % 30) 2) 18 6 (nI (min 30 (un.length + 1))) 18 5 = nI ((ne + 1) % 30) by simp [aU_rd], if_pos (ck_t hm (by omega)), tn_nI (by omega)]
  · intro k hk
    rw [aU_ne (by omega), aU_ne (by omega), aU_ne (by omega), aU_ne (by omega)]
  · simp [aU_rd]
  · simp [aU_rd]
  · intro k h1 h2 i hi
    simp [aU_rd, hi, show ¬ k = 18 by omega]
  · simp [aU_rd]
  · simp [aU_rd]
/-- the ring one deed back -/
theorem UnC_pop {h h1 : aH} {P P2 : Ps} {bt bt2 ne : Nat} {un : Un} (hn : ne < 30) (hl : un.length < 30) (H : ∀ j S S2, ((P, bt) :: (P2, bt2) :: un)[j]? = some S → ((P2, bt2) :: un)[j]? = some S2 → UD h ((ne + 30 - j) % 30) S S2) (e5 : h1 18 5 = nI ((ne + 29) % 30)) (e6 : h1 18 6 = nI un.length) (eo : ∀ k, 19 ≤ k → k < 24 → h1 k = h k) : UnC h1 P2 bt2 un := by
  refine ⟨(ne + 29) % 30, Nat.mod_lt _ (by omega), e5, e6, fun j S S2 hS hS2 => ?_⟩
  have hj := (List.getElem?_eq_some_iff.mp hS2).1
  rw [show ((ne + 29) % 30 + 30 - j) % 30 = (ne + 30 - (j + 1)) % 30 by omega]
  exact UD_c eo (H (j + 1) S S2 hS hS2)
theorem c_back {V : Vd} {P2 : Ps} {bt2 : Nat} (hA : CA h 3 P bt sd) (hP : wfP V P) (hP2 : wfP V P2) (hl : un.length < 30) (hU : UnC h P bt ((P2, bt2) :: un)) : ∃ h1, fX3_takeBackLast h 3 = some h1 ∧ (∀ k, k < 3 ∨ 8 ≤ k → k ≠ 18 → h1 k = h k) ∧ CA h1 3 P2 bt2 sd ∧ UnC h1 P2 bt2 un := by
  obtain ⟨ne, n1, n2, n3, n4⟩ := hU
  have n3 : h 18 6 = nI (un.length + 1) := n3
  have hD := n4 0 _ _ rfl rfl
  rw [show (ne + 30 - 0) % 30 = ne by omega] at hD
  have fin : ∀ h7 : aH, (∀ k, k < 3 ∨ 8 ≤ k → h7 k = h k) → CA h7 3 P2 bt2 sd → ∃ h1, (if h7 18 5 = 0 then some (aU (aU h7 18 5 29) 18 6 ((h7 18 6) - 1)) else some (aU (aU h7 18 5 ((h7 18 5) - 1)) 18 6 ((h7 18 6) - 1))) = some h1 ∧ (∀ k, k < 3 ∨ 8 ≤ k → k ≠ 18 → h1 k = h k) ∧ CA h1 3 P2 bt2 sd ∧ UnC h1 P2 bt2 un := by
    intro h7 q1 q2
    refine ⟨aU (aU h7 18 5 (nI ((ne + 29) % 30))) 18 6 (nI un.length), ?_, fun k hk hk2 => by rw [aU_ne hk2, aU_ne hk2, q1 k hk], CA_c (fun k _ _ => by rw [aU_ne (by omega), aU_ne (by omega)]) q2, UnC_pop n1 hl n4 (by simp [aU_rd]) (by simp [aU_rd]) (fun k h1 h2 => by rw [aU_ne (by omega), aU_ne (by omega), q1 k (by omega)])⟩
    rw [q1 18 (by omega), n2, n3, nI_pred]
    by_cases g : ne = 0
    · rw [if_pos (by rw [g]; rfl), g]; rfl
    · rw [if_neg (nI_ne0 (by omega) (by omega))]
      obtain ⟨m, rfl⟩ : ∃ m, ne = m + 1 := ⟨ne - 1, by omega⟩
      rw [nI_pred, show (m + 1 + 29) % 30 = m by omega]
  unfold fX3_takeBackLast
  rw [n3, n2, if_neg (show ¬ nI (un.length + 1) < 1 from nI_nlt (b := 1) (by omega) (by omega)), if_neg (nI_pos (by omega)), if_pos (show nI ne < 30 from nI_lt (b := 30) n1 (by omega)), if_pos (ck_t n1 (by omega)), tn_nI (by omega)]
  rcases hD with ⟨d0, p, x, hp, d1, d2⟩ | ⟨d0, p, x, hp, d1, d2, d3, d4, d5⟩ | ⟨d0, d1, d2⟩
  · have e1 : P = upP P2 p (P2 p ++ [x]) := congrArg Prod.fst d2
    have e2 : bt = bt2 := congrArg Prod.snd d2
    obtain ⟨h7, f1, f2, f3⟩ := c_dropLast (L := P2 p) (x := x) hA (hP p).1 hp (by rw [e1, upP_p])
    rw [e1, upP_up, upP_id rfl, e2] at f3
    rw [if_pos d0, d1, f1, bn_s]
    exact fin h7 (fun k hk => f2 k (by omega)) f3
  · have e1 : P2 = upP P p (P p ++ [x]) := congrArg Prod.fst d5
    have e2 : bt2 = bt := congrArg Prod.snd d5
    have hlen : (P p).length < 12 := by
      have := (hP2 p).1
      rw [e1, upP_p, List.length_append] at this
      have : (P p).length + 1 ≤ 12 := this
      omega
    obtain ⟨h7, f1, f2, f3⟩ := c_put (x := x) hA (fun q => (hP q).1) hp hlen
    rw [← e1, ← e2] at f3
    rw [if_neg (by rw [d0]; decide), if_pos d0, d1, d2, d3, d4, f1, bn_s]
    exact fin h7 (fun k hk => f2 k (by omega)) f3
  · have d1 : P2 = P := d1
    rw [if_neg (by rw [d0]; decide), if_neg (by rw [d0]; decide), d2]
    have f3 : CA (aU h 3 4 (mI bt2)) 3 P2 bt2 sd := by
      obtain ⟨a1, a2, a3, a4⟩ := hA
      rw [d1]
      refine ⟨fun p hp => by rw [aU_ne (by omega)]; exact a1 p hp, fun p hp l x hx => ?_, by simp [aU_rd], by simp [aU_rd, a4]⟩
      rw [aU_ne (by omega), aU_ne (by omega), aU_ne (by omega)]
      exact a2 p hp l x hx
    exact fin _ (fun k hk => aU_ne (by omega)) f3
end Notes
