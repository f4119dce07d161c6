/-! the clauses of the text -/
def CQ (h : aH) (w : Nat) (V : Vd) (Q : Vd) : Prop := ∀ p, p < V 0 5 → h (w + 5) p = nI (Q 0 p) ∧ h (w + 6) p = nI (Q 1 p) ∧ h (w + 7) p = nI (Q 2 p)
def SV (h : aH) (V : Vd) : Prop := (h 54 3 = nI (V 0 6) ∧ h 57 3 = nI (V 0 0) ∧ h 57 4 = nI (V 0 1) ∧ h 57 5 = nI (V 0 2) ∧ h 54 7 = nI (V 0 3) ∧ h 54 12 = nI (V 0 4) ∧ h 54 17 = nI (V 0 5)) ∧ (∀ k, k < V 0 3 → h 58 (8 + k) = nI (V 1 k)) ∧ (∀ a, a < V 0 4 → h 59 (4 + a) = nI (V 2 a) ∧ h 60 (4 + a) = nI (V 3 a) ∧ h 61 (4 + a) = nI (V 4 a))
def SQ (h : aH) (V : Vd) (Q : Vd) : Prop := ∀ p, p < V 0 5 → h 62 (4 + p) = nI (Q 0 p) ∧ h 63 (4 + p) = nI (Q 1 p) ∧ h 64 (4 + p) = nI (Q 2 p)
def wfQ (V : Vd) (Q : Vd) : Prop := ∀ p, p < V 0 5 → Q 0 p < V 0 4 ∧ Q 1 p ≤ 95 ∧ 1 ≤ Q 2 p ∧ Q 2 p ≤ 12
def DD (w : Nat) (hc hm : aH) (V Q : Vd) : Prop := CV hc w V ∧ CQ hc w V Q ∧ SV hm V ∧ SQ hm V Q ∧ wfV V ∧ wfQ V Q
def FcW (w : Nat) (h h2 : aH) : Prop := ∀ k, k ≠ 1 → k < w ∨ w + 8 ≤ k → h2 k = h k
def FmP (h h2 : aH) : Prop := (∀ k, k ≠ 54 → k < 57 ∨ 64 < k → h2 k = h k) ∧ (∀ j, j < 20 ∨ 23 < j → j ≠ 3 → j ≠ 7 → j ≠ 12 → j ≠ 17 → h2 54 j = h 54 j) ∧ (∀ j, j < 3 → h2 57 j = h 57 j) ∧ (∀ j, j < 8 → h2 58 j = h 58 j) ∧ (∀ k, 59 ≤ k → k ≤ 61 → ∀ j, j < 4 → h2 k j = h k j)
theorem FcW_t {w : Nat} {h h2 h3 : aH} (a : FcW w h h2) (b : FcW w h2 h3) : FcW w h h3 := fun k x y => by rw [b k x y, a k x y]
theorem FmP_t {h h2 h3 : aH} (a : FmP h h2) (b : FmP h2 h3) : FmP h h3 :=
  ⟨fun k x y => by rw [b.1 k x y, a.1 k x y], fun j x y z u v => by rw [b.2.1 j x y z u v, a.2.1 j x y z u v], fun j x => by rw [b.2.2.1 j x, a.2.2.1 j x], fun j x => by rw [b.2.2.2.1 j x, a.2.2.2.1 j x], fun k x y j z => by rw [b.2.2.2.2 k x y j z, a.2.2.2.2 k x y j z]⟩
theorem FcW_1 {w : Nat} {h h2 : aH} (a : Fc1 h h2) : FcW w h h2 := fun k x _ => a k x
theorem FmP_1 {h h2 : aH} (a : Fm1 h h2) : FmP h h2 := ⟨fun k x _ => a.1 k x, fun j x _ _ _ _ => a.2 j x, fun j _ => by rw [a.1 57 (by omega)], fun j _ => by rw [a.1 58 (by omega)], fun k x y j _ => by rw [a.1 k (by omega)]⟩
theorem DD_c {w : Nat} {hc hm hc2 hm2 : aH} {V Q : Vd} (hw : 36 ≤ w) (e1 : Fc1 hc hc2) (e2 : Fm1 hm hm2) (H : DD w hc hm V Q) : DD w hc2 hm2 V Q := by
  obtain ⟨a, b, c, d, e, f⟩ := H
  refine ⟨CV_c (fun k _ _ => e1 k (by omega)) a, ?_, ?_, ?_, e, f⟩
  · unfold CQ at *; rw [e1 _ (by omega), e1 _ (by omega), e1 _ (by omega)]; exact b
  · unfold SV at *; rw [e2.1 57 (by omega), e2.1 58 (by omega), e2.1 59 (by omega), e2.1 60 (by omega), e2.1 61 (by omega), e2.2 3 (by omega), e2.2 7 (by omega), e2.2 12 (by omega), e2.2 17 (by omega)]; exact c
  · unfold SQ at *; rw [e2.1 62 (by omega), e2.1 63 (by omega), e2.1 64 (by omega)]; exact d
/-- what comes of a piece of the text -/
def CO (w : Nat) (tx : List Nat) (i : Nat) (hc hm hc2 hm2 : aH) : Prop := ∃ j1 j2 fk fp, JJ hc2 hm2 tx j1 j2 fk fp ∧ FcW w hc hc2 ∧ FmP hm hm2 ∧ (fk = 0 → i ≤ j1 ∧ ∃ V Q, DD w hc2 hm2 V Q)
section Clause
variable {hc hm : aH} {tx : List Nat} {w i : Nat} {fp : Int32} {V Q : Vd}
theorem le_mI {v n : Nat} (hv : v < 1000) (hn : n ≤ 4) (h : nI v ≤ nI n - 1) : v < n := by
  have e : (nI n - 1).toInt = (n : Int) - 1 := by
    cases n with
    | zero => decide
    | succ n => rw [nI_pred, nI_toInt (by omega)]; omega
  rw [fa_le, e, nI_toInt (by omega)] at h
  omega
theorem le_lit {v n : Nat} (hv : v < 1000) (hn : n < 1000) (h : nI v ≤ nI n) : v ≤ n := by
  rw [fa_le, nI_toInt (by omega), nI_toInt (by omega)] at h
  omega
theorem weatherJ (hT : wfT tx) (hw : 36 ≤ w) (q : Int32) (J : JJ hc hm tx i i 0 fp) (D : DD w hc hm V Q) (h6 : V 0 6 = 0) : ∃ hc2 hm2, fX5_readWeather hc w = some hc2 ∧ fX8_takeValley hm q = some hm2 ∧ CO w tx i hc hm hc2 hm2 := by
  obtain ⟨c1, m1, rc1, rm1, i1, k1, f1, p1, a1, b1, J1, C1, M1, G1⟩ := numJ hT 0 7 J
  have J1' : JJ (aU c1 w 1 rc1) (aU m1 57 3 rm1) tx i1 k1 f1 p1 := JJ_c (aU_ne (by omega)) (aU_ne (by omega)) (fun j _ => by rw [aU_ne (by omega)]) (aU_ne (by omega)) J1
  obtain ⟨c2, m2, rc2, rm2, i2, k2, f2, p2, a2, b2, J2, C2, M2, G2⟩ := numJ hT 0 9 J1'
  have J2' : JJ (aU c2 w 2 rc2) (aU m2 57 4 rm2) tx i2 k2 f2 p2 := JJ_c (aU_ne (by omega)) (aU_ne (by omega)) (fun j _ => by rw [aU_ne (by omega)]) (aU_ne (by omega)) J2
  obtain ⟨c3, m3, rc3, rm3, i3, k3, f3, p3, a3, b3, J3, C3, M3, G3⟩ := numJ hT 0 12 J2'
  have J3' : JJ (aU (aU c3 w 3 rc3) w 0 1) (aU (aU m3 57 5 rm3) 54 3 1) tx i3 k3 f3 p3 := JJ_c (by rw [aU_ne (by omega), aU_ne (by omega)]) (by rw [aU_ne (by omega), aU_ne (by omega)]) (fun j hj => by simp only [aU_rd, if_true]; rw [if_neg (by omega), if_neg (by omega)]) (by rw [aU_ne (by omega), aU_ne (by omega)]) J3
  obtain ⟨d1, d2, d3, d4, d5, d6⟩ := D
  have t3 : hm 54 3 = 0 := by rw [d3.1.1, h6]; rfl
  have cw : ∀ j, aU (aU c3 w 3 rc3) w 0 1 w j = if j = 0 then 1 else if j = 3 then rc3 else if j = 2 then rc2 else if j = 1 then rc1 else hc w j := by
    intro j
    simp only [aU_rd, if_true]
    rw [C3 w (by omega)]
    simp only [aU_rd, if_true]
    rw [C2 w (by omega)]
    simp only [aU_rd, if_true]
    rw [C1 w (by omega)]
  have co : ∀ k, k ≠ 1 → k ≠ w → aU (aU c3 w 3 rc3) w 0 1 k = hc k := by
    intro k x y
    rw [aU_ne y, aU_ne y, C3 k x, aU_ne y, C2 k x, aU_ne y, C1 k x]
  have m57 : ∀ j, aU (aU m3 57 5 rm3) 54 3 1 57 j = if j = 5 then rm3 else if j = 4 then rm2 else if j = 3 then rm1 else hm 57 j := by
    intro j
    rw [aU_ne (by omega)]
    simp only [aU_rd, if_true]
    rw [M3.1 57 (by omega)]
    simp only [aU_rd, if_true]
    rw [M2.1 57 (by omega)]
    simp only [aU_rd, if_true]
    rw [M1.1 57 (by omega)]
  have m54 : ∀ j, j < 20 ∨ 23 < j → aU (aU m3 57 5 rm3) 54 3 1 54 j = if j = 3 then 1 else hm 54 j := by
    intro j hj
    simp only [aU_rd, if_true]
    rw [if_neg (show ¬ 54 = 57 by omega), M3.2 j hj, aU_ne (by omega), M2.2 j hj, aU_ne (by omega), M1.2 j hj]
  have mo : ∀ k, k ≠ 54 → k ≠ 57 → aU (aU m3 57 5 rm3) 54 3 1 k = hm k := by
    intro k x y
    rw [aU_ne x, aU_ne y, M3.1 k x, aU_ne y, M2.1 k x, aU_ne y, M1.1 k x]
  refine ⟨_, _, ?_, ?_, i3, k3, f3, p3, J3', ?_, ?_, ?_⟩
  · unfold fX5_readWeather
    rw [a1, bn2_s, a2, bn2_s, a3, bn2_s]
  · unfold fX8_takeValley
    rw [t3, if_pos rfl, want_1 J.2.1, bn2_s, bi_it, b1, bn2_s, b2, bn2_s, b3, bn2_s]
  · exact fun k x y => co k x (by omega)
  · exact ⟨fun k x y => mo k x (by omega), fun j x y _ _ _ => by rw [m54 j x, if_neg y], fun j x => by rw [m57 j, if_neg (by omega), if_neg (by omega), if_neg (by omega)], fun j x => by rw [mo 58 (by omega) (by omega)], fun k x y j _ => by rw [mo k (by omega) (by omega)]⟩
  · intro z
    obtain ⟨z2, l3, v3, e3, g3, _, u3, t3⟩ := G3 z
    obtain ⟨z1, l2, v2, e2, g2, _, u2, t2⟩ := G2 z2
    obtain ⟨_, l1, v1, e1, g1, _, u1, t1⟩ := G1 z1
    have u1 := le_lit (n := 7) t1 (by omega) u1
    have u2 := le_lit (n := 9) t2 (by omega) u2
    have u3 := le_lit (n := 12) t3 (by omega) u3
    refine ⟨by omega, fun a b => if a = 0 then (if b = 0 then v1 else if b = 1 then v2 else if b = 2 then v3 else if b = 6 then 1 else V 0 b) else V a b, Q, ⟨⟨?_, ?_, ?_, ?_, ?_, ?_, ?_⟩, ?_, ?_⟩, ?_, ⟨⟨?_, ?_, ?_, ?_, ?_, ?_, ?_⟩, ?_, ?_⟩, ?_, ⟨⟨u1, u2, u3, d5.1.2.2.2.1, d5.1.2.2.2.2.1, d5.1.2.2.2.2.2.1, Nat.le_refl 1⟩, d5.2.1, d5.2.2⟩, d6⟩
    · rw [cw 0]; rfl
    · rw [cw 1]; exact e1
    · rw [cw 2]; exact e2
    · rw [cw 3]; exact e3
    · rw [cw 4]; exact d1.1.2.2.2.2.1
    · rw [cw 5]; exact d1.1.2.2.2.2.2.1
    · rw [cw 6]; exact d1.1.2.2.2.2.2.2
    · intro k hk
      rw [co _ (by omega) (by omega)]; exact d1.2.1 k hk
    · intro a ha
      rw [co _ (by omega) (by omega), co _ (by omega) (by omega), co _ (by omega) (by omega)]; exact d1.2.2 a ha
    · intro p hp
      rw [co _ (by omega) (by omega), co _ (by omega) (by omega), co _ (by omega) (by omega)]; exact d2 p hp
    · rw [m54 3 (by omega)]; rfl
    · rw [m57 3]; exact g1
    · rw [m57 4]; exact g2
    · rw [m57 5]; exact g3
    · rw [m54 7 (by omega)]; exact d3.1.2.2.2.2.1
    · rw [m54 12 (by omega)]; exact d3.1.2.2.2.2.2.1
    · rw [m54 17 (by omega)]; exact d3.1.2.2.2.2.2.2
    · intro k hk
      rw [mo _ (by omega) (by omega)]; exact d3.2.1 k hk
    · intro a ha
      rw [mo _ (by omega) (by omega), mo _ (by omega) (by omega), mo _ (by omega) (by omega)]; exact d3.2.2 a ha
    · intro p hp
      rw [mo _ (by omega) (by omega), mo _ (by omega) (by omega), mo _ (by omega) (by omega)]; exact d4 p hp
theorem four_i (a : Nat) : 4 + nI a = nI (4 + a) := nI_add 4 a
theorem handJ (hT : wfT tx) (hw : 36 ≤ w) (q : Int32) (J : JJ hc hm tx i i 0 fp) (D : DD w hc hm V Q) (h4 : V 0 4 < 4) : ∃ hc2 hm2, fX5_readHand hc w = some hc2 ∧ fX8_takeHand hm q = some hm2 ∧ CO w tx i hc hm hc2 hm2 := by
  obtain ⟨c1, m1, rc1, rm1, i1, k1, f1, p1, a1, b1, J1, C1, M1, G1⟩ := numJ hT 0 8 J
  have J1' : JJ (aU c1 (w + 2) (V 0 4) rc1) (aU m1 59 (4 + V 0 4) rm1) tx i1 k1 f1 p1 := JJ_c (aU_ne (by omega)) (aU_ne (by omega)) (fun j _ => by rw [aU_ne (by omega)]) (aU_ne (by omega)) J1
  obtain ⟨c2, m2, rc2, rm2, i2, k2, f2, p2, a2, b2, J2, C2, M2, G2⟩ := numJ hT 0 8 J1'
  have J2' : JJ (aU c2 (w + 3) (V 0 4) rc2) (aU m2 60 (4 + V 0 4) rm2) tx i2 k2 f2 p2 := JJ_c (aU_ne (by omega)) (aU_ne (by omega)) (fun j _ => by rw [aU_ne (by omega)]) (aU_ne (by omega)) J2
  obtain ⟨c3, m3, rc3, rm3, i3, k3, f3, p3, a3, b3, J3, C3, M3, G3⟩ := numJ hT 0 8 J2'
  have J3' : JJ (aU (aU c3 (w + 4) (V 0 4) rc3) w 5 (nI (V 0 4 + 1))) (aU (aU m3 61 (4 + V 0 4) rm3) 54 12 (nI (V 0 4 + 1))) tx i3 k3 f3 p3 := JJ_c (by rw [aU_ne (by omega), aU_ne (by omega)]) (by rw [aU_ne (by omega), aU_ne (by omega)]) (fun j hj => by simp only [aU_rd, if_true]; rw [if_neg (by omega), if_neg (by omega)]) (by rw [aU_ne (by omega), aU_ne (by omega)]) J3
  obtain ⟨d1, d2, d3, d4, d5, d6⟩ := D
  have tc : hc w 5 = nI (V 0 4) := d1.1.2.2.2.2.2.1
  have tm : hm 54 12 = nI (V 0 4) := d3.1.2.2.2.2.2.1
  have tm1 : m1 54 12 = nI (V 0 4) := by rw [M1.2 12 (by omega), tm]
  have tm2 : m2 54 12 = nI (V 0 4) := by rw [M2.2 12 (by omega), aU_ne (by omega), tm1]
  have tm3 : m3 54 12 = nI (V 0 4) := by rw [M3.2 12 (by omega), aU_ne (by omega), tm2]
  have co : ∀ k, k ≠ 1 → k ≠ w → k ≠ w + 2 → k ≠ w + 3 → k ≠ w + 4 → aU (aU c3 (w + 4) (V 0 4) rc3) w 5 (nI (V 0 4 + 1)) k = hc k := by
    intro k x y y2 y3 y4
    rw [aU_ne y, aU_ne y4, C3 k x, aU_ne y3, C2 k x, aU_ne y2, C1 k x]
  have cw : ∀ j, j ≠ 5 → aU (aU c3 (w + 4) (V 0 4) rc3) w 5 (nI (V 0 4 + 1)) w j = hc w j := by
    intro j hj
    simp only [aU_rd, if_true]
    rw [if_neg hj, if_neg (by omega), C3 w (by omega), aU_ne (by omega), C2 w (by omega), aU_ne (by omega), C1 w (by omega)]
  have cw2 : ∀ j, aU (aU c3 (w + 4) (V 0 4) rc3) w 5 (nI (V 0 4 + 1)) (w + 2) j = if j = V 0 4 then rc1 else hc (w + 2) j := by
    intro j
    rw [aU_ne (by omega), aU_ne (by omega), C3 _ (by omega), aU_ne (by omega), C2 _ (by omega)]
    simp only [aU_rd, if_true]
    rw [C1 _ (by omega)]
  have cw3 : ∀ j, aU (aU c3 (w + 4) (V 0 4) rc3) w 5 (nI (V 0 4 + 1)) (w + 3) j = if j = V 0 4 then rc2 else hc (w + 3) j := by
    intro j
    rw [aU_ne (by omega), aU_ne (by omega), C3 _ (by omega)]
    simp only [aU_rd, if_true]
    rw [C2 _ (by omega), aU_ne (by omega), C1 _ (by omega)]
  have cw4 : ∀ j, aU (aU c3 (w + 4) (V 0 4) rc3) w 5 (nI (V 0 4 + 1)) (w + 4) j = if j = V 0 4 then rc3 else hc (w + 4) j := by
    intro j
    rw [aU_ne (by omega)]
    simp only [aU_rd, if_true]
    rw [C3 _ (by omega), aU_ne (by omega), C2 _ (by omega), aU_ne (by omega), C1 _ (by omega)]
  have m54 : ∀ j, j < 20 ∨ 23 < j → j ≠ 12 → aU (aU m3 61 (4 + V 0 4) rm3) 54 12 (nI (V 0 4 + 1)) 54 j = hm 54 j := by
    intro j hj h12
    simp only [aU_rd, if_true]
    rw [if_neg h12, if_neg (by omega), M3.2 j hj, aU_ne (by omega), M2.2 j hj, aU_ne (by omega), M1.2 j hj]
  have mo : ∀ k, k ≠ 54 → k ≠ 59 → k ≠ 60 → k ≠ 61 → aU (aU m3 61 (4 + V 0 4) rm3) 54 12 (nI (V 0 4 + 1)) k = hm k := by
    intro k x y y2 y3
    rw [aU_ne x, aU_ne y3, M3.1 k x, aU_ne y2, M2.1 k x, aU_ne y, M1.1 k x]
  have m59 : ∀ j, aU (aU m3 61 (4 + V 0 4) rm3) 54 12 (nI (V 0 4 + 1)) 59 j = if j = 4 + V 0 4 then rm1 else hm 59 j := by
    intro j
    rw [aU_ne (by omega), aU_ne (by omega), M3.1 _ (by omega), aU_ne (by omega), M2.1 _ (by omega)]
    simp only [aU_rd, if_true]
    rw [M1.1 _ (by omega)]
  have m60 : ∀ j, aU (aU m3 61 (4 + V 0 4) rm3) 54 12 (nI (V 0 4 + 1)) 60 j = if j = 4 + V 0 4 then rm2 else hm 60 j := by
    intro j
    rw [aU_ne (by omega), aU_ne (by omega), M3.1 _ (by omega)]
    simp only [aU_rd, if_true]
    rw [M2.1 _ (by omega), aU_ne (by omega), M1.1 _ (by omega)]
  have m61 : ∀ j, aU (aU m3 61 (4 + V 0 4) rm3) 54 12 (nI (V 0 4 + 1)) 61 j = if j = 4 + V 0 4 then rm3 else hm 61 j := by
    intro j
    rw [aU_ne (by omega)]
    simp only [aU_rd, if_true]
    rw [M3.1 _ (by omega), aU_ne (by omega), M2.1 _ (by omega), aU_ne (by omega), M1.1 _ (by omega)]
  refine ⟨_, _, ?_, ?_, i3, k3, f3, p3, J3', ?_, ?_, ?_⟩
  · unfold fX5_readHand
    rw [tc, if_neg (nI_pos (by omega)), if_pos (show nI _ < 4 from nI_lt (b := 4) h4 (by omega)), a1, bn2_s, if_pos (ck_t h4 (by omega)), tn_nI (by omega), a2, bn2_s, a3, bn2_s, nI_1]
  · unfold fX8_takeHand
    rw [tm, if_neg (show ¬ 4 ≤ nI _ from nI_ge (b := 4) h4 (by omega)), want_1 J.2.1, bn2_s, bi_it, b1, bn2_s, tm, tm1, four_i, if_pos (ck_t (by omega) (by omega)), tn_nI (by omega), b2, bn2_s, tm2, four_i, if_pos (ck_t (by omega) (by omega)), tn_nI (by omega), b3, bn2_s, tm3, nI_1]
    exact if_pos (ck_t (by omega) (by omega))
  · exact fun k x y => co k x (by omega) (by omega) (by omega) (by omega)
  · refine ⟨fun k x y => mo k x (by omega) (by omega) (by omega), fun j x _ _ y _ => m54 j x y, fun j x => by rw [mo 57 (by omega) (by omega) (by omega) (by omega)], fun j x => by rw [mo 58 (by omega) (by omega) (by omega) (by omega)], fun k x y j hj => ?_⟩
    rcases (by omega : k = 59 ∨ k = 60 ∨ k = 61) with rfl | rfl | rfl
    · rw [m59, if_neg (by omega)]
    · rw [m60, if_neg (by omega)]
    · rw [m61, if_neg (by omega)]
  · intro z
    obtain ⟨z2, l3, v3, e3, g3, _, u3, t3⟩ := G3 z
    obtain ⟨z1, l2, v2, e2, g2, _, u2, t2⟩ := G2 z2
    obtain ⟨_, l1, v1, e1, g1, _, u1, t1⟩ := G1 z1
    have u1 := le_lit (n := 8) t1 (by omega) u1
    have u2 := le_lit (n := 8) t2 (by omega) u2
    have u3 := le_lit (n := 8) t3 (by omega) u3
    have d4' : V 0 4 ≤ 4 := d5.1.2.2.2.2.1
    refine ⟨by omega, fun a b => if a = 0 then (if b = 4 then V 0 4 + 1 else V 0 b) else if a = 2 then (if b = V 0 4 then v1 else V 2 b) else if a = 3 then (if b = V 0 4 then v2 else V 3 b) else if a = 4 then (if b = V 0 4 then v3 else V 4 b) else V a b, Q, ⟨⟨?_, ?_, ?_, ?_, ?_, ?_, ?_⟩, ?_, ?_⟩, ?_, ⟨⟨?_, ?_, ?_, ?_, ?_, ?_, ?_⟩, ?_, ?_⟩, ?_, ⟨⟨d5.1.1, d5.1.2.1, d5.1.2.2.1, d5.1.2.2.2.1, h4, d5.1.2.2.2.2.2.1, d5.1.2.2.2.2.2.2⟩, d5.2.1, ?_⟩, ?_⟩
    · rw [cw 0 (by omega)]; exact d1.1.1
    · rw [cw 1 (by omega)]; exact d1.1.2.1
    · rw [cw 2 (by omega)]; exact d1.1.2.2.1
    · rw [cw 3 (by omega)]; exact d1.1.2.2.2.1
    · rw [cw 4 (by omega)]; exact d1.1.2.2.2.2.1
    · simp only [aU_rd, if_true]
    · rw [cw 6 (by omega)]; exact d1.1.2.2.2.2.2.2
    · intro k hk
      rw [co _ (by omega) (by omega) (by omega) (by omega) (by omega)]; exact d1.2.1 k hk
    · intro a ha
      have ha : a < V 0 4 + 1 := ha
      rw [cw2, cw3, cw4, e1, e2, e3]
      show (if a = V 0 4 then nI v1 else hc (w + 2) a) = nI (if a = V 0 4 then v1 else V 2 a) ∧ (if a = V 0 4 then nI v2 else hc (w + 3) a) = nI (if a = V 0 4 then v2 else V 3 a) ∧ (if a = V 0 4 then nI v3 else hc (w + 4) a) = nI (if a = V 0 4 then v3 else V 4 a)
      by_cases g : a = V 0 4
      · rw [if_pos g, if_pos g, if_pos g, if_pos g, if_pos g, if_pos g]; exact ⟨rfl, rfl, rfl⟩
      · rw [if_neg g, if_neg g, if_neg g, if_neg g, if_neg g, if_neg g]; exact d1.2.2 a (by omega)
    · intro p hp
      rw [co _ (by omega) (by omega) (by omega) (by omega) (by omega), co _ (by omega) (by omega) (by omega) (by omega) (by omega), co _ (by omega) (by omega) (by omega) (by omega) (by omega)]; exact d2 p hp
    · rw [m54 3 (by omega) (by omega)]; exact d3.1.1
    · rw [mo 57 (by omega) (by omega) (by omega) (by omega)]; exact d3.1.2.1
    · rw [mo 57 (by omega) (by omega) (by omega) (by omega)]; exact d3.1.2.2.1
    · rw [mo 57 (by omega) (by omega) (by omega) (by omega)]; exact d3.1.2.2.2.1
    · rw [m54 7 (by omega) (by omega)]; exact d3.1.2.2.2.2.1
    · simp only [aU_rd, if_true]
    · rw [m54 17 (by omega) (by omega)]; exact d3.1.2.2.2.2.2.2
    · intro k hk
      rw [mo 58 (by omega) (by omega) (by omega) (by omega)]; exact d3.2.1 k hk
    · intro a ha
      have ha : a < V 0 4 + 1 := ha
      rw [m59, m60, m61, g1, g2, g3]
      show (if 4 + a = 4 + V 0 4 then nI v1 else hm 59 (4 + a)) = nI (if a = V 0 4 then v1 else V 2 a) ∧ (if 4 + a = 4 + V 0 4 then nI v2 else hm 60 (4 + a)) = nI (if a = V 0 4 then v2 else V 3 a) ∧ (if 4 + a = 4 + V 0 4 then nI v3 else hm 61 (4 + a)) = nI (if a = V 0 4 then v3 else V 4 a)
      by_cases g : a = V 0 4
      · have g' : 4 + a = 4 + V 0 4 := by omega
        rw [if_pos g, if_pos g, if_pos g, if_pos g', if_pos g', if_pos g']; exact ⟨rfl, rfl, rfl⟩
      · have g' : ¬ 4 + a = 4 + V 0 4 := by omega
        rw [if_neg g, if_neg g, if_neg g, if_neg g', if_neg g', if_neg g']; exact d3.2.2 a (by omega)
    · intro p hp
      rw [mo 62 (by omega) (by omega) (by omega) (by omega), mo 63 (by omega) (by omega) (by omega) (by omega), mo 64 (by omega) (by omega) (by omega) (by omega)]; exact d4 p hp
    · intro a ha
      have ha : a < V 0 4 + 1 := ha
      show (if a = V 0 4 then v1 else V 2 a) ≤ 8 ∧ (if a = V 0 4 then v2 else V 3 a) ≤ 8 ∧ (if a = V 0 4 then v3 else V 4 a) ≤ 8
      by_cases g : a = V 0 4
      · rw [if_pos g, if_pos g, if_pos g]; exact ⟨u1, u2, u3⟩
      · rw [if_neg g, if_neg g, if_neg g]; exact d5.2.2 a (by omega)
    · intro p hp
      have := d6 p hp
      show Q 0 p < V 0 4 + 1 ∧ _
      exact ⟨by omega, this.2⟩
theorem paperJ (hT : wfT tx) (hw : 36 ≤ w) (q : Int32) (J : JJ hc hm tx i i 0 fp) (D : DD w hc hm V Q) (h5 : V 0 5 < 4) : ∃ hc2 hm2, fX5_readPaper hc w = some hc2 ∧ fX8_takePaper hm q = some hm2 ∧ CO w tx i hc hm hc2 hm2 := by
  obtain ⟨c1, m1, rc1, rm1, i1, k1, f1, p1, a1, b1, J1, C1, M1, G1⟩ := numJ hT 0 (nI (V 0 4) - 1) J
  have J1' : JJ (aU c1 (w + 5) (V 0 5) rc1) (aU m1 62 (4 + V 0 5) rm1) tx i1 k1 f1 p1 := JJ_c (aU_ne (by omega)) (aU_ne (by omega)) (fun j _ => by rw [aU_ne (by omega)]) (aU_ne (by omega)) J1
  obtain ⟨c2, m2, rc2, rm2, i2, k2, f2, p2, a2, b2, J2, C2, M2, G2⟩ := numJ hT 0 95 J1'
  have J2' : JJ (aU c2 (w + 6) (V 0 5) rc2) (aU m2 63 (4 + V 0 5) rm2) tx i2 k2 f2 p2 := JJ_c (aU_ne (by omega)) (aU_ne (by omega)) (fun j _ => by rw [aU_ne (by omega)]) (aU_ne (by omega)) J2
  obtain ⟨c3, m3, rc3, rm3, i3, k3, f3, p3, a3, b3, J3, C3, M3, G3⟩ := numJ hT 1 12 J2'
  have J3' : JJ (aU (aU c3 (w + 7) (V 0 5) rc3) w 6 (nI (V 0 5 + 1))) (aU (aU m3 64 (4 + V 0 5) rm3) 54 17 (nI (V 0 5 + 1))) tx i3 k3 f3 p3 := JJ_c (by rw [aU_ne (by omega), aU_ne (by omega)]) (by rw [aU_ne (by omega), aU_ne (by omega)]) (fun j hj => by simp only [aU_rd, if_true]; rw [if_neg (by omega), if_neg (by omega)]) (by rw [aU_ne (by omega), aU_ne (by omega)]) J3
  obtain ⟨d1, d2, d3, d4, d5, d6⟩ := D
  have tc5 : hc w 5 = nI (V 0 4) := d1.1.2.2.2.2.2.1
  have tm12 : hm 54 12 = nI (V 0 4) := d3.1.2.2.2.2.2.1
  have tc : hc w 6 = nI (V 0 5) := d1.1.2.2.2.2.2.2
  have tm : hm 54 17 = nI (V 0 5) := d3.1.2.2.2.2.2.2
  have tm1 : m1 54 17 = nI (V 0 5) := by rw [M1.2 17 (by omega), tm]
  have tm2 : m2 54 17 = nI (V 0 5) := by rw [M2.2 17 (by omega), aU_ne (by omega), tm1]
  have tm3 : m3 54 17 = nI (V 0 5) := by rw [M3.2 17 (by omega), aU_ne (by omega), tm2]
  have co : ∀ k, k ≠ 1 → k ≠ w → k ≠ w + 5 → k ≠ w + 6 → k ≠ w + 7 → aU (aU c3 (w + 7) (V 0 5) rc3) w 6 (nI (V 0 5 + 1)) k = hc k := by
    intro k x y y2 y3 y4
    rw [aU_ne y, aU_ne y4, C3 k x, aU_ne y3, C2 k x, aU_ne y2, C1 k x]
  have cw : ∀ j, j ≠ 6 → aU (aU c3 (w + 7) (V 0 5) rc3) w 6 (nI (V 0 5 + 1)) w j = hc w j := by
    intro j hj
    simp only [aU_rd, if_true]
    rw [if_neg hj, if_neg (by omega), C3 w (by omega), aU_ne (by omega), C2 w (by omega), aU_ne (by omega), C1 w (by omega)]
  have cw2 : ∀ j, aU (aU c3 (w + 7) (V 0 5) rc3) w 6 (nI (V 0 5 + 1)) (w + 5) j = if j = V 0 5 then rc1 else hc (w + 5) j := by
    intro j
    rw [aU_ne (by omega), aU_ne (by omega), C3 _ (by omega), aU_ne (by omega), C2 _ (by omega)]
    simp only [aU_rd, if_true]
    rw [C1 _ (by omega)]
  have cw3 : ∀ j, aU (aU c3 (w + 7) (V 0 5) rc3) w 6 (nI (V 0 5 + 1)) (w + 6) j = if j = V 0 5 then rc2 else hc (w + 6) j := by
    intro j
    rw [aU_ne (by omega), aU_ne (by omega), C3 _ (by omega)]
    simp only [aU_rd, if_true]
    rw [C2 _ (by omega), aU_ne (by omega), C1 _ (by omega)]
  have cw4 : ∀ j, aU (aU c3 (w + 7) (V 0 5) rc3) w 6 (nI (V 0 5 + 1)) (w + 7) j = if j = V 0 5 then rc3 else hc (w + 7) j := by
    intro j
    rw [aU_ne (by omega)]
    simp only [aU_rd, if_true]
    rw [C3 _ (by omega), aU_ne (by omega), C2 _ (by omega), aU_ne (by omega), C1 _ (by omega)]
  have m54 : ∀ j, j < 20 ∨ 23 < j → j ≠ 17 → aU (aU m3 64 (4 + V 0 5) rm3) 54 17 (nI (V 0 5 + 1)) 54 j = hm 54 j := by
    intro j hj h12
    simp only [aU_rd, if_true]
    rw [if_neg h12, if_neg (by omega), M3.2 j hj, aU_ne (by omega), M2.2 j hj, aU_ne (by omega), M1.2 j hj]
  have mo : ∀ k, k ≠ 54 → k ≠ 62 → k ≠ 63 → k ≠ 64 → aU (aU m3 64 (4 + V 0 5) rm3) 54 17 (nI (V 0 5 + 1)) k = hm k := by
    intro k x y y2 y3
    rw [aU_ne x, aU_ne y3, M3.1 k x, aU_ne y2, M2.1 k x, aU_ne y, M1.1 k x]
  have m59 : ∀ j, aU (aU m3 64 (4 + V 0 5) rm3) 54 17 (nI (V 0 5 + 1)) 62 j = if j = 4 + V 0 5 then rm1 else hm 62 j := by
    intro j
    rw [aU_ne (by omega), aU_ne (by omega), M3.1 _ (by omega), aU_ne (by omega), M2.1 _ (by omega)]
    simp only [aU_rd, if_true]
    rw [M1.1 _ (by omega)]
  have m60 : ∀ j, aU (aU m3 64 (4 + V 0 5) rm3) 54 17 (nI (V 0 5 + 1)) 63 j = if j = 4 + V 0 5 then rm2 else hm 63 j := by
    intro j
    rw [aU_ne (by omega), aU_ne (by omega), M3.1 _ (by omega)]
    simp only [aU_rd, if_true]
    rw [M2.1 _ (by omega), aU_ne (by omega), M1.1 _ (by omega)]
  have m61 : ∀ j, aU (aU m3 64 (4 + V 0 5) rm3) 54 17 (nI (V 0 5 + 1)) 64 j = if j = 4 + V 0 5 then rm3 else hm 64 j := by
    intro j
    rw [aU_ne (by omega)]
    simp only [aU_rd, if_true]
    rw [M3.1 _ (by omega), aU_ne (by omega), M2.1 _ (by omega), aU_ne (by omega), M1.1 _ (by omega)]
  refine ⟨_, _, ?_, ?_, i3, k3, f3, p3, J3', ?_, ?_, ?_⟩
  · unfold fX5_readPaper
    rw [tc, tc5, if_neg (nI_pos (by omega)), if_pos (show nI _ < 4 from nI_lt (b := 4) h5 (by omega)), a1, bn2_s, if_pos (ck_t h5 (by omega)), tn_nI (by omega), a2, bn2_s, a3, bn2_s, nI_1]
  · unfold fX8_takePaper
    rw [tm, if_neg (show ¬ 4 ≤ nI _ from nI_ge (b := 4) h5 (by omega)), want_1 J.2.1, bn2_s, bi_it, tm12, b1, bn2_s, tm, tm1, four_i, if_pos (ck_t (by omega) (by omega)), tn_nI (by omega), b2, bn2_s, tm2, four_i, if_pos (ck_t (by omega) (by omega)), tn_nI (by omega), b3, bn2_s, tm3, nI_1]
    exact if_pos (ck_t (by omega) (by omega))
  · exact fun k x y => co k x (by omega) (by omega) (by omega) (by omega)
  · exact ⟨fun k x y => mo k x (by omega) (by omega) (by omega), fun j x _ _ _ y => m54 j x y, fun j x => by rw [mo 57 (by omega) (by omega) (by omega) (by omega)], fun j x => by rw [mo 58 (by omega) (by omega) (by omega) (by omega)], fun k x y j hj => by rw [mo k (by omega) (by omega) (by omega) (by omega)]⟩
  · intro z
    obtain ⟨z2, l3, v3, e3, g3, o3, u3, t3⟩ := G3 z
    obtain ⟨z1, l2, v2, e2, g2, _, u2, t2⟩ := G2 z2
    obtain ⟨_, l1, v1, e1, g1, _, u1, t1⟩ := G1 z1
    have d4' : V 0 4 ≤ 4 := d5.1.2.2.2.2.1
    have u1 := le_mI t1 d4' u1
    have u2 := le_lit (n := 95) t2 (by omega) u2
    have u3 := le_lit (n := 12) t3 (by omega) u3
    have o3 : 1 ≤ v3 := by
      rw [fa_le, nI_toInt (by omega)] at o3
      have o3 : (1 : Int) ≤ v3 := o3
      omega
    refine ⟨by omega, fun a b => if a = 0 then (if b = 5 then V 0 5 + 1 else V 0 b) else V a b, fun a b => if b = V 0 5 then (if a = 0 then v1 else if a = 1 then v2 else v3) else Q a b, ⟨⟨?_, ?_, ?_, ?_, ?_, ?_, ?_⟩, ?_, ?_⟩, ?_, ⟨⟨?_, ?_, ?_, ?_, ?_, ?_, ?_⟩, ?_, ?_⟩, ?_, ⟨⟨d5.1.1, d5.1.2.1, d5.1.2.2.1, d5.1.2.2.2.1, d4', h5, d5.1.2.2.2.2.2.2⟩, d5.2.1, d5.2.2⟩, ?_⟩
    · rw [cw 0 (by omega)]; exact d1.1.1
    · rw [cw 1 (by omega)]; exact d1.1.2.1
    · rw [cw 2 (by omega)]; exact d1.1.2.2.1
    · rw [cw 3 (by omega)]; exact d1.1.2.2.2.1
    · rw [cw 4 (by omega)]; exact d1.1.2.2.2.2.1
    · rw [cw 5 (by omega)]; exact d1.1.2.2.2.2.2.1
    · simp only [aU_rd, if_true]
    · intro k hk
      rw [co _ (by omega) (by omega) (by omega) (by omega) (by omega)]; exact d1.2.1 k hk
    · intro a ha
      rw [co _ (by omega) (by omega) (by omega) (by omega) (by omega), co _ (by omega) (by omega) (by omega) (by omega) (by omega), co _ (by omega) (by omega) (by omega) (by omega) (by omega)]; exact d1.2.2 a ha
    · intro p hp
      have hp : p < V 0 5 + 1 := hp
      rw [cw2, cw3, cw4, e1, e2, e3]
      show (if p = V 0 5 then nI v1 else hc (w + 5) p) = nI (if p = V 0 5 then v1 else Q 0 p) ∧ (if p = V 0 5 then nI v2 else hc (w + 6) p) = nI (if p = V 0 5 then v2 else Q 1 p) ∧ (if p = V 0 5 then nI v3 else hc (w + 7) p) = nI (if p = V 0 5 then v3 else Q 2 p)
      by_cases g : p = V 0 5
      · rw [if_pos g, if_pos g, if_pos g, if_pos g, if_pos g, if_pos g]; exact ⟨rfl, rfl, rfl⟩
      · rw [if_neg g, if_neg g, if_neg g, if_neg g, if_neg g, if_neg g]; exact d2 p (by omega)
    · rw [m54 3 (by omega) (by omega)]; exact d3.1.1
    · rw [mo 57 (by omega) (by omega) (by omega) (by omega)]; exact d3.1.2.1
    · rw [mo 57 (by omega) (by omega) (by omega) (by omega)]; exact d3.1.2.2.1
    · rw [mo 57 (by omega) (by omega) (by omega) (by omega)]; exact d3.1.2.2.2.1
    · rw [m54 7 (by omega) (by omega)]; exact d3.1.2.2.2.2.1
    · rw [m54 12 (by omega) (by omega)]; exact d3.1.2.2.2.2.2.1
    · simp only [aU_rd, if_true]
    · intro k hk
      rw [mo 58 (by omega) (by omega) (by omega) (by omega)]; exact d3.2.1 k hk
    · intro a ha
      rw [mo 59 (by omega) (by omega) (by omega) (by omega), mo 60 (by omega) (by omega) (by omega) (by omega), mo 61 (by omega) (by omega) (by omega) (by omega)]; exact d3.2.2 a ha
    · intro p hp
      have hp : p < V 0 5 + 1 := hp
      rw [m59, m60, m61, g1, g2, g3]
      show (if 4 + p = 4 + V 0 5 then nI v1 else hm 62 (4 + p)) = nI (if p = V 0 5 then v1 else Q 0 p) ∧ (if 4 + p = 4 + V 0 5 then nI v2 else hm 63 (4 + p)) = nI (if p = V 0 5 then v2 else Q 1 p) ∧ (if 4 + p = 4 + V 0 5 then nI v3 else hm 64 (4 + p)) = nI (if p = V 0 5 then v3 else Q 2 p)
      by_cases g : p = V 0 5
      · have g' : 4 + p = 4 + V 0 5 := by omega
        rw [if_pos g, if_pos g, if_pos g, if_pos g', if_pos g', if_pos g']; exact ⟨rfl, rfl, rfl⟩
      · have g' : ¬ 4 + p = 4 + V 0 5 := by omega
        rw [if_neg g, if_neg g, if_neg g, if_neg g', if_neg g', if_neg g']; exact d4 p (by omega)
    · intro p hp
      have hp : p < V 0 5 + 1 := hp
      show (if p = V 0 5 then v1 else Q 0 p) < V 0 4 ∧ (if p = V 0 5 then v2 else Q 1 p) ≤ 95 ∧ 1 ≤ (if p = V 0 5 then v3 else Q 2 p) ∧ (if p = V 0 5 then v3 else Q 2 p) ≤ 12
      by_cases g : p = V 0 5
      · rw [if_pos g, if_pos g, if_pos g]; exact ⟨u1, u2, o3, u3⟩
      · rw [if_neg g, if_neg g, if_neg g]; exact d6 p (by omega)
end Clause
