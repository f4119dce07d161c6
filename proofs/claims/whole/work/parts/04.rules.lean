section Rules
variable {sp : Nat × (Nat → Int32)} {M : aM} {pc : Nat} {ls st : List Value} {h h2 : aH} {o : Option Value}
theorem R_iconst {n : Int} {v : Int32} (hd : decode (mB M) pc = .ok (.iconst n, 1)) (hv : Int32.ofInt n = v) (k : Rn sp M (pc + 1) ls (.int v :: st) h o h2) : Rn sp M pc ls st h o h2 := by
  intro l p e s m args below meth c D ad cA A cells slots Q C F H locs lc hl hP hS
  exact lv_iconst C.1 C.2.1 hd hv (k l p e s m args below meth c D ad cA A cells slots Q C F H locs lc hl hP hS)
theorem R_bipush {n : Int} {v : Int32} (hd : decode (mB M) pc = .ok (.bipush n, 2)) (hv : (Int8.ofInt n).toInt32 = v) (k : Rn sp M (pc + 2) ls (.int v :: st) h o h2) : Rn sp M pc ls st h o h2 := by
  intro l p e s m args below meth c D ad cA A cells slots Q C F H locs lc hl hP hS
  exact lv_bipush C.1 C.2.1 hd hv (k l p e s m args below meth c D ad cA A cells slots Q C F H locs lc hl hP hS)
theorem R_sipush {n : Int} {v : Int32} (hd : decode (mB M) pc = .ok (.sipush n, 3)) (hv : (Int16.ofInt n).toInt32 = v) (k : Rn sp M (pc + 3) ls (.int v :: st) h o h2) : Rn sp M pc ls st h o h2 := by
  intro l p e s m args below meth c D ad cA A cells slots Q C F H locs lc hl hP hS
  exact lv_sipush C.1 C.2.1 hd hv (k l p e s m args below meth c D ad cA A cells slots Q C F H locs lc hl hP hS)
theorem R_lconst {n : Fin 2} {v : Int64} (hd : decode (mB M) pc = .ok (.lconst n, 1)) (hv : Int64.ofNat (n : Nat) = v) (k : Rn sp M (pc + 1) ls (.long v :: st) h o h2) : Rn sp M pc ls st h o h2 := by
  intro l p e s m args below meth c D ad cA A cells slots Q C F H locs lc hl hP hS
  exact lv_lconst C.1 C.2.1 hd hv (k l p e s m args below meth c D ad cA A cells slots Q C F H locs lc hl hP hS)
theorem R_ldc {i : Nat} {v : Int32} (hd : decode (mB M) pc = .ok (.ldc i, 2)) (hc : Cond.constant (mO M) i v ∈ aT) (k : Rn sp M (pc + 2) ls (.int v :: st) h o h2) : Rn sp M pc ls st h o h2 := by
  intro l p e s m args below meth c D ad cA A cells slots Q C F H locs lc hl hP hS
  exact lv_ldc C.1 C.2.1 C.2.2.2.1 (C.2.2.2.2.1 _ hc) hd (k l p e s m args below meth c D ad cA A cells slots Q C F H locs lc hl hP hS)
theorem R_ldcw {i : Nat} {v : Int32} (hd : decode (mB M) pc = .ok (.ldc_w i, 3)) (hc : Cond.constant (mO M) i v ∈ aT) (k : Rn sp M (pc + 3) ls (.int v :: st) h o h2) : Rn sp M pc ls st h o h2 := by
  intro l p e s m args below meth c D ad cA A cells slots Q C F H locs lc hl hP hS
  exact lv_ldcw C.1 C.2.1 C.2.2.2.1 (C.2.2.2.2.1 _ hc) hd (k l p e s m args below meth c D ad cA A cells slots Q C F H locs lc hl hP hS)
theorem R_ldc2 {i : Nat} {v : Int64} (hd : decode (mB M) pc = .ok (.ldc2_w i, 3)) (hc : Cond.constantLong (mO M) i v ∈ aT) (k : Rn sp M (pc + 3) ls (.long v :: st) h o h2) : Rn sp M pc ls st h o h2 := by
  intro l p e s m args below meth c D ad cA A cells slots Q C F H locs lc hl hP hS
  exact lv_ldc2 C.1 C.2.1 C.2.2.2.1 (C.2.2.2.2.1 _ hc) hd (k l p e s m args below meth c D ad cA A cells slots Q C F H locs lc hl hP hS)
theorem R_iload_n {n : Fin 4} {i : Nat} {x : Int32} (hd : decode (mB M) pc = .ok (.iload_n n, 1)) (hi : (n : Nat) = i) (hx : ls[i]? = some (.int x)) (k : Rn sp M (pc + 1) ls (.int x :: st) h o h2) : Rn sp M pc ls st h o h2 := by
  intro l p e s m args below meth c D ad cA A cells slots Q C F H locs lc hl hP hS
  exact lv_iload_n C.1 C.2.1 hd hi (hl.2.2 i (.int x) hx (fun z => by cases z)) (k l p e s m args below meth c D ad cA A cells slots Q C F H locs lc hl hP hS)
theorem R_iload {i : Nat} {x : Int32} (hd : decode (mB M) pc = .ok (.iload i, 2)) (hx : ls[i]? = some (.int x)) (k : Rn sp M (pc + 2) ls (.int x :: st) h o h2) : Rn sp M pc ls st h o h2 := by
  intro l p e s m args below meth c D ad cA A cells slots Q C F H locs lc hl hP hS
  exact lv_iload C.1 C.2.1 hd (hl.2.2 i (.int x) hx (fun z => by cases z)) (k l p e s m args below meth c D ad cA A cells slots Q C F H locs lc hl hP hS)
theorem R_lload_n {n : Fin 4} {i : Nat} {x : Int64} (hd : decode (mB M) pc = .ok (.lload_n n, 1)) (hi : (n : Nat) = i) (hx : ls[i]? = some (.long x)) (k : Rn sp M (pc + 1) ls (.long x :: st) h o h2) : Rn sp M pc ls st h o h2 := by
  intro l p e s m args below meth c D ad cA A cells slots Q C F H locs lc hl hP hS
  exact lv_lload_n C.1 C.2.1 hd hi (hl.2.2 i (.long x) hx (fun z => by cases z)) (k l p e s m args below meth c D ad cA A cells slots Q C F H locs lc hl hP hS)
theorem R_lload {i : Nat} {x : Int64} (hd : decode (mB M) pc = .ok (.lload i, 2)) (hx : ls[i]? = some (.long x)) (k : Rn sp M (pc + 2) ls (.long x :: st) h o h2) : Rn sp M pc ls st h o h2 := by
  intro l p e s m args below meth c D ad cA A cells slots Q C F H locs lc hl hP hS
  exact lv_lload C.1 C.2.1 hd (hl.2.2 i (.long x) hx (fun z => by cases z)) (k l p e s m args below meth c D ad cA A cells slots Q C F H locs lc hl hP hS)
theorem R_aload_n {n : Fin 4} {i x : Nat} (hd : decode (mB M) pc = .ok (.aload_n n, 1)) (hi : (n : Nat) = i) (hx : ls[i]? = some (.ref x)) (k : Rn sp M (pc + 1) ls (.ref x :: st) h o h2) : Rn sp M pc ls st h o h2 := by
  intro l p e s m args below meth c D ad cA A cells slots Q C F H locs lc hl hP hS
  exact lv_aload_n C.1 C.2.1 hd hi (hl.2.2 i (.ref x) hx (fun z => by cases z)) (k l p e s m args below meth c D ad cA A cells slots Q C F H locs lc hl hP hS)
theorem R_iadd {x y : Int32} (hd : decode (mB M) pc = .ok (.iadd, 1))  (k : Rn sp M (pc + 1) ls (.int (x + y) :: st) h o h2) : Rn sp M pc ls (.int y :: .int x :: st) h o h2 := by
  intro l p e s m args below meth c D ad cA A cells slots Q C F H locs lc hl hP hS
  exact lv_iadd C.1 C.2.1 hd (k l p e s m args below meth c D ad cA A cells slots Q C F H locs lc hl hP hS)
theorem R_isub {x y : Int32} (hd : decode (mB M) pc = .ok (.isub, 1))  (k : Rn sp M (pc + 1) ls (.int (x - y) :: st) h o h2) : Rn sp M pc ls (.int y :: .int x :: st) h o h2 := by
  intro l p e s m args below meth c D ad cA A cells slots Q C F H locs lc hl hP hS
  exact lv_isub C.1 C.2.1 hd (k l p e s m args below meth c D ad cA A cells slots Q C F H locs lc hl hP hS)
theorem R_imul {x y : Int32} (hd : decode (mB M) pc = .ok (.imul, 1))  (k : Rn sp M (pc + 1) ls (.int (x * y) :: st) h o h2) : Rn sp M pc ls (.int y :: .int x :: st) h o h2 := by
  intro l p e s m args below meth c D ad cA A cells slots Q C F H locs lc hl hP hS
  exact lv_imul C.1 C.2.1 hd (k l p e s m args below meth c D ad cA A cells slots Q C F H locs lc hl hP hS)
theorem R_iand {x y : Int32} (hd : decode (mB M) pc = .ok (.iand, 1))  (k : Rn sp M (pc + 1) ls (.int (x &&& y) :: st) h o h2) : Rn sp M pc ls (.int y :: .int x :: st) h o h2 := by
  intro l p e s m args below meth c D ad cA A cells slots Q C F H locs lc hl hP hS
  exact lv_iand C.1 C.2.1 hd (k l p e s m args below meth c D ad cA A cells slots Q C F H locs lc hl hP hS)
theorem R_ior {x y : Int32} (hd : decode (mB M) pc = .ok (.ior, 1))  (k : Rn sp M (pc + 1) ls (.int (x ||| y) :: st) h o h2) : Rn sp M pc ls (.int y :: .int x :: st) h o h2 := by
  intro l p e s m args below meth c D ad cA A cells slots Q C F H locs lc hl hP hS
  exact lv_ior C.1 C.2.1 hd (k l p e s m args below meth c D ad cA A cells slots Q C F H locs lc hl hP hS)
theorem R_ishl {x y : Int32} (hd : decode (mB M) pc = .ok (.ishl, 1))  (k : Rn sp M (pc + 1) ls (.int (x <<< (y &&& 31)) :: st) h o h2) : Rn sp M pc ls (.int y :: .int x :: st) h o h2 := by
  intro l p e s m args below meth c D ad cA A cells slots Q C F H locs lc hl hP hS
  exact lv_ishl C.1 C.2.1 hd (k l p e s m args below meth c D ad cA A cells slots Q C F H locs lc hl hP hS)
theorem R_ishr {x y : Int32} (hd : decode (mB M) pc = .ok (.ishr, 1))  (k : Rn sp M (pc + 1) ls (.int (x >>> (y &&& 31)) :: st) h o h2) : Rn sp M pc ls (.int y :: .int x :: st) h o h2 := by
  intro l p e s m args below meth c D ad cA A cells slots Q C F H locs lc hl hP hS
  exact lv_ishr C.1 C.2.1 hd (k l p e s m args below meth c D ad cA A cells slots Q C F H locs lc hl hP hS)
theorem R_iushr {x y v : Int32} (hd : decode (mB M) pc = .ok (.iushr, 1)) (hv : (x.toUInt32 >>> (y.toUInt32 &&& Int32.toUInt32 31)).toInt32 = v) (k : Rn sp M (pc + 1) ls (.int v :: st) h o h2) : Rn sp M pc ls (.int y :: .int x :: st) h o h2 := by
  intro l p e s m args below meth c D ad cA A cells slots Q C F H locs lc hl hP hS
  exact lv_iushr C.1 C.2.1 hd hv (k l p e s m args below meth c D ad cA A cells slots Q C F H locs lc hl hP hS)
theorem R_idiv {x y : Int32} (hd : decode (mB M) pc = .ok (.idiv, 1)) (hne : ¬ y = 0) (k : Rn sp M (pc + 1) ls (.int (x / y) :: st) h o h2) : Rn sp M pc ls (.int y :: .int x :: st) h o h2 := by
  intro l p e s m args below meth c D ad cA A cells slots Q C F H locs lc hl hP hS
  exact lv_idiv C.1 C.2.1 hd hne (k l p e s m args below meth c D ad cA A cells slots Q C F H locs lc hl hP hS)
theorem R_irem {x y : Int32} (hd : decode (mB M) pc = .ok (.irem, 1)) (hne : ¬ y = 0) (k : Rn sp M (pc + 1) ls (.int (x - x / y * y) :: st) h o h2) : Rn sp M pc ls (.int y :: .int x :: st) h o h2 := by
  intro l p e s m args below meth c D ad cA A cells slots Q C F H locs lc hl hP hS
  exact lv_irem C.1 C.2.1 hd hne (k l p e s m args below meth c D ad cA A cells slots Q C F H locs lc hl hP hS)
theorem R_ladd {x y : Int64} (hd : decode (mB M) pc = .ok (.ladd, 1))  (k : Rn sp M (pc + 1) ls (.long (x + y) :: st) h o h2) : Rn sp M pc ls (.long y :: .long x :: st) h o h2 := by
  intro l p e s m args below meth c D ad cA A cells slots Q C F H locs lc hl hP hS
  exact lv_ladd C.1 C.2.1 hd (k l p e s m args below meth c D ad cA A cells slots Q C F H locs lc hl hP hS)
theorem R_lmul {x y : Int64} (hd : decode (mB M) pc = .ok (.lmul, 1))  (k : Rn sp M (pc + 1) ls (.long (x * y) :: st) h o h2) : Rn sp M pc ls (.long y :: .long x :: st) h o h2 := by
  intro l p e s m args below meth c D ad cA A cells slots Q C F H locs lc hl hP hS
  exact lv_lmul C.1 C.2.1 hd (k l p e s m args below meth c D ad cA A cells slots Q C F H locs lc hl hP hS)
theorem R_lrem {x y : Int64} (hd : decode (mB M) pc = .ok (.lrem, 1)) (hne : ¬ y = 0) (k : Rn sp M (pc + 1) ls (.long (x - x / y * y) :: st) h o h2) : Rn sp M pc ls (.long y :: .long x :: st) h o h2 := by
  intro l p e s m args below meth c D ad cA A cells slots Q C F H locs lc hl hP hS
  exact lv_lrem C.1 C.2.1 hd hne (k l p e s m args below meth c D ad cA A cells slots Q C F H locs lc hl hP hS)
theorem R_i2l {x : Int32} (hd : decode (mB M) pc = .ok (.i2l, 1))  (k : Rn sp M (pc + 1) ls (.long x.toInt64 :: st) h o h2) : Rn sp M pc ls (.int x :: st) h o h2 := by
  intro l p e s m args below meth c D ad cA A cells slots Q C F H locs lc hl hP hS
  exact lv_i2l C.1 C.2.1 hd rfl (k l p e s m args below meth c D ad cA A cells slots Q C F H locs lc hl hP hS)
theorem R_l2i {x : Int64} (hd : decode (mB M) pc = .ok (.l2i, 1))  (k : Rn sp M (pc + 1) ls (.int x.toInt32 :: st) h o h2) : Rn sp M pc ls (.long x :: st) h o h2 := by
  intro l p e s m args below meth c D ad cA A cells slots Q C F H locs lc hl hP hS
  exact lv_l2i C.1 C.2.1 hd rfl (k l p e s m args below meth c D ad cA A cells slots Q C F H locs lc hl hP hS)
theorem R_lcmp {x y : Int64} (hd : decode (mB M) pc = .ok (.lcmp, 1))  (k : Rn sp M (pc + 1) ls (.int (lg_cmp x y) :: st) h o h2) : Rn sp M pc ls (.long y :: .long x :: st) h o h2 := by
  intro l p e s m args below meth c D ad cA A cells slots Q C F H locs lc hl hP hS
  exact W.lcmp C.1 C.2.1 hd (k l p e s m args below meth c D ad cA A cells slots Q C F H locs lc hl hP hS)
theorem R_dup {v : Value} (hd : decode (mB M) pc = .ok (.dup, 1)) (hc : v.category = 1) (k : Rn sp M (pc + 1) ls (v :: v :: st) h o h2) : Rn sp M pc ls (v :: st) h o h2 := by
  intro l p e s m args below meth c D ad cA A cells slots Q C F H locs lc hl hP hS
  exact lv_dup C.1 C.2.1 hd (by rw [lf_cat]; exact hc) (k l p e s m args below meth c D ad cA A cells slots Q C F H locs lc hl hP hS)
theorem R_pop {v : Value} (hd : decode (mB M) pc = .ok (.pop, 1)) (hc : v.category = 1) (k : Rn sp M (pc + 1) ls st h o h2) : Rn sp M pc ls (v :: st) h o h2 := by
  intro l p e s m args below meth c D ad cA A cells slots Q C F H locs lc hl hP hS
  exact lv_pop C.1 C.2.1 hd (by rw [lf_cat]; exact hc) (k l p e s m args below meth c D ad cA A cells slots Q C F H locs lc hl hP hS)
theorem R_dup2 {v w : Value} (hd : decode (mB M) pc = .ok (.dup2, 1)) (hc : v.category = 1) (hc2 : w.category = 1) (k : Rn sp M (pc + 1) ls (v :: w :: v :: w :: st) h o h2) : Rn sp M pc ls (v :: w :: st) h o h2 := by
  intro l p e s m args below meth c D ad cA A cells slots Q C F H locs lc hl hP hS
  exact lv_dup2_11 C.1 C.2.1 hd (by rw [lf_cat]; exact hc) (by rw [lf_cat]; exact hc2) (k l p e s m args below meth c D ad cA A cells slots Q C F H locs lc hl hP hS)
theorem R_goto {off : Int} {tgt : Nat} (hd : decode (mB M) pc = .ok (.goto off, 3)) (ht : (pc : Int) + off = (tgt : Int)) (k : Rn sp M (tgt) ls st h o h2) : Rn sp M pc ls st h o h2 := by
  intro l p e s m args below meth c D ad cA A cells slots Q C F H locs lc hl hP hS
  exact lv_goto C.1 C.2.1 hd ht (k l p e s m args below meth c D ad cA A cells slots Q C F H locs lc hl hP hS)
theorem R_icmp_eq_t {x y : Int32} {off : Int} {tgt : Nat} (hd : decode (mB M) pc = .ok (.if_icmp .eq off, 3)) (ht : (pc : Int) + off = (tgt : Int)) (hc : x = y) (k : Rn sp M tgt ls st h o h2) : Rn sp M pc ls (.int y :: .int x :: st) h o h2 := by
  intro l p e s m args below meth c D ad cA A cells slots Q C F H locs lc hl hP hS
  exact lv_icmp_eq C.1 C.2.1 hd ht (fun _ => k l p e s m args below meth c D ad cA A cells slots Q C F H locs lc hl hP hS) (fun z => absurd hc z)
theorem R_icmp_eq_f {x y : Int32} {off : Int} {tgt : Nat} (hd : decode (mB M) pc = .ok (.if_icmp .eq off, 3)) (ht : (pc : Int) + off = (tgt : Int)) (hc : ¬ x = y) (k : Rn sp M (pc + 3) ls st h o h2) : Rn sp M pc ls (.int y :: .int x :: st) h o h2 := by
  intro l p e s m args below meth c D ad cA A cells slots Q C F H locs lc hl hP hS
  exact lv_icmp_eq C.1 C.2.1 hd ht (fun z => absurd z hc) (fun _ => k l p e s m args below meth c D ad cA A cells slots Q C F H locs lc hl hP hS)
theorem R_icmp_ne_t {x y : Int32} {off : Int} {tgt : Nat} (hd : decode (mB M) pc = .ok (.if_icmp .ne off, 3)) (ht : (pc : Int) + off = (tgt : Int)) (hc : ¬ x = y) (k : Rn sp M tgt ls st h o h2) : Rn sp M pc ls (.int y :: .int x :: st) h o h2 := by
  intro l p e s m args below meth c D ad cA A cells slots Q C F H locs lc hl hP hS
  exact lv_icmp_ne C.1 C.2.1 hd ht (fun _ => k l p e s m args below meth c D ad cA A cells slots Q C F H locs lc hl hP hS) (fun z => absurd z hc)
theorem R_icmp_ne_f {x y : Int32} {off : Int} {tgt : Nat} (hd : decode (mB M) pc = .ok (.if_icmp .ne off, 3)) (ht : (pc : Int) + off = (tgt : Int)) (hc : x = y) (k : Rn sp M (pc + 3) ls st h o h2) : Rn sp M pc ls (.int y :: .int x :: st) h o h2 := by
  intro l p e s m args below meth c D ad cA A cells slots Q C F H locs lc hl hP hS
  exact lv_icmp_ne C.1 C.2.1 hd ht (fun z => absurd hc z) (fun _ => k l p e s m args below meth c D ad cA A cells slots Q C F H locs lc hl hP hS)
theorem R_icmp_lt_t {x y : Int32} {off : Int} {tgt : Nat} (hd : decode (mB M) pc = .ok (.if_icmp .lt off, 3)) (ht : (pc : Int) + off = (tgt : Int)) (hc : x < y) (k : Rn sp M tgt ls st h o h2) : Rn sp M pc ls (.int y :: .int x :: st) h o h2 := by
  intro l p e s m args below meth c D ad cA A cells slots Q C F H locs lc hl hP hS
  exact lv_icmp_lt C.1 C.2.1 hd ht (fun _ => k l p e s m args below meth c D ad cA A cells slots Q C F H locs lc hl hP hS) (fun z => absurd hc z)
theorem R_icmp_lt_f {x y : Int32} {off : Int} {tgt : Nat} (hd : decode (mB M) pc = .ok (.if_icmp .lt off, 3)) (ht : (pc : Int) + off = (tgt : Int)) (hc : ¬ x < y) (k : Rn sp M (pc + 3) ls st h o h2) : Rn sp M pc ls (.int y :: .int x :: st) h o h2 := by
  intro l p e s m args below meth c D ad cA A cells slots Q C F H locs lc hl hP hS
  exact lv_icmp_lt C.1 C.2.1 hd ht (fun z => absurd z hc) (fun _ => k l p e s m args below meth c D ad cA A cells slots Q C F H locs lc hl hP hS)
theorem R_icmp_ge_t {x y : Int32} {off : Int} {tgt : Nat} (hd : decode (mB M) pc = .ok (.if_icmp .ge off, 3)) (ht : (pc : Int) + off = (tgt : Int)) (hc : y ≤ x) (k : Rn sp M tgt ls st h o h2) : Rn sp M pc ls (.int y :: .int x :: st) h o h2 := by
  intro l p e s m args below meth c D ad cA A cells slots Q C F H locs lc hl hP hS
  exact lv_icmp_ge C.1 C.2.1 hd ht (fun _ => k l p e s m args below meth c D ad cA A cells slots Q C F H locs lc hl hP hS) (fun z => absurd hc z)
theorem R_icmp_ge_f {x y : Int32} {off : Int} {tgt : Nat} (hd : decode (mB M) pc = .ok (.if_icmp .ge off, 3)) (ht : (pc : Int) + off = (tgt : Int)) (hc : ¬ y ≤ x) (k : Rn sp M (pc + 3) ls st h o h2) : Rn sp M pc ls (.int y :: .int x :: st) h o h2 := by
  intro l p e s m args below meth c D ad cA A cells slots Q C F H locs lc hl hP hS
  exact lv_icmp_ge C.1 C.2.1 hd ht (fun z => absurd z hc) (fun _ => k l p e s m args below meth c D ad cA A cells slots Q C F H locs lc hl hP hS)
theorem R_icmp_gt_t {x y : Int32} {off : Int} {tgt : Nat} (hd : decode (mB M) pc = .ok (.if_icmp .gt off, 3)) (ht : (pc : Int) + off = (tgt : Int)) (hc : y < x) (k : Rn sp M tgt ls st h o h2) : Rn sp M pc ls (.int y :: .int x :: st) h o h2 := by
  intro l p e s m args below meth c D ad cA A cells slots Q C F H locs lc hl hP hS
  exact lv_icmp_gt C.1 C.2.1 hd ht (fun _ => k l p e s m args below meth c D ad cA A cells slots Q C F H locs lc hl hP hS) (fun z => absurd hc z)
theorem R_icmp_gt_f {x y : Int32} {off : Int} {tgt : Nat} (hd : decode (mB M) pc = .ok (.if_icmp .gt off, 3)) (ht : (pc : Int) + off = (tgt : Int)) (hc : ¬ y < x) (k : Rn sp M (pc + 3) ls st h o h2) : Rn sp M pc ls (.int y :: .int x :: st) h o h2 := by
  intro l p e s m args below meth c D ad cA A cells slots Q C F H locs lc hl hP hS
  exact lv_icmp_gt C.1 C.2.1 hd ht (fun z => absurd z hc) (fun _ => k l p e s m args below meth c D ad cA A cells slots Q C F H locs lc hl hP hS)
theorem R_icmp_le_t {x y : Int32} {off : Int} {tgt : Nat} (hd : decode (mB M) pc = .ok (.if_icmp .le off, 3)) (ht : (pc : Int) + off = (tgt : Int)) (hc : x ≤ y) (k : Rn sp M tgt ls st h o h2) : Rn sp M pc ls (.int y :: .int x :: st) h o h2 := by
  intro l p e s m args below meth c D ad cA A cells slots Q C F H locs lc hl hP hS
  exact lv_icmp_le C.1 C.2.1 hd ht (fun _ => k l p e s m args below meth c D ad cA A cells slots Q C F H locs lc hl hP hS) (fun z => absurd hc z)
theorem R_icmp_le_f {x y : Int32} {off : Int} {tgt : Nat} (hd : decode (mB M) pc = .ok (.if_icmp .le off, 3)) (ht : (pc : Int) + off = (tgt : Int)) (hc : ¬ x ≤ y) (k : Rn sp M (pc + 3) ls st h o h2) : Rn sp M pc ls (.int y :: .int x :: st) h o h2 := by
  intro l p e s m args below meth c D ad cA A cells slots Q C F H locs lc hl hP hS
  exact lv_icmp_le C.1 C.2.1 hd ht (fun z => absurd z hc) (fun _ => k l p e s m args below meth c D ad cA A cells slots Q C F H locs lc hl hP hS)
theorem R_if_eq_t {x : Int32} {off : Int} {tgt : Nat} (hd : decode (mB M) pc = .ok (.ifCond .eq off, 3)) (ht : (pc : Int) + off = (tgt : Int)) (hc : x = 0) (k : Rn sp M tgt ls st h o h2) : Rn sp M pc ls (.int x :: st) h o h2 := by
  intro l p e s m args below meth c D ad cA A cells slots Q C F H locs lc hl hP hS
  exact lv_if_eq C.1 C.2.1 hd ht (fun _ => k l p e s m args below meth c D ad cA A cells slots Q C F H locs lc hl hP hS) (fun z => absurd hc z)
theorem R_if_eq_f {x : Int32} {off : Int} {tgt : Nat} (hd : decode (mB M) pc = .ok (.ifCond .eq off, 3)) (ht : (pc : Int) + off = (tgt : Int)) (hc : ¬ x = 0) (k : Rn sp M (pc + 3) ls st h o h2) : Rn sp M pc ls (.int x :: st) h o h2 := by
  intro l p e s m args below meth c D ad cA A cells slots Q C F H locs lc hl hP hS
  exact lv_if_eq C.1 C.2.1 hd ht (fun z => absurd z hc) (fun _ => k l p e s m args below meth c D ad cA A cells slots Q C F H locs lc hl hP hS)
theorem R_if_ne_t {x : Int32} {off : Int} {tgt : Nat} (hd : decode (mB M) pc = .ok (.ifCond .ne off, 3)) (ht : (pc : Int) + off = (tgt : Int)) (hc : ¬ x = 0) (k : Rn sp M tgt ls st h o h2) : Rn sp M pc ls (.int x :: st) h o h2 := by
  intro l p e s m args below meth c D ad cA A cells slots Q C F H locs lc hl hP hS
  exact lv_if_ne C.1 C.2.1 hd ht (fun _ => k l p e s m args below meth c D ad cA A cells slots Q C F H locs lc hl hP hS) (fun z => absurd z hc)
theorem R_if_ne_f {x : Int32} {off : Int} {tgt : Nat} (hd : decode (mB M) pc = .ok (.ifCond .ne off, 3)) (ht : (pc : Int) + off = (tgt : Int)) (hc : x = 0) (k : Rn sp M (pc + 3) ls st h o h2) : Rn sp M pc ls (.int x :: st) h o h2 := by
  intro l p e s m args below meth c D ad cA A cells slots Q C F H locs lc hl hP hS
  exact lv_if_ne C.1 C.2.1 hd ht (fun z => absurd hc z) (fun _ => k l p e s m args below meth c D ad cA A cells slots Q C F H locs lc hl hP hS)
theorem R_if_lt_t {x : Int32} {off : Int} {tgt : Nat} (hd : decode (mB M) pc = .ok (.ifCond .lt off, 3)) (ht : (pc : Int) + off = (tgt : Int)) (hc : x < 0) (k : Rn sp M tgt ls st h o h2) : Rn sp M pc ls (.int x :: st) h o h2 := by
  intro l p e s m args below meth c D ad cA A cells slots Q C F H locs lc hl hP hS
  exact lv_if_lt C.1 C.2.1 hd ht (fun _ => k l p e s m args below meth c D ad cA A cells slots Q C F H locs lc hl hP hS) (fun z => absurd hc z)
theorem R_if_lt_f {x : Int32} {off : Int} {tgt : Nat} (hd : decode (mB M) pc = .ok (.ifCond .lt off, 3)) (ht : (pc : Int) + off = (tgt : Int)) (hc : ¬ x < 0) (k : Rn sp M (pc + 3) ls st h o h2) : Rn sp M pc ls (.int x :: st) h o h2 := by
  intro l p e s m args below meth c D ad cA A cells slots Q C F H locs lc hl hP hS
  exact lv_if_lt C.1 C.2.1 hd ht (fun z => absurd z hc) (fun _ => k l p e s m args below meth c D ad cA A cells slots Q C F H locs lc hl hP hS)
theorem R_if_ge_t {x : Int32} {off : Int} {tgt : Nat} (hd : decode (mB M) pc = .ok (.ifCond .ge off, 3)) (ht : (pc : Int) + off = (tgt : Int)) (hc : 0 ≤ x) (k : Rn sp M tgt ls st h o h2) : Rn sp M pc ls (.int x :: st) h o h2 := by
  intro l p e s m args below meth c D ad cA A cells slots Q C F H locs lc hl hP hS
  exact lv_if_ge C.1 C.2.1 hd ht (fun _ => k l p e s m args below meth c D ad cA A cells slots Q C F H locs lc hl hP hS) (fun z => absurd hc z)
theorem R_if_ge_f {x : Int32} {off : Int} {tgt : Nat} (hd : decode (mB M) pc = .ok (.ifCond .ge off, 3)) (ht : (pc : Int) + off = (tgt : Int)) (hc : ¬ 0 ≤ x) (k : Rn sp M (pc + 3) ls st h o h2) : Rn sp M pc ls (.int x :: st) h o h2 := by
  intro l p e s m args below meth c D ad cA A cells slots Q C F H locs lc hl hP hS
  exact lv_if_ge C.1 C.2.1 hd ht (fun z => absurd z hc) (fun _ => k l p e s m args below meth c D ad cA A cells slots Q C F H locs lc hl hP hS)
theorem R_if_gt_t {x : Int32} {off : Int} {tgt : Nat} (hd : decode (mB M) pc = .ok (.ifCond .gt off, 3)) (ht : (pc : Int) + off = (tgt : Int)) (hc : 0 < x) (k : Rn sp M tgt ls st h o h2) : Rn sp M pc ls (.int x :: st) h o h2 := by
  intro l p e s m args below meth c D ad cA A cells slots Q C F H locs lc hl hP hS
  exact lv_if_gt C.1 C.2.1 hd ht (fun _ => k l p e s m args below meth c D ad cA A cells slots Q C F H locs lc hl hP hS) (fun z => absurd hc z)
theorem R_if_gt_f {x : Int32} {off : Int} {tgt : Nat} (hd : decode (mB M) pc = .ok (.ifCond .gt off, 3)) (ht : (pc : Int) + off = (tgt : Int)) (hc : ¬ 0 < x) (k : Rn sp M (pc + 3) ls st h o h2) : Rn sp M pc ls (.int x :: st) h o h2 := by
  intro l p e s m args below meth c D ad cA A cells slots Q C F H locs lc hl hP hS
  exact lv_if_gt C.1 C.2.1 hd ht (fun z => absurd z hc) (fun _ => k l p e s m args below meth c D ad cA A cells slots Q C F H locs lc hl hP hS)
theorem R_if_le_t {x : Int32} {off : Int} {tgt : Nat} (hd : decode (mB M) pc = .ok (.ifCond .le off, 3)) (ht : (pc : Int) + off = (tgt : Int)) (hc : x ≤ 0) (k : Rn sp M tgt ls st h o h2) : Rn sp M pc ls (.int x :: st) h o h2 := by
  intro l p e s m args below meth c D ad cA A cells slots Q C F H locs lc hl hP hS
  exact lv_if_le C.1 C.2.1 hd ht (fun _ => k l p e s m args below meth c D ad cA A cells slots Q C F H locs lc hl hP hS) (fun z => absurd hc z)
theorem R_if_le_f {x : Int32} {off : Int} {tgt : Nat} (hd : decode (mB M) pc = .ok (.ifCond .le off, 3)) (ht : (pc : Int) + off = (tgt : Int)) (hc : ¬ x ≤ 0) (k : Rn sp M (pc + 3) ls st h o h2) : Rn sp M pc ls (.int x :: st) h o h2 := by
  intro l p e s m args below meth c D ad cA A cells slots Q C F H locs lc hl hP hS
  exact lv_if_le C.1 C.2.1 hd ht (fun z => absurd z hc) (fun _ => k l p e s m args below meth c D ad cA A cells slots Q C F H locs lc hl hP hS)
theorem R_tableIn {dflt lo hi : Int} {offs : Array Int} {len : Nat} {x : Int32} {off : Int} {tgt : Nat} (hd : decode (mB M) pc = .ok (.tableswitch dflt lo hi offs, len)) (h1 : ¬ x.toInt < lo) (h3 : ¬ hi < x.toInt) (ho : offs[(x.toInt - lo).toNat]? = some off) (ht : (pc : Int) + off = (tgt : Int)) (k : Rn sp M (tgt) ls st h o h2) : Rn sp M pc ls (.int x :: st) h o h2 := by
  intro l p e s m args below meth c D ad cA A cells slots Q C F H locs lc hl hP hS
  exact lv_tableIn C.1 C.2.1 hd h1 h3 ho ht (k l p e s m args below meth c D ad cA A cells slots Q C F H locs lc hl hP hS)
theorem R_tableOut {dflt lo hi : Int} {offs : Array Int} {len : Nat} {x : Int32} {tgt : Nat} (hd : decode (mB M) pc = .ok (.tableswitch dflt lo hi offs, len)) (h1 : x.toInt < lo ∨ hi < x.toInt) (ht : (pc : Int) + dflt = (tgt : Int)) (k : Rn sp M (tgt) ls st h o h2) : Rn sp M pc ls (.int x :: st) h o h2 := by
  intro l p e s m args below meth c D ad cA A cells slots Q C F H locs lc hl hP hS
  exact lv_tableOut C.1 C.2.1 hd h1 ht (k l p e s m args below meth c D ad cA A cells slots Q C F H locs lc hl hP hS)
theorem R_lookup {dflt : Int} {ps : Array (Int × Int)} {len : Nat} {x : Int32} {off : Int} {tgt : Nat} (hd : decode (mB M) pc = .ok (.lookupswitch dflt ps, len)) (hp : (ps.toList.zip (ps.toList.drop 1)).all (fun (a, next) => a.1 < next.1) = true) (ho : Op.lookupswitch.offset ps.toList dflt x.toInt = off) (ht : (pc : Int) + off = (tgt : Int)) (k : Rn sp M (tgt) ls st h o h2) : Rn sp M pc ls (.int x :: st) h o h2 := by
  intro l p e s m args below meth c D ad cA A cells slots Q C F H locs lc hl hP hS
  exact lv_lookup C.1 C.2.1 hd hp ho ht (k l p e s m args below meth c D ad cA A cells slots Q C F H locs lc hl hP hS)
theorem R_ret (hd : decode (mB M) pc = .ok (rI o, 1)) (hr : rOk M o) : Rn sp M pc ls o.toList h o h := by
  intro l p e s m args below meth c D ad cA A cells slots Q C F H locs lc hl hP hS
  exact F pc lc H locs hd hr hP hS
/-- storing: no long stands in the locals -/
theorem lsR_store {ad : Nat → Nat} {nL i : Nat} {lc : Array Slot} {v : Value} (hl : lsR ad ls nL lc) (hc : ls.all (fun w => w.category == 1) = true) : lv_has lc nL ((List.range ls.length).filterMap (fun j => (ls[j]?).bind (fun w => if w = .null then none else some (j, lf ad w)))) := by
  refine ⟨hl.1, hl.2.1, fun q hq => ?_⟩
  obtain ⟨j, -, hj⟩ := List.mem_filterMap.mp hq
  cases hw : ls[j]? with
  | none => rw [hw] at hj; cases hj
  | some w =>
    rw [hw] at hj
    by_cases hn : w = .null
    · simp [hn] at hj
    · simp only [Option.bind_some, if_neg hn, Option.some.injEq] at hj
      rw [← hj]
      exact hl.2.2 j w hw hn
theorem lsR_set {ad : Nat → Nat} {nL i : Nat} {lc lc' : Array Slot} {v : Value} (hl : lsR ad ls nL lc) (hc : ls.all (fun w => w.category == 1) = true) (hs : lv_has lc' nL ((i, lf ad v) :: ((List.range ls.length).filterMap (fun j => (ls[j]?).bind (fun w => if w = .null then none else some (j, lf ad w)))).filter (fun q => !(q.1 == i) && !(q.1 + 1 == i && q.2.category == 2)))) : lsR ad (ls.set i v) nL lc' := by
  refine ⟨hs.1, hs.2.1, fun j w hj hn => ?_⟩
  by_cases e : i = j
  · subst e
    rw [List.getElem?_set, if_pos rfl] at hj
    by_cases hlt : i < ls.length
    · rw [if_pos hlt] at hj
      cases hj
      exact hs.2.2 _ List.mem_cons_self
    · rw [if_neg hlt] at hj
      cases hj
  · rw [List.getElem?_set, if_neg e] at hj
    have hcat : w.category = 1 := by
      have := List.all_eq_true.mp hc w (List.mem_of_getElem? hj)
      simpa using this
    refine hs.2.2 (j, lf ad w) (List.mem_cons_of_mem _ (List.mem_filter.mpr ⟨List.mem_filterMap.mpr ⟨j, List.mem_range.mpr (List.getElem?_eq_some_iff.mp hj).1, by rw [hj]; simp [hn]⟩, ?_⟩))
    simp [lf_cat, hcat]
    exact fun z => e z.symm
theorem R_istore_n {n : Fin 4} {i : Nat} {x : Int32} (hd : decode (mB M) pc = .ok (.istore_n n, 1)) (hn : (n : Nat) = i) (hi : i < mL M) (hc : ls.all (fun w => w.category == 1) = true) (k : Rn sp M (pc + 1) (ls.set i (.int x)) st h o h2) : Rn sp M pc ls ((.int x) :: st) h o h2 := by
  intro l p e s m args below meth c D ad cA A cells slots Q C F H locs lc hl hP hS
  exact lv_istore_n C.1 C.2.1 hd hn (lsR_store (i := i) (v := (.int x)) hl hc) hi rfl (fun lc2 hs => k l p e s m args below meth c D ad cA A cells slots Q C F H locs lc2 (lsR_set hl hc hs) hP hS)
theorem R_istore {i : Nat} {x : Int32} (hd : decode (mB M) pc = .ok (.istore i, 2))  (hi : i < mL M) (hc : ls.all (fun w => w.category == 1) = true) (k : Rn sp M (pc + 2) (ls.set i (.int x)) st h o h2) : Rn sp M pc ls ((.int x) :: st) h o h2 := by
  intro l p e s m args below meth c D ad cA A cells slots Q C F H locs lc hl hP hS
  exact lv_istore C.1 C.2.1 hd (lsR_store (i := i) (v := (.int x)) hl hc) hi rfl (fun lc2 hs => k l p e s m args below meth c D ad cA A cells slots Q C F H locs lc2 (lsR_set hl hc hs) hP hS)
theorem R_astore_n {n : Fin 4} {i x : Nat} (hd : decode (mB M) pc = .ok (.astore_n n, 1)) (hn : (n : Nat) = i) (hi : i < mL M) (hc : ls.all (fun w => w.category == 1) = true) (k : Rn sp M (pc + 1) (ls.set i (.ref x)) st h o h2) : Rn sp M pc ls ((.ref x) :: st) h o h2 := by
  intro l p e s m args below meth c D ad cA A cells slots Q C F H locs lc hl hP hS
  exact lv_astore_n C.1 C.2.1 hd hn (lsR_store (i := i) (v := (.ref x)) hl hc) hi rfl (fun lc2 hs => k l p e s m args below meth c D ad cA A cells slots Q C F H locs lc2 (lsR_set hl hc hs) hP hS)
theorem R_iinc {i : Nat} {n : Int} {x v : Int32} (hd : decode (mB M) pc = .ok (.iinc i n, 3)) (hx : ls[i]? = some (.int x)) (hv : x + Int32.ofInt n = v) (hi : i < mL M) (hc : ls.all (fun w => w.category == 1) = true) (k : Rn sp M (pc + 3) (ls.set i (.int v)) st h o h2) : Rn sp M pc ls st h o h2 := by
  intro l p e s m args below meth c D ad cA A cells slots Q C F H locs lc hl hP hS
  have hb := lsR_store (i := i) (v := .int v) hl hc
  have hm : (i, Value.int x) ∈ (List.range ls.length).filterMap (fun j => (ls[j]?).bind (fun w => if w = .null then none else some (j, lf ad w))) := List.mem_filterMap.mpr ⟨i, List.mem_range.mpr (List.getElem?_eq_some_iff.mp hx).1, by rw [hx]; rfl⟩
  obtain ⟨q, hq⟩ := List.getElem?_of_mem hm
  exact lv_iinc C.1 C.2.1 hd hb hq hv hi rfl (fun lc2 hs => k l p e s m args below meth c D ad cA A cells slots Q C F H locs lc2 (lsR_set hl hc hs) hP hS)
end Rules
