theorem a_iconst {k : KT} {c0 s0 pc : Nat} {L : List (Nat × Value)} {S : List Value} {es : va_W} {n : Int} {v : Int32} (hd : decode (kC k) pc = .ok (.iconst n, 1)) (hv : Int32.ofInt n = v) (h : AW k c0 s0 (pc + 1) L (.int v :: S) es) : AW k c0 s0 pc L (S) es := by
  intro p e s m args below meth c C ls H locs hl hP hD hS
  exact lv_iconst C.1 C.2.1 hd hv (h p e s m args below meth c C ls H locs hl hP hD hS)
theorem a_bipush {k : KT} {c0 s0 pc : Nat} {L : List (Nat × Value)} {S : List Value} {es : va_W} {n : Int} {v : Int32} (hd : decode (kC k) pc = .ok (.bipush n, 2)) (hv : (Int8.ofInt n).toInt32 = v) (h : AW k c0 s0 (pc + 2) L (.int v :: S) es) : AW k c0 s0 pc L (S) es := by
  intro p e s m args below meth c C ls H locs hl hP hD hS
  exact lv_bipush C.1 C.2.1 hd hv (h p e s m args below meth c C ls H locs hl hP hD hS)
theorem a_sipush {k : KT} {c0 s0 pc : Nat} {L : List (Nat × Value)} {S : List Value} {es : va_W} {n : Int} {v : Int32} (hd : decode (kC k) pc = .ok (.sipush n, 3)) (hv : (Int16.ofInt n).toInt32 = v) (h : AW k c0 s0 (pc + 3) L (.int v :: S) es) : AW k c0 s0 pc L (S) es := by
  intro p e s m args below meth c C ls H locs hl hP hD hS
  exact lv_sipush C.1 C.2.1 hd hv (h p e s m args below meth c C ls H locs hl hP hD hS)
theorem a_lconst {k : KT} {c0 s0 pc : Nat} {L : List (Nat × Value)} {S : List Value} {es : va_W} {n : Fin 2} {v : Int64} (hd : decode (kC k) pc = .ok (.lconst n, 1)) (hv : Int64.ofNat (n : Nat) = v) (h : AW k c0 s0 (pc + 1) L (.long v :: S) es) : AW k c0 s0 pc L (S) es := by
  intro p e s m args below meth c C ls H locs hl hP hD hS
  exact lv_lconst C.1 C.2.1 hd hv (h p e s m args below meth c C ls H locs hl hP hD hS)
theorem a_iadd {k : KT} {c0 s0 pc : Nat} {L : List (Nat × Value)} {S : List Value} {es : va_W} {x y : Int32} (hd : decode (kC k) pc = .ok (.iadd, 1))  (h : AW k c0 s0 (pc + 1) L (.int (x + y) :: S) es) : AW k c0 s0 pc L (.int y :: .int x :: S) es := by
  intro p e s m args below meth c C ls H locs hl hP hD hS
  exact lv_iadd C.1 C.2.1 hd  (h p e s m args below meth c C ls H locs hl hP hD hS)
theorem a_isub {k : KT} {c0 s0 pc : Nat} {L : List (Nat × Value)} {S : List Value} {es : va_W} {x y : Int32} (hd : decode (kC k) pc = .ok (.isub, 1))  (h : AW k c0 s0 (pc + 1) L (.int (x - y) :: S) es) : AW k c0 s0 pc L (.int y :: .int x :: S) es := by
  intro p e s m args below meth c C ls H locs hl hP hD hS
  exact lv_isub C.1 C.2.1 hd  (h p e s m args below meth c C ls H locs hl hP hD hS)
theorem a_imul {k : KT} {c0 s0 pc : Nat} {L : List (Nat × Value)} {S : List Value} {es : va_W} {x y : Int32} (hd : decode (kC k) pc = .ok (.imul, 1))  (h : AW k c0 s0 (pc + 1) L (.int (x * y) :: S) es) : AW k c0 s0 pc L (.int y :: .int x :: S) es := by
  intro p e s m args below meth c C ls H locs hl hP hD hS
  exact lv_imul C.1 C.2.1 hd  (h p e s m args below meth c C ls H locs hl hP hD hS)
theorem a_iand {k : KT} {c0 s0 pc : Nat} {L : List (Nat × Value)} {S : List Value} {es : va_W} {x y : Int32} (hd : decode (kC k) pc = .ok (.iand, 1))  (h : AW k c0 s0 (pc + 1) L (.int (x &&& y) :: S) es) : AW k c0 s0 pc L (.int y :: .int x :: S) es := by
  intro p e s m args below meth c C ls H locs hl hP hD hS
  exact lv_iand C.1 C.2.1 hd  (h p e s m args below meth c C ls H locs hl hP hD hS)
theorem a_ior {k : KT} {c0 s0 pc : Nat} {L : List (Nat × Value)} {S : List Value} {es : va_W} {x y : Int32} (hd : decode (kC k) pc = .ok (.ior, 1))  (h : AW k c0 s0 (pc + 1) L (.int (x ||| y) :: S) es) : AW k c0 s0 pc L (.int y :: .int x :: S) es := by
  intro p e s m args below meth c C ls H locs hl hP hD hS
  exact lv_ior C.1 C.2.1 hd  (h p e s m args below meth c C ls H locs hl hP hD hS)
theorem a_ixor {k : KT} {c0 s0 pc : Nat} {L : List (Nat × Value)} {S : List Value} {es : va_W} {x y : Int32} (hd : decode (kC k) pc = .ok (.ixor, 1))  (h : AW k c0 s0 (pc + 1) L (.int (x ^^^ y) :: S) es) : AW k c0 s0 pc L (.int y :: .int x :: S) es := by
  intro p e s m args below meth c C ls H locs hl hP hD hS
  exact lv_ixor C.1 C.2.1 hd  (h p e s m args below meth c C ls H locs hl hP hD hS)
theorem a_ladd {k : KT} {c0 s0 pc : Nat} {L : List (Nat × Value)} {S : List Value} {es : va_W} {x y : Int64} (hd : decode (kC k) pc = .ok (.ladd, 1))  (h : AW k c0 s0 (pc + 1) L (.long (x + y) :: S) es) : AW k c0 s0 pc L (.long y :: .long x :: S) es := by
  intro p e s m args below meth c C ls H locs hl hP hD hS
  exact lv_ladd C.1 C.2.1 hd  (h p e s m args below meth c C ls H locs hl hP hD hS)
theorem a_lsub {k : KT} {c0 s0 pc : Nat} {L : List (Nat × Value)} {S : List Value} {es : va_W} {x y : Int64} (hd : decode (kC k) pc = .ok (.lsub, 1))  (h : AW k c0 s0 (pc + 1) L (.long (x - y) :: S) es) : AW k c0 s0 pc L (.long y :: .long x :: S) es := by
  intro p e s m args below meth c C ls H locs hl hP hD hS
  exact lv_lsub C.1 C.2.1 hd  (h p e s m args below meth c C ls H locs hl hP hD hS)
theorem a_lmul {k : KT} {c0 s0 pc : Nat} {L : List (Nat × Value)} {S : List Value} {es : va_W} {x y : Int64} (hd : decode (kC k) pc = .ok (.lmul, 1))  (h : AW k c0 s0 (pc + 1) L (.long (x * y) :: S) es) : AW k c0 s0 pc L (.long y :: .long x :: S) es := by
  intro p e s m args below meth c C ls H locs hl hP hD hS
  exact lv_lmul C.1 C.2.1 hd  (h p e s m args below meth c C ls H locs hl hP hD hS)
theorem a_land {k : KT} {c0 s0 pc : Nat} {L : List (Nat × Value)} {S : List Value} {es : va_W} {x y : Int64} (hd : decode (kC k) pc = .ok (.land, 1))  (h : AW k c0 s0 (pc + 1) L (.long (x &&& y) :: S) es) : AW k c0 s0 pc L (.long y :: .long x :: S) es := by
  intro p e s m args below meth c C ls H locs hl hP hD hS
  exact lv_land C.1 C.2.1 hd  (h p e s m args below meth c C ls H locs hl hP hD hS)
theorem a_lor {k : KT} {c0 s0 pc : Nat} {L : List (Nat × Value)} {S : List Value} {es : va_W} {x y : Int64} (hd : decode (kC k) pc = .ok (.lor, 1))  (h : AW k c0 s0 (pc + 1) L (.long (x ||| y) :: S) es) : AW k c0 s0 pc L (.long y :: .long x :: S) es := by
  intro p e s m args below meth c C ls H locs hl hP hD hS
  exact lv_lor C.1 C.2.1 hd  (h p e s m args below meth c C ls H locs hl hP hD hS)
theorem a_idiv {k : KT} {c0 s0 pc : Nat} {L : List (Nat × Value)} {S : List Value} {es : va_W} {x y : Int32} (hd : decode (kC k) pc = .ok (.idiv, 1)) (hne : ¬ y = 0) (h : AW k c0 s0 (pc + 1) L (.int (x / y) :: S) es) : AW k c0 s0 pc L (.int y :: .int x :: S) es := by
  intro p e s m args below meth c C ls H locs hl hP hD hS
  exact lv_idiv C.1 C.2.1 hd hne (h p e s m args below meth c C ls H locs hl hP hD hS)
theorem a_irem {k : KT} {c0 s0 pc : Nat} {L : List (Nat × Value)} {S : List Value} {es : va_W} {x y : Int32} (hd : decode (kC k) pc = .ok (.irem, 1)) (hne : ¬ y = 0) (h : AW k c0 s0 (pc + 1) L (.int (x - x / y * y) :: S) es) : AW k c0 s0 pc L (.int y :: .int x :: S) es := by
  intro p e s m args below meth c C ls H locs hl hP hD hS
  exact lv_irem C.1 C.2.1 hd hne (h p e s m args below meth c C ls H locs hl hP hD hS)
theorem a_ldiv {k : KT} {c0 s0 pc : Nat} {L : List (Nat × Value)} {S : List Value} {es : va_W} {x y : Int64} (hd : decode (kC k) pc = .ok (.ldiv, 1)) (hne : ¬ y = 0) (h : AW k c0 s0 (pc + 1) L (.long (x / y) :: S) es) : AW k c0 s0 pc L (.long y :: .long x :: S) es := by
  intro p e s m args below meth c C ls H locs hl hP hD hS
  exact lv_ldiv C.1 C.2.1 hd hne (h p e s m args below meth c C ls H locs hl hP hD hS)
theorem a_lrem {k : KT} {c0 s0 pc : Nat} {L : List (Nat × Value)} {S : List Value} {es : va_W} {x y : Int64} (hd : decode (kC k) pc = .ok (.lrem, 1)) (hne : ¬ y = 0) (h : AW k c0 s0 (pc + 1) L (.long (x - x / y * y) :: S) es) : AW k c0 s0 pc L (.long y :: .long x :: S) es := by
  intro p e s m args below meth c C ls H locs hl hP hD hS
  exact lv_lrem C.1 C.2.1 hd hne (h p e s m args below meth c C ls H locs hl hP hD hS)
theorem a_ineg {k : KT} {c0 s0 pc : Nat} {L : List (Nat × Value)} {S : List Value} {es : va_W} {x : Int32} (hd : decode (kC k) pc = .ok (.ineg, 1))  (h : AW k c0 s0 (pc + 1) L (.int (-x) :: S) es) : AW k c0 s0 pc L (.int x :: S) es := by
  intro p e s m args below meth c C ls H locs hl hP hD hS
  exact lv_ineg C.1 C.2.1 hd  (h p e s m args below meth c C ls H locs hl hP hD hS)
theorem a_ishl {k : KT} {c0 s0 pc : Nat} {L : List (Nat × Value)} {S : List Value} {es : va_W} {x y : Int32} (hd : decode (kC k) pc = .ok (.ishl, 1))  (h : AW k c0 s0 (pc + 1) L (.int (x <<< (y &&& 31)) :: S) es) : AW k c0 s0 pc L (.int y :: .int x :: S) es := by
  intro p e s m args below meth c C ls H locs hl hP hD hS
  exact lv_ishl C.1 C.2.1 hd  (h p e s m args below meth c C ls H locs hl hP hD hS)
theorem a_ishr {k : KT} {c0 s0 pc : Nat} {L : List (Nat × Value)} {S : List Value} {es : va_W} {x y : Int32} (hd : decode (kC k) pc = .ok (.ishr, 1))  (h : AW k c0 s0 (pc + 1) L (.int (x >>> (y &&& 31)) :: S) es) : AW k c0 s0 pc L (.int y :: .int x :: S) es := by
  intro p e s m args below meth c C ls H locs hl hP hD hS
  exact lv_ishr C.1 C.2.1 hd  (h p e s m args below meth c C ls H locs hl hP hD hS)
theorem a_iushr {k : KT} {c0 s0 pc : Nat} {L : List (Nat × Value)} {S : List Value} {es : va_W} {x y : Int32} (hd : decode (kC k) pc = .ok (.iushr, 1))  (h : AW k c0 s0 (pc + 1) L (.int ((x.toUInt32 >>> (y.toUInt32 &&& Int32.toUInt32 31)).toInt32) :: S) es) : AW k c0 s0 pc L (.int y :: .int x :: S) es := by
  intro p e s m args below meth c C ls H locs hl hP hD hS
  exact lv_iushr C.1 C.2.1 hd rfl (h p e s m args below meth c C ls H locs hl hP hD hS)
theorem a_lshl {k : KT} {c0 s0 pc : Nat} {L : List (Nat × Value)} {S : List Value} {es : va_W} {x : Int64} {y : Int32} (hd : decode (kC k) pc = .ok (.lshl, 1))  (h : AW k c0 s0 (pc + 1) L (.long (x <<< (y.toInt64 &&& 63)) :: S) es) : AW k c0 s0 pc L (.int y :: .long x :: S) es := by
  intro p e s m args below meth c C ls H locs hl hP hD hS
  exact lv_lshl C.1 C.2.1 hd rfl (h p e s m args below meth c C ls H locs hl hP hD hS)
theorem a_i2l {k : KT} {c0 s0 pc : Nat} {L : List (Nat × Value)} {S : List Value} {es : va_W} {x : Int32} (hd : decode (kC k) pc = .ok (.i2l, 1))  (h : AW k c0 s0 (pc + 1) L (.long (x.toInt64) :: S) es) : AW k c0 s0 pc L (.int x :: S) es := by
  intro p e s m args below meth c C ls H locs hl hP hD hS
  exact lv_i2l C.1 C.2.1 hd rfl (h p e s m args below meth c C ls H locs hl hP hD hS)
theorem a_l2i {k : KT} {c0 s0 pc : Nat} {L : List (Nat × Value)} {S : List Value} {es : va_W} {x : Int64} (hd : decode (kC k) pc = .ok (.l2i, 1))  (h : AW k c0 s0 (pc + 1) L (.int (x.toInt32) :: S) es) : AW k c0 s0 pc L (.long x :: S) es := by
  intro p e s m args below meth c C ls H locs hl hP hD hS
  exact lv_l2i C.1 C.2.1 hd rfl (h p e s m args below meth c C ls H locs hl hP hD hS)
theorem a_i2b {k : KT} {c0 s0 pc : Nat} {L : List (Nat × Value)} {S : List Value} {es : va_W} {x : Int32} (hd : decode (kC k) pc = .ok (.i2b, 1))  (h : AW k c0 s0 (pc + 1) L (.int (x.toInt8.toInt32) :: S) es) : AW k c0 s0 pc L (.int x :: S) es := by
  intro p e s m args below meth c C ls H locs hl hP hD hS
  exact lv_i2b C.1 C.2.1 hd rfl (h p e s m args below meth c C ls H locs hl hP hD hS)
theorem a_i2s {k : KT} {c0 s0 pc : Nat} {L : List (Nat × Value)} {S : List Value} {es : va_W} {x : Int32} (hd : decode (kC k) pc = .ok (.i2s, 1))  (h : AW k c0 s0 (pc + 1) L (.int (x.toInt16.toInt32) :: S) es) : AW k c0 s0 pc L (.int x :: S) es := by
  intro p e s m args below meth c C ls H locs hl hP hD hS
  exact lv_i2s C.1 C.2.1 hd rfl (h p e s m args below meth c C ls H locs hl hP hD hS)
theorem a_i2c {k : KT} {c0 s0 pc : Nat} {L : List (Nat × Value)} {S : List Value} {es : va_W} {x : Int32} (hd : decode (kC k) pc = .ok (.i2c, 1))  (h : AW k c0 s0 (pc + 1) L (.int ((x.toUInt32 % 65536).toInt32) :: S) es) : AW k c0 s0 pc L (.int x :: S) es := by
  intro p e s m args below meth c C ls H locs hl hP hD hS
  exact lv_i2c C.1 C.2.1 hd rfl (h p e s m args below meth c C ls H locs hl hP hD hS)
theorem a_dup {k : KT} {c0 s0 pc : Nat} {L : List (Nat × Value)} {S : List Value} {es : va_W} {v : Value} (hd : decode (kC k) pc = .ok (.dup, 1)) (hv : v.category = 1) (h : AW k c0 s0 (pc + 1) L (v :: v :: S) es) : AW k c0 s0 pc L (v :: S) es := by
  intro p e s m args below meth c C ls H locs hl hP hD hS
  exact lv_dup C.1 C.2.1 hd hv (h p e s m args below meth c C ls H locs hl hP hD hS)
theorem a_pop {k : KT} {c0 s0 pc : Nat} {L : List (Nat × Value)} {S : List Value} {es : va_W} {v : Value} (hd : decode (kC k) pc = .ok (.pop, 1)) (hv : v.category = 1) (h : AW k c0 s0 (pc + 1) L (S) es) : AW k c0 s0 pc L (v :: S) es := by
  intro p e s m args below meth c C ls H locs hl hP hD hS
  exact lv_pop C.1 C.2.1 hd hv (h p e s m args below meth c C ls H locs hl hP hD hS)
theorem a_pop2 {k : KT} {c0 s0 pc : Nat} {L : List (Nat × Value)} {S : List Value} {es : va_W} {v : Value} (hd : decode (kC k) pc = .ok (.pop2, 1)) (hv : v.category = 2) (h : AW k c0 s0 (pc + 1) L (S) es) : AW k c0 s0 pc L (v :: S) es := by
  intro p e s m args below meth c C ls H locs hl hP hD hS
  exact lv_pop2_2 C.1 C.2.1 hd hv (h p e s m args below meth c C ls H locs hl hP hD hS)
theorem a_dup2 {k : KT} {c0 s0 pc : Nat} {L : List (Nat × Value)} {S : List Value} {es : va_W} {v u : Value} (hd : decode (kC k) pc = .ok (.dup2, 1)) (hv : v.category = 1) (hu : u.category = 1) (h : AW k c0 s0 (pc + 1) L (v :: u :: v :: u :: S) es) : AW k c0 s0 pc L (v :: u :: S) es := by
  intro p e s m args below meth c C ls H locs hl hP hD hS
  exact lv_dup2_11 C.1 C.2.1 hd hv hu (h p e s m args below meth c C ls H locs hl hP hD hS)
theorem a_lcmp {k : KT} {c0 s0 pc : Nat} {L : List (Nat × Value)} {S : List Value} {es : va_W} {x y : Int64} (hd : decode (kC k) pc = .ok (.lcmp, 1))  (h : AW k c0 s0 (pc + 1) L (.int (lg_cmp x y) :: S) es) : AW k c0 s0 pc L (.long y :: .long x :: S) es := by
  intro p e s m args below meth c C ls H locs hl hP hD hS
  exact W.lcmp C.1 C.2.1 hd  (h p e s m args below meth c C ls H locs hl hP hD hS)
theorem a_iload_n {k : KT} {c0 s0 pc : Nat} {L : List (Nat × Value)} {S : List Value} {es : va_W} {q : Fin 4} {i : Nat} (n : Nat) {x : Int32} (hd : decode (kC k) pc = .ok (.iload_n q, 1)) (hi : (q : Nat) = i) (hv : L[n]? = some (i, .int x)) (h : AW k c0 s0 (pc + 1) L (.int x :: S) es) : AW k c0 s0 pc L S es := by
  intro p e s m args below meth c C ls H locs hl hP hD hS
  exact lv_iload_n C.1 C.2.1 hd hi (lv_at hl n hv) (h p e s m args below meth c C ls H locs hl hP hD hS)
theorem a_iload {k : KT} {c0 s0 pc : Nat} {L : List (Nat × Value)} {S : List Value} {es : va_W} {i : Nat} (n : Nat) {x : Int32} (hd : decode (kC k) pc = .ok (.iload i, 2)) (hv : L[n]? = some (i, .int x)) (h : AW k c0 s0 (pc + 2) L (.int x :: S) es) : AW k c0 s0 pc L S es := by
  intro p e s m args below meth c C ls H locs hl hP hD hS
  exact lv_iload C.1 C.2.1 hd (lv_at hl n hv) (h p e s m args below meth c C ls H locs hl hP hD hS)
theorem a_istore_n {k : KT} {c0 s0 pc : Nat} {L : List (Nat × Value)} {S : List Value} {es : va_W} {q : Fin 4} {i : Nat} {x : Int32} (L' : List (Nat × Value)) (hd : decode (kC k) pc = .ok (.istore_n q, 1)) (hi : (q : Nat) = i) (hn : i < kN k) (hL : (i, Value.int x) :: L.filter (fun q => !(q.1 == i) && !(q.1 + 1 == i && q.2.category == 2)) = L') (h : AW k c0 s0 (pc + 1) L' S es) : AW k c0 s0 pc L (.int x :: S) es := by
  intro p e s m args below meth c C ls H locs hl hP hD hS
  exact lv_istore_n C.1 C.2.1 hd hi hl hn hL (fun ls hl => (h p e s m args below meth c C ls H locs hl hP hD hS))
theorem a_istore {k : KT} {c0 s0 pc : Nat} {L : List (Nat × Value)} {S : List Value} {es : va_W} {i : Nat} {x : Int32} (L' : List (Nat × Value)) (hd : decode (kC k) pc = .ok (.istore i, 2)) (hn : i < kN k) (hL : (i, Value.int x) :: L.filter (fun q => !(q.1 == i) && !(q.1 + 1 == i && q.2.category == 2)) = L') (h : AW k c0 s0 (pc + 2) L' S es) : AW k c0 s0 pc L (.int x :: S) es := by
  intro p e s m args below meth c C ls H locs hl hP hD hS
  exact lv_istore C.1 C.2.1 hd hl hn hL (fun ls hl => (h p e s m args below meth c C ls H locs hl hP hD hS))
theorem a_lload_n {k : KT} {c0 s0 pc : Nat} {L : List (Nat × Value)} {S : List Value} {es : va_W} {q : Fin 4} {i : Nat} (n : Nat) {x : Int64} (hd : decode (kC k) pc = .ok (.lload_n q, 1)) (hi : (q : Nat) = i) (hv : L[n]? = some (i, .long x)) (h : AW k c0 s0 (pc + 1) L (.long x :: S) es) : AW k c0 s0 pc L S es := by
  intro p e s m args below meth c C ls H locs hl hP hD hS
  exact lv_lload_n C.1 C.2.1 hd hi (lv_at hl n hv) (h p e s m args below meth c C ls H locs hl hP hD hS)
theorem a_lload {k : KT} {c0 s0 pc : Nat} {L : List (Nat × Value)} {S : List Value} {es : va_W} {i : Nat} (n : Nat) {x : Int64} (hd : decode (kC k) pc = .ok (.lload i, 2)) (hv : L[n]? = some (i, .long x)) (h : AW k c0 s0 (pc + 2) L (.long x :: S) es) : AW k c0 s0 pc L S es := by
  intro p e s m args below meth c C ls H locs hl hP hD hS
  exact lv_lload C.1 C.2.1 hd (lv_at hl n hv) (h p e s m args below meth c C ls H locs hl hP hD hS)
theorem a_lstore_n {k : KT} {c0 s0 pc : Nat} {L : List (Nat × Value)} {S : List Value} {es : va_W} {q : Fin 4} {i : Nat} {x : Int64} (L' : List (Nat × Value)) (hd : decode (kC k) pc = .ok (.lstore_n q, 1)) (hi : (q : Nat) = i) (hn : i + 1 < kN k) (hL : (i, Value.long x) :: L.filter (fun q => !(q.1 == i) && (!(q.1 == i + 1) && !(q.1 + 1 == i && q.2.category == 2))) = L') (h : AW k c0 s0 (pc + 1) L' S es) : AW k c0 s0 pc L (.long x :: S) es := by
  intro p e s m args below meth c C ls H locs hl hP hD hS
  exact lv_lstore_n C.1 C.2.1 hd hi hl hn hL (fun ls hl => (h p e s m args below meth c C ls H locs hl hP hD hS))
theorem a_lstore {k : KT} {c0 s0 pc : Nat} {L : List (Nat × Value)} {S : List Value} {es : va_W} {i : Nat} {x : Int64} (L' : List (Nat × Value)) (hd : decode (kC k) pc = .ok (.lstore i, 2)) (hn : i + 1 < kN k) (hL : (i, Value.long x) :: L.filter (fun q => !(q.1 == i) && (!(q.1 == i + 1) && !(q.1 + 1 == i && q.2.category == 2))) = L') (h : AW k c0 s0 (pc + 2) L' S es) : AW k c0 s0 pc L (.long x :: S) es := by
  intro p e s m args below meth c C ls H locs hl hP hD hS
  exact lv_lstore C.1 C.2.1 hd hl hn hL (fun ls hl => (h p e s m args below meth c C ls H locs hl hP hD hS))
theorem a_aload_n {k : KT} {c0 s0 pc : Nat} {L : List (Nat × Value)} {S : List Value} {es : va_W} {q : Fin 4} {i : Nat} (n : Nat) {x : Nat} (hd : decode (kC k) pc = .ok (.aload_n q, 1)) (hi : (q : Nat) = i) (hv : L[n]? = some (i, .ref x)) (h : AW k c0 s0 (pc + 1) L (.ref x :: S) es) : AW k c0 s0 pc L S es := by
  intro p e s m args below meth c C ls H locs hl hP hD hS
  exact lv_aload_n C.1 C.2.1 hd hi (lv_at hl n hv) (h p e s m args below meth c C ls H locs hl hP hD hS)
theorem a_aload {k : KT} {c0 s0 pc : Nat} {L : List (Nat × Value)} {S : List Value} {es : va_W} {i : Nat} (n : Nat) {x : Nat} (hd : decode (kC k) pc = .ok (.aload i, 2)) (hv : L[n]? = some (i, .ref x)) (h : AW k c0 s0 (pc + 2) L (.ref x :: S) es) : AW k c0 s0 pc L S es := by
  intro p e s m args below meth c C ls H locs hl hP hD hS
  exact lv_aload C.1 C.2.1 hd (lv_at hl n hv) (h p e s m args below meth c C ls H locs hl hP hD hS)
theorem a_astore_n {k : KT} {c0 s0 pc : Nat} {L : List (Nat × Value)} {S : List Value} {es : va_W} {q : Fin 4} {i : Nat} {x : Nat} (L' : List (Nat × Value)) (hd : decode (kC k) pc = .ok (.astore_n q, 1)) (hi : (q : Nat) = i) (hn : i < kN k) (hL : (i, Value.ref x) :: L.filter (fun q => !(q.1 == i) && !(q.1 + 1 == i && q.2.category == 2)) = L') (h : AW k c0 s0 (pc + 1) L' S es) : AW k c0 s0 pc L (.ref x :: S) es := by
  intro p e s m args below meth c C ls H locs hl hP hD hS
  exact lv_astore_n C.1 C.2.1 hd hi hl hn hL (fun ls hl => (h p e s m args below meth c C ls H locs hl hP hD hS))
theorem a_astore {k : KT} {c0 s0 pc : Nat} {L : List (Nat × Value)} {S : List Value} {es : va_W} {i : Nat} {x : Nat} (L' : List (Nat × Value)) (hd : decode (kC k) pc = .ok (.astore i, 2)) (hn : i < kN k) (hL : (i, Value.ref x) :: L.filter (fun q => !(q.1 == i) && !(q.1 + 1 == i && q.2.category == 2)) = L') (h : AW k c0 s0 (pc + 2) L' S es) : AW k c0 s0 pc L (.ref x :: S) es := by
  intro p e s m args below meth c C ls H locs hl hP hD hS
  exact lv_astore C.1 C.2.1 hd hl hn hL (fun ls hl => (h p e s m args below meth c C ls H locs hl hP hD hS))
theorem a_iinc {k : KT} {c0 s0 pc : Nat} {L : List (Nat × Value)} {S : List Value} {es : va_W} {i : Nat} {z : Int} (n : Nat) {x : Int32} (v : Int32) (L' : List (Nat × Value)) (hd : decode (kC k) pc = .ok (.iinc i z, 3)) (hx : L[n]? = some (i, .int x)) (hv : x + Int32.ofInt z = v) (hn : i < kN k) (hL : (i, Value.int v) :: L.filter (fun q => !(q.1 == i) && !(q.1 + 1 == i && q.2.category == 2)) = L') (h : AW k c0 s0 (pc + 3) L' S es) : AW k c0 s0 pc L S es := by
  intro p e s m args below meth c C ls H locs hl hP hD hS
  exact lv_iinc C.1 C.2.1 hd hl hx hv hn hL (fun ls hl => (h p e s m args below meth c C ls H locs hl hP hD hS))
theorem a_if_eq {k : KT} {c0 s0 pc : Nat} {L : List (Nat × Value)} {S : List Value} {es : va_W} {x : Int32} {off : Int} (tgt : Nat) (hd : decode (kC k) pc = .ok (.ifCond .eq off, 3)) (ht : (pc : Int) + off = (tgt : Int)) (h1 : x = 0 → AW k c0 s0 tgt L S es) (h2 : ¬ x = 0 → AW k c0 s0 (pc + 3) L S es) : AW k c0 s0 pc L (.int x :: S) es := by
  intro p e s m args below meth c C ls H locs hl hP hD hS
  exact lv_if_eq C.1 C.2.1 hd ht (fun q => h1 q p e s m args below meth c C ls H locs hl hP hD hS) (fun q => h2 q p e s m args below meth c C ls H locs hl hP hD hS)
theorem a_icmp_eq {k : KT} {c0 s0 pc : Nat} {L : List (Nat × Value)} {S : List Value} {es : va_W} {x y : Int32} {off : Int} (tgt : Nat) (hd : decode (kC k) pc = .ok (.if_icmp .eq off, 3)) (ht : (pc : Int) + off = (tgt : Int)) (h1 : x = y → AW k c0 s0 tgt L S es) (h2 : ¬ x = y → AW k c0 s0 (pc + 3) L S es) : AW k c0 s0 pc L (.int y :: .int x :: S) es := by
  intro p e s m args below meth c C ls H locs hl hP hD hS
  exact lv_icmp_eq C.1 C.2.1 hd ht (fun q => h1 q p e s m args below meth c C ls H locs hl hP hD hS) (fun q => h2 q p e s m args below meth c C ls H locs hl hP hD hS)
theorem a_if_ne {k : KT} {c0 s0 pc : Nat} {L : List (Nat × Value)} {S : List Value} {es : va_W} {x : Int32} {off : Int} (tgt : Nat) (hd : decode (kC k) pc = .ok (.ifCond .ne off, 3)) (ht : (pc : Int) + off = (tgt : Int)) (h1 : ¬ x = 0 → AW k c0 s0 tgt L S es) (h2 : x = 0 → AW k c0 s0 (pc + 3) L S es) : AW k c0 s0 pc L (.int x :: S) es := by
  intro p e s m args below meth c C ls H locs hl hP hD hS
  exact lv_if_ne C.1 C.2.1 hd ht (fun q => h1 q p e s m args below meth c C ls H locs hl hP hD hS) (fun q => h2 q p e s m args below meth c C ls H locs hl hP hD hS)
theorem a_icmp_ne {k : KT} {c0 s0 pc : Nat} {L : List (Nat × Value)} {S : List Value} {es : va_W} {x y : Int32} {off : Int} (tgt : Nat) (hd : decode (kC k) pc = .ok (.if_icmp .ne off, 3)) (ht : (pc : Int) + off = (tgt : Int)) (h1 : ¬ x = y → AW k c0 s0 tgt L S es) (h2 : x = y → AW k c0 s0 (pc + 3) L S es) : AW k c0 s0 pc L (.int y :: .int x :: S) es := by
  intro p e s m args below meth c C ls H locs hl hP hD hS
  exact lv_icmp_ne C.1 C.2.1 hd ht (fun q => h1 q p e s m args below meth c C ls H locs hl hP hD hS) (fun q => h2 q p e s m args below meth c C ls H locs hl hP hD hS)
theorem a_if_lt {k : KT} {c0 s0 pc : Nat} {L : List (Nat × Value)} {S : List Value} {es : va_W} {x : Int32} {off : Int} (tgt : Nat) (hd : decode (kC k) pc = .ok (.ifCond .lt off, 3)) (ht : (pc : Int) + off = (tgt : Int)) (h1 : x < 0 → AW k c0 s0 tgt L S es) (h2 : ¬ x < 0 → AW k c0 s0 (pc + 3) L S es) : AW k c0 s0 pc L (.int x :: S) es := by
  intro p e s m args below meth c C ls H locs hl hP hD hS
  exact lv_if_lt C.1 C.2.1 hd ht (fun q => h1 q p e s m args below meth c C ls H locs hl hP hD hS) (fun q => h2 q p e s m args below meth c C ls H locs hl hP hD hS)
theorem a_icmp_lt {k : KT} {c0 s0 pc : Nat} {L : List (Nat × Value)} {S : List Value} {es : va_W} {x y : Int32} {off : Int} (tgt : Nat) (hd : decode (kC k) pc = .ok (.if_icmp .lt off, 3)) (ht : (pc : Int) + off = (tgt : Int)) (h1 : x < y → AW k c0 s0 tgt L S es) (h2 : ¬ x < y → AW k c0 s0 (pc + 3) L S es) : AW k c0 s0 pc L (.int y :: .int x :: S) es := by
  intro p e s m args below meth c C ls H locs hl hP hD hS
  exact lv_icmp_lt C.1 C.2.1 hd ht (fun q => h1 q p e s m args below meth c C ls H locs hl hP hD hS) (fun q => h2 q p e s m args below meth c C ls H locs hl hP hD hS)
theorem a_if_ge {k : KT} {c0 s0 pc : Nat} {L : List (Nat × Value)} {S : List Value} {es : va_W} {x : Int32} {off : Int} (tgt : Nat) (hd : decode (kC k) pc = .ok (.ifCond .ge off, 3)) (ht : (pc : Int) + off = (tgt : Int)) (h1 : 0 ≤ x → AW k c0 s0 tgt L S es) (h2 : ¬ 0 ≤ x → AW k c0 s0 (pc + 3) L S es) : AW k c0 s0 pc L (.int x :: S) es := by
  intro p e s m args below meth c C ls H locs hl hP hD hS
  exact lv_if_ge C.1 C.2.1 hd ht (fun q => h1 q p e s m args below meth c C ls H locs hl hP hD hS) (fun q => h2 q p e s m args below meth c C ls H locs hl hP hD hS)
theorem a_icmp_ge {k : KT} {c0 s0 pc : Nat} {L : List (Nat × Value)} {S : List Value} {es : va_W} {x y : Int32} {off : Int} (tgt : Nat) (hd : decode (kC k) pc = .ok (.if_icmp .ge off, 3)) (ht : (pc : Int) + off = (tgt : Int)) (h1 : y ≤ x → AW k c0 s0 tgt L S es) (h2 : ¬ y ≤ x → AW k c0 s0 (pc + 3) L S es) : AW k c0 s0 pc L (.int y :: .int x :: S) es := by
  intro p e s m args below meth c C ls H locs hl hP hD hS
  exact lv_icmp_ge C.1 C.2.1 hd ht (fun q => h1 q p e s m args below meth c C ls H locs hl hP hD hS) (fun q => h2 q p e s m args below meth c C ls H locs hl hP hD hS)
theorem a_if_gt {k : KT} {c0 s0 pc : Nat} {L : List (Nat × Value)} {S : List Value} {es : va_W} {x : Int32} {off : Int} (tgt : Nat) (hd : decode (kC k) pc = .ok (.ifCond .gt off, 3)) (ht : (pc : Int) + off = (tgt : Int)) (h1 : 0 < x → AW k c0 s0 tgt L S es) (h2 : ¬ 0 < x → AW k c0 s0 (pc + 3) L S es) : AW k c0 s0 pc L (.int x :: S) es := by
  intro p e s m args below meth c C ls H locs hl hP hD hS
  exact lv_if_gt C.1 C.2.1 hd ht (fun q => h1 q p e s m args below meth c C ls H locs hl hP hD hS) (fun q => h2 q p e s m args below meth c C ls H locs hl hP hD hS)
theorem a_icmp_gt {k : KT} {c0 s0 pc : Nat} {L : List (Nat × Value)} {S : List Value} {es : va_W} {x y : Int32} {off : Int} (tgt : Nat) (hd : decode (kC k) pc = .ok (.if_icmp .gt off, 3)) (ht : (pc : Int) + off = (tgt : Int)) (h1 : y < x → AW k c0 s0 tgt L S es) (h2 : ¬ y < x → AW k c0 s0 (pc + 3) L S es) : AW k c0 s0 pc L (.int y :: .int x :: S) es := by
  intro p e s m args below meth c C ls H locs hl hP hD hS
  exact lv_icmp_gt C.1 C.2.1 hd ht (fun q => h1 q p e s m args below meth c C ls H locs hl hP hD hS) (fun q => h2 q p e s m args below meth c C ls H locs hl hP hD hS)
theorem a_if_le {k : KT} {c0 s0 pc : Nat} {L : List (Nat × Value)} {S : List Value} {es : va_W} {x : Int32} {off : Int} (tgt : Nat) (hd : decode (kC k) pc = .ok (.ifCond .le off, 3)) (ht : (pc : Int) + off = (tgt : Int)) (h1 : x ≤ 0 → AW k c0 s0 tgt L S es) (h2 : ¬ x ≤ 0 → AW k c0 s0 (pc + 3) L S es) : AW k c0 s0 pc L (.int x :: S) es := by
  intro p e s m args below meth c C ls H locs hl hP hD hS
  exact lv_if_le C.1 C.2.1 hd ht (fun q => h1 q p e s m args below meth c C ls H locs hl hP hD hS) (fun q => h2 q p e s m args below meth c C ls H locs hl hP hD hS)
theorem a_icmp_le {k : KT} {c0 s0 pc : Nat} {L : List (Nat × Value)} {S : List Value} {es : va_W} {x y : Int32} {off : Int} (tgt : Nat) (hd : decode (kC k) pc = .ok (.if_icmp .le off, 3)) (ht : (pc : Int) + off = (tgt : Int)) (h1 : x ≤ y → AW k c0 s0 tgt L S es) (h2 : ¬ x ≤ y → AW k c0 s0 (pc + 3) L S es) : AW k c0 s0 pc L (.int y :: .int x :: S) es := by
  intro p e s m args below meth c C ls H locs hl hP hD hS
  exact lv_icmp_le C.1 C.2.1 hd ht (fun q => h1 q p e s m args below meth c C ls H locs hl hP hD hS) (fun q => h2 q p e s m args below meth c C ls H locs hl hP hD hS)
theorem a_goto {k : KT} {c0 s0 pc : Nat} {L : List (Nat × Value)} {S : List Value} {es : va_W} {off : Int} (tgt : Nat) (hd : decode (kC k) pc = .ok (.goto off, 3)) (ht : (pc : Int) + off = (tgt : Int)) (h : AW k c0 s0 tgt L S es) : AW k c0 s0 pc L S es := by
  intro p e s m args below meth c C ls H locs hl hP hD hS
  exact lv_goto C.1 C.2.1 hd ht (h p e s m args below meth c C ls H locs hl hP hD hS)
theorem a_tabOut {k : KT} {c0 s0 pc : Nat} {L : List (Nat × Value)} {S : List Value} {es : va_W} {dflt lo hi : Int} {offs : Array Int} {len : Nat} {x : Int32} (tgt : Nat) (hd : decode (kC k) pc = .ok (.tableswitch dflt lo hi offs, len)) (hx : x.toInt < lo ∨ hi < x.toInt) (ht : (pc : Int) + dflt = (tgt : Int)) (h : AW k c0 s0 tgt L S es) : AW k c0 s0 pc L (.int x :: S) es := by
  intro p e s m args below meth c C ls H locs hl hP hD hS
  exact lv_tableOut C.1 C.2.1 hd hx ht (h p e s m args below meth c C ls H locs hl hP hD hS)
theorem a_tabIn {k : KT} {c0 s0 pc : Nat} {L : List (Nat × Value)} {S : List Value} {es : va_W} {dflt lo hi : Int} {offs : Array Int} {len : Nat} {x : Int32} {off : Int} (tgt : Nat) (hd : decode (kC k) pc = .ok (.tableswitch dflt lo hi offs, len)) (h1 : ¬ x.toInt < lo) (h2 : ¬ hi < x.toInt) (ho : offs[(x.toInt - lo).toNat]? = some off) (ht : (pc : Int) + off = (tgt : Int)) (h : AW k c0 s0 tgt L S es) : AW k c0 s0 pc L (.int x :: S) es := by
  intro p e s m args below meth c C ls H locs hl hP hD hS
  exact lv_tableIn C.1 C.2.1 hd h1 h2 ho ht (h p e s m args below meth c C ls H locs hl hP hD hS)
theorem a_ldc {k : KT} {c0 s0 pc : Nat} {L : List (Nat × Value)} {S : List Value} {es : va_W} {i : Nat} {v : Int32} (hd : decode (kC k) pc = .ok (.ldc i, 2)) (hw : Cond.constant (kO k) i v ∈ gtbl) (h : AW k c0 s0 (pc + 2) L (.int v :: S) es) : AW k c0 s0 pc L S es := by
  intro p e s m args below meth c C ls H locs hl hP hD hS
  exact lv_ldc C.1 C.2.1 C.2.2.2.2.1 (C.2.2.2.2.2.2.1 _ hw) hd (h p e s m args below meth c C ls H locs hl hP hD hS)
theorem a_ldc2 {k : KT} {c0 s0 pc : Nat} {L : List (Nat × Value)} {S : List Value} {es : va_W} {i : Nat} {v : Int64} (hd : decode (kC k) pc = .ok (.ldc2_w i, 3)) (hw : Cond.constantLong (kO k) i v ∈ gtbl) (h : AW k c0 s0 (pc + 3) L (.long v :: S) es) : AW k c0 s0 pc L S es := by
  intro p e s m args below meth c C ls H locs hl hP hD hS
  exact lv_ldc2 C.1 C.2.1 C.2.2.2.2.1 (C.2.2.2.2.2.2.1 _ hw) hd (h p e s m args below meth c C ls H locs hl hP hD hS)
