section EVR
variable {E : GE} {y : MI} {pc : Nat} {lv : List (Nat × Value)} {rest : List Value} {M : Mem} {Q : Option Value → Mem → Prop}
theorem Ev.iconst {n : Int} {v : Int32} (hd : decode (mi_code y) pc = .ok (.iconst n, 1)) (hv : Int32.ofInt n = v) (k : Ev E y (pc + 1) lv (.int v :: rest) M Q) : Ev E y pc lv (rest) M Q := fun p e s m args below meth c C ls hl H locs hP hS => lv_iconst C.1 C.2.1 hd hv (k p e s m args below meth c C ls hl H locs hP hS)
theorem Ev.bipush {n : Int} {v : Int32} (hd : decode (mi_code y) pc = .ok (.bipush n, 2)) (hv : (Int8.ofInt n).toInt32 = v) (k : Ev E y (pc + 2) lv (.int v :: rest) M Q) : Ev E y pc lv (rest) M Q := fun p e s m args below meth c C ls hl H locs hP hS => lv_bipush C.1 C.2.1 hd hv (k p e s m args below meth c C ls hl H locs hP hS)
theorem Ev.sipush {n : Int} {v : Int32} (hd : decode (mi_code y) pc = .ok (.sipush n, 3)) (hv : (Int16.ofInt n).toInt32 = v) (k : Ev E y (pc + 3) lv (.int v :: rest) M Q) : Ev E y pc lv (rest) M Q := fun p e s m args below meth c C ls hl H locs hP hS => lv_sipush C.1 C.2.1 hd hv (k p e s m args below meth c C ls hl H locs hP hS)
theorem Ev.lconst {n : Fin 2} {v : Int64} (hd : decode (mi_code y) pc = .ok (.lconst n, 1)) (hv : Int64.ofNat (n : Nat) = v) (k : Ev E y (pc + 1) lv (.long v :: rest) M Q) : Ev E y pc lv (rest) M Q := fun p e s m args below meth c C ls hl H locs hP hS => lv_lconst C.1 C.2.1 hd hv (k p e s m args below meth c C ls hl H locs hP hS)
theorem Ev.iload_n {f : Fin 4} {i : Nat} {x : Int32} (hd : decode (mi_code y) pc = .ok (.iload_n f, 1)) (hi : (f : Nat) = i) (j : Nat) (hj : lv[j]? = some (i, .int x)) (k : Ev E y (pc + 1) lv (.int x :: rest) M Q) : Ev E y pc lv (rest) M Q := fun p e s m args below meth c C ls hl H locs hP hS => lv_iload_n C.1 C.2.1 hd hi (lv_at hl j hj) (k p e s m args below meth c C ls hl H locs hP hS)
theorem Ev.iload {i : Nat} {x : Int32} (hd : decode (mi_code y) pc = .ok (.iload i, 2)) (j : Nat) (hj : lv[j]? = some (i, .int x)) (k : Ev E y (pc + 2) lv (.int x :: rest) M Q) : Ev E y pc lv (rest) M Q := fun p e s m args below meth c C ls hl H locs hP hS => lv_iload C.1 C.2.1 hd (lv_at hl j hj) (k p e s m args below meth c C ls hl H locs hP hS)
theorem Ev.lload_n {f : Fin 4} {i : Nat} {x : Int64} (hd : decode (mi_code y) pc = .ok (.lload_n f, 1)) (hi : (f : Nat) = i) (j : Nat) (hj : lv[j]? = some (i, .long x)) (k : Ev E y (pc + 1) lv (.long x :: rest) M Q) : Ev E y pc lv (rest) M Q := fun p e s m args below meth c C ls hl H locs hP hS => lv_lload_n C.1 C.2.1 hd hi (lv_at hl j hj) (k p e s m args below meth c C ls hl H locs hP hS)
theorem Ev.lload {i : Nat} {x : Int64} (hd : decode (mi_code y) pc = .ok (.lload i, 2)) (j : Nat) (hj : lv[j]? = some (i, .long x)) (k : Ev E y (pc + 2) lv (.long x :: rest) M Q) : Ev E y pc lv (rest) M Q := fun p e s m args below meth c C ls hl H locs hP hS => lv_lload C.1 C.2.1 hd (lv_at hl j hj) (k p e s m args below meth c C ls hl H locs hP hS)
theorem Ev.aload_n {f : Fin 4} {i : Nat} {x : Nat} (hd : decode (mi_code y) pc = .ok (.aload_n f, 1)) (hi : (f : Nat) = i) (j : Nat) (hj : lv[j]? = some (i, .ref x)) (k : Ev E y (pc + 1) lv (.ref x :: rest) M Q) : Ev E y pc lv (rest) M Q := fun p e s m args below meth c C ls hl H locs hP hS => lv_aload_n C.1 C.2.1 hd hi (lv_at hl j hj) (k p e s m args below meth c C ls hl H locs hP hS)
theorem Ev.aload {i : Nat} {x : Nat} (hd : decode (mi_code y) pc = .ok (.aload i, 2)) (j : Nat) (hj : lv[j]? = some (i, .ref x)) (k : Ev E y (pc + 2) lv (.ref x :: rest) M Q) : Ev E y pc lv (rest) M Q := fun p e s m args below meth c C ls hl H locs hP hS => lv_aload C.1 C.2.1 hd (lv_at hl j hj) (k p e s m args below meth c C ls hl H locs hP hS)
theorem Ev.istore_n {f : Fin 4} {i : Nat} {x : Int32} {lv2 : List (Nat × Value)} (hd : decode (mi_code y) pc = .ok (.istore_n f, 1)) (hi : (f : Nat) = i) (hn : i < mi_maxL y) (hq : (i, Value.int x) :: lv.filter (fun q => !(q.1 == i) && !(q.1 + 1 == i && q.2.category == 2)) = lv2) (k : Ev E y (pc + 1) lv2 rest M Q) : Ev E y pc lv (.int x :: rest) M Q := fun p e s m args below meth c C ls hl H locs hP hS => lv_istore_n C.1 C.2.1 hd hi hl hn hq (fun ls2 hl2 => k p e s m args below meth c C ls2 hl2 H locs hP hS)
theorem Ev.istore {i : Nat} {x : Int32} {lv2 : List (Nat × Value)} (hd : decode (mi_code y) pc = .ok (.istore i, 2))  (hn : i < mi_maxL y) (hq : (i, Value.int x) :: lv.filter (fun q => !(q.1 == i) && !(q.1 + 1 == i && q.2.category == 2)) = lv2) (k : Ev E y (pc + 2) lv2 rest M Q) : Ev E y pc lv (.int x :: rest) M Q := fun p e s m args below meth c C ls hl H locs hP hS => lv_istore C.1 C.2.1 hd  hl hn hq (fun ls2 hl2 => k p e s m args below meth c C ls2 hl2 H locs hP hS)
theorem Ev.astore_n {f : Fin 4} {i : Nat} {x : Nat} {lv2 : List (Nat × Value)} (hd : decode (mi_code y) pc = .ok (.astore_n f, 1)) (hi : (f : Nat) = i) (hn : i < mi_maxL y) (hq : (i, Value.ref x) :: lv.filter (fun q => !(q.1 == i) && !(q.1 + 1 == i && q.2.category == 2)) = lv2) (k : Ev E y (pc + 1) lv2 rest M Q) : Ev E y pc lv (.ref x :: rest) M Q := fun p e s m args below meth c C ls hl H locs hP hS => lv_astore_n C.1 C.2.1 hd hi hl hn hq (fun ls2 hl2 => k p e s m args below meth c C ls2 hl2 H locs hP hS)
theorem Ev.astore {i : Nat} {x : Nat} {lv2 : List (Nat × Value)} (hd : decode (mi_code y) pc = .ok (.astore i, 2))  (hn : i < mi_maxL y) (hq : (i, Value.ref x) :: lv.filter (fun q => !(q.1 == i) && !(q.1 + 1 == i && q.2.category == 2)) = lv2) (k : Ev E y (pc + 2) lv2 rest M Q) : Ev E y pc lv (.ref x :: rest) M Q := fun p e s m args below meth c C ls hl H locs hP hS => lv_astore C.1 C.2.1 hd  hl hn hq (fun ls2 hl2 => k p e s m args below meth c C ls2 hl2 H locs hP hS)
theorem Ev.lstore_n {f : Fin 4} {i : Nat} {x : Int64} {lv2 : List (Nat × Value)} (hd : decode (mi_code y) pc = .ok (.lstore_n f, 1)) (hi : (f : Nat) = i) (hn : i + 1 < mi_maxL y) (hq : (i, Value.long x) :: lv.filter (fun q => !(q.1 == i) && (!(q.1 == i + 1) && !(q.1 + 1 == i && q.2.category == 2))) = lv2) (k : Ev E y (pc + 1) lv2 rest M Q) : Ev E y pc lv (.long x :: rest) M Q := fun p e s m args below meth c C ls hl H locs hP hS => lv_lstore_n C.1 C.2.1 hd hi hl hn hq (fun ls2 hl2 => k p e s m args below meth c C ls2 hl2 H locs hP hS)
theorem Ev.lstore {i : Nat} {x : Int64} {lv2 : List (Nat × Value)} (hd : decode (mi_code y) pc = .ok (.lstore i, 2))  (hn : i + 1 < mi_maxL y) (hq : (i, Value.long x) :: lv.filter (fun q => !(q.1 == i) && (!(q.1 == i + 1) && !(q.1 + 1 == i && q.2.category == 2))) = lv2) (k : Ev E y (pc + 2) lv2 rest M Q) : Ev E y pc lv (.long x :: rest) M Q := fun p e s m args below meth c C ls hl H locs hP hS => lv_lstore C.1 C.2.1 hd  hl hn hq (fun ls2 hl2 => k p e s m args below meth c C ls2 hl2 H locs hP hS)
theorem Ev.iinc {i : Nat} {n : Int} {x v : Int32} {lv2 : List (Nat × Value)} (hd : decode (mi_code y) pc = .ok (.iinc i n, 3)) (j : Nat) (hj : lv[j]? = some (i, .int x)) (hv : x + Int32.ofInt n = v) (hn : i < mi_maxL y) (hq : (i, Value.int v) :: lv.filter (fun q => !(q.1 == i) && !(q.1 + 1 == i && q.2.category == 2)) = lv2) (k : Ev E y (pc + 3) lv2 rest M Q) : Ev E y pc lv rest M Q := fun p e s m args below meth c C ls hl H locs hP hS => lv_iinc C.1 C.2.1 hd hl (k := j) hj hv hn hq (fun ls2 hl2 => k p e s m args below meth c C ls2 hl2 H locs hP hS)
theorem Ev.sub {lv2 : List (Nat × Value)} {stk : List Value} (is : List Nat) (hs : lv_pick lv is = lv2) (k : Ev E y pc lv2 stk M Q) : Ev E y pc lv stk M Q := fun p e s m args below meth c C ls hl H locs hP hS => k p e s m args below meth c C ls (lv_sub hl is hs) H locs hP hS
theorem Ev.iadd {a b : Int32} (hd : decode (mi_code y) pc = .ok (.iadd, 1)) (k : Ev E y (pc + 1) lv (.int (a + b) :: rest) M Q) : Ev E y pc lv (.int b :: .int a :: rest) M Q := fun p e s m args below meth c C ls hl H locs hP hS => lv_iadd C.1 C.2.1 hd (k p e s m args below meth c C ls hl H locs hP hS)
theorem Ev.isub {a b : Int32} (hd : decode (mi_code y) pc = .ok (.isub, 1)) (k : Ev E y (pc + 1) lv (.int (a - b) :: rest) M Q) : Ev E y pc lv (.int b :: .int a :: rest) M Q := fun p e s m args below meth c C ls hl H locs hP hS => lv_isub C.1 C.2.1 hd (k p e s m args below meth c C ls hl H locs hP hS)
theorem Ev.imul {a b : Int32} (hd : decode (mi_code y) pc = .ok (.imul, 1)) (k : Ev E y (pc + 1) lv (.int (a * b) :: rest) M Q) : Ev E y pc lv (.int b :: .int a :: rest) M Q := fun p e s m args below meth c C ls hl H locs hP hS => lv_imul C.1 C.2.1 hd (k p e s m args below meth c C ls hl H locs hP hS)
theorem Ev.iand {a b : Int32} (hd : decode (mi_code y) pc = .ok (.iand, 1)) (k : Ev E y (pc + 1) lv (.int (a &&& b) :: rest) M Q) : Ev E y pc lv (.int b :: .int a :: rest) M Q := fun p e s m args below meth c C ls hl H locs hP hS => lv_iand C.1 C.2.1 hd (k p e s m args below meth c C ls hl H locs hP hS)
theorem Ev.ior {a b : Int32} (hd : decode (mi_code y) pc = .ok (.ior, 1)) (k : Ev E y (pc + 1) lv (.int (a ||| b) :: rest) M Q) : Ev E y pc lv (.int b :: .int a :: rest) M Q := fun p e s m args below meth c C ls hl H locs hP hS => lv_ior C.1 C.2.1 hd (k p e s m args below meth c C ls hl H locs hP hS)
theorem Ev.ixor {a b : Int32} (hd : decode (mi_code y) pc = .ok (.ixor, 1)) (k : Ev E y (pc + 1) lv (.int (a ^^^ b) :: rest) M Q) : Ev E y pc lv (.int b :: .int a :: rest) M Q := fun p e s m args below meth c C ls hl H locs hP hS => lv_ixor C.1 C.2.1 hd (k p e s m args below meth c C ls hl H locs hP hS)
theorem Ev.ladd {a b : Int64} (hd : decode (mi_code y) pc = .ok (.ladd, 1)) (k : Ev E y (pc + 1) lv (.long (a + b) :: rest) M Q) : Ev E y pc lv (.long b :: .long a :: rest) M Q := fun p e s m args below meth c C ls hl H locs hP hS => lv_ladd C.1 C.2.1 hd (k p e s m args below meth c C ls hl H locs hP hS)
theorem Ev.lsub {a b : Int64} (hd : decode (mi_code y) pc = .ok (.lsub, 1)) (k : Ev E y (pc + 1) lv (.long (a - b) :: rest) M Q) : Ev E y pc lv (.long b :: .long a :: rest) M Q := fun p e s m args below meth c C ls hl H locs hP hS => lv_lsub C.1 C.2.1 hd (k p e s m args below meth c C ls hl H locs hP hS)
theorem Ev.lmul {a b : Int64} (hd : decode (mi_code y) pc = .ok (.lmul, 1)) (k : Ev E y (pc + 1) lv (.long (a * b) :: rest) M Q) : Ev E y pc lv (.long b :: .long a :: rest) M Q := fun p e s m args below meth c C ls hl H locs hP hS => lv_lmul C.1 C.2.1 hd (k p e s m args below meth c C ls hl H locs hP hS)
theorem Ev.ishl {a b : Int32} (hd : decode (mi_code y) pc = .ok (.ishl, 1)) (k : Ev E y (pc + 1) lv (.int (a <<< (b &&& 31)) :: rest) M Q) : Ev E y pc lv (.int b :: .int a :: rest) M Q := fun p e s m args below meth c C ls hl H locs hP hS => lv_ishl C.1 C.2.1 hd (k p e s m args below meth c C ls hl H locs hP hS)
theorem Ev.ishr {a b : Int32} (hd : decode (mi_code y) pc = .ok (.ishr, 1)) (k : Ev E y (pc + 1) lv (.int (a >>> (b &&& 31)) :: rest) M Q) : Ev E y pc lv (.int b :: .int a :: rest) M Q := fun p e s m args below meth c C ls hl H locs hP hS => lv_ishr C.1 C.2.1 hd (k p e s m args below meth c C ls hl H locs hP hS)
theorem Ev.idiv {a b : Int32} (hd : decode (mi_code y) pc = .ok (.idiv, 1)) (hne : ¬ b = 0) (k : Ev E y (pc + 1) lv (.int (a / b) :: rest) M Q) : Ev E y pc lv (.int b :: .int a :: rest) M Q := fun p e s m args below meth c C ls hl H locs hP hS => lv_idiv C.1 C.2.1 hd hne (k p e s m args below meth c C ls hl H locs hP hS)
theorem Ev.irem {a b : Int32} (hd : decode (mi_code y) pc = .ok (.irem, 1)) (hne : ¬ b = 0) (k : Ev E y (pc + 1) lv (.int (a - a / b * b) :: rest) M Q) : Ev E y pc lv (.int b :: .int a :: rest) M Q := fun p e s m args below meth c C ls hl H locs hP hS => lv_irem C.1 C.2.1 hd hne (k p e s m args below meth c C ls hl H locs hP hS)
theorem Ev.ldiv {a b : Int64} (hd : decode (mi_code y) pc = .ok (.ldiv, 1)) (hne : ¬ b = 0) (k : Ev E y (pc + 1) lv (.long (a / b) :: rest) M Q) : Ev E y pc lv (.long b :: .long a :: rest) M Q := fun p e s m args below meth c C ls hl H locs hP hS => lv_ldiv C.1 C.2.1 hd hne (k p e s m args below meth c C ls hl H locs hP hS)
theorem Ev.lrem {a b : Int64} (hd : decode (mi_code y) pc = .ok (.lrem, 1)) (hne : ¬ b = 0) (k : Ev E y (pc + 1) lv (.long (a - a / b * b) :: rest) M Q) : Ev E y pc lv (.long b :: .long a :: rest) M Q := fun p e s m args below meth c C ls hl H locs hP hS => lv_lrem C.1 C.2.1 hd hne (k p e s m args below meth c C ls hl H locs hP hS)
theorem Ev.ineg {a : Int32} (hd : decode (mi_code y) pc = .ok (.ineg, 1)) (k : Ev E y (pc + 1) lv (.int (-a) :: rest) M Q) : Ev E y pc lv (.int a :: rest) M Q := fun p e s m args below meth c C ls hl H locs hP hS => lv_ineg C.1 C.2.1 hd (k p e s m args below meth c C ls hl H locs hP hS)
theorem Ev.iushr {a b : Int32} (hd : decode (mi_code y) pc = .ok (.iushr, 1)) (k : Ev E y (pc + 1) lv (.int ((a.toUInt32 >>> (b.toUInt32 &&& Int32.toUInt32 31)).toInt32) :: rest) M Q) : Ev E y pc lv (.int b :: .int a :: rest) M Q := fun p e s m args below meth c C ls hl H locs hP hS => lv_iushr C.1 C.2.1 hd rfl (k p e s m args below meth c C ls hl H locs hP hS)
theorem Ev.i2l {a : Int32} (hd : decode (mi_code y) pc = .ok (.i2l, 1)) (k : Ev E y (pc + 1) lv (.long (a.toInt64) :: rest) M Q) : Ev E y pc lv (.int a :: rest) M Q := fun p e s m args below meth c C ls hl H locs hP hS => lv_i2l C.1 C.2.1 hd rfl (k p e s m args below meth c C ls hl H locs hP hS)
theorem Ev.l2i {a : Int64} (hd : decode (mi_code y) pc = .ok (.l2i, 1)) (k : Ev E y (pc + 1) lv (.int (a.toInt32) :: rest) M Q) : Ev E y pc lv (.long a :: rest) M Q := fun p e s m args below meth c C ls hl H locs hP hS => lv_l2i C.1 C.2.1 hd rfl (k p e s m args below meth c C ls hl H locs hP hS)
theorem Ev.i2b {a : Int32} (hd : decode (mi_code y) pc = .ok (.i2b, 1)) (k : Ev E y (pc + 1) lv (.int (a.toInt8.toInt32) :: rest) M Q) : Ev E y pc lv (.int a :: rest) M Q := fun p e s m args below meth c C ls hl H locs hP hS => lv_i2b C.1 C.2.1 hd rfl (k p e s m args below meth c C ls hl H locs hP hS)
theorem Ev.i2s {a : Int32} (hd : decode (mi_code y) pc = .ok (.i2s, 1)) (k : Ev E y (pc + 1) lv (.int (a.toInt16.toInt32) :: rest) M Q) : Ev E y pc lv (.int a :: rest) M Q := fun p e s m args below meth c C ls hl H locs hP hS => lv_i2s C.1 C.2.1 hd rfl (k p e s m args below meth c C ls hl H locs hP hS)
theorem Ev.i2c {a : Int32} (hd : decode (mi_code y) pc = .ok (.i2c, 1)) (k : Ev E y (pc + 1) lv (.int ((a.toUInt32 % 65536).toInt32) :: rest) M Q) : Ev E y pc lv (.int a :: rest) M Q := fun p e s m args below meth c C ls hl H locs hP hS => lv_i2c C.1 C.2.1 hd rfl (k p e s m args below meth c C ls hl H locs hP hS)
theorem Ev.lcmp {a b : Int64} (hd : decode (mi_code y) pc = .ok (.lcmp, 1)) (k : Ev E y (pc + 1) lv (.int (lg_cmp a b) :: rest) M Q) : Ev E y pc lv (.long b :: .long a :: rest) M Q := fun p e s m args below meth c C ls hl H locs hP hS => W.lcmp C.1 C.2.1 hd (k p e s m args below meth c C ls hl H locs hP hS)
theorem Ev.dup {va : Value} (hd : decode (mi_code y) pc = .ok (.dup, 1)) (h1 : va.category = 1) (k : Ev E y (pc + 1) lv (va :: va :: rest) M Q) : Ev E y pc lv (va :: rest) M Q := fun p e s m args below meth c C ls hl H locs hP hS => lv_dup C.1 C.2.1 hd h1 (k p e s m args below meth c C ls hl H locs hP hS)
theorem Ev.pop {va : Value} (hd : decode (mi_code y) pc = .ok (.pop, 1)) (h1 : va.category = 1) (k : Ev E y (pc + 1) lv (rest) M Q) : Ev E y pc lv (va :: rest) M Q := fun p e s m args below meth c C ls hl H locs hP hS => lv_pop C.1 C.2.1 hd h1 (k p e s m args below meth c C ls hl H locs hP hS)
theorem Ev.dup_x1 {va vb : Value} (hd : decode (mi_code y) pc = .ok (.dup_x1, 1)) (h1 : va.category = 1) (h2 : vb.category = 1) (k : Ev E y (pc + 1) lv (va :: vb :: va :: rest) M Q) : Ev E y pc lv (va :: vb :: rest) M Q := fun p e s m args below meth c C ls hl H locs hP hS => lv_dup_x1 C.1 C.2.1 hd h1 h2 (k p e s m args below meth c C ls hl H locs hP hS)
theorem Ev.dup_x2 {va vb vd : Value} (hd : decode (mi_code y) pc = .ok (.dup_x2, 1)) (h1 : va.category = 1) (h2 : vb.category = 1) (h3 : vd.category = 1) (k : Ev E y (pc + 1) lv (va :: vb :: vd :: va :: rest) M Q) : Ev E y pc lv (va :: vb :: vd :: rest) M Q := fun p e s m args below meth c C ls hl H locs hP hS => lv_dup_x2 C.1 C.2.1 hd h1 h2 h3 (k p e s m args below meth c C ls hl H locs hP hS)
theorem Ev.dup2 {va vb : Value} (hd : decode (mi_code y) pc = .ok (.dup2, 1)) (h1 : va.category = 1) (h2 : vb.category = 1) (k : Ev E y (pc + 1) lv (va :: vb :: va :: vb :: rest) M Q) : Ev E y pc lv (va :: vb :: rest) M Q := fun p e s m args below meth c C ls hl H locs hP hS => lv_dup2_11 C.1 C.2.1 hd h1 h2 (k p e s m args below meth c C ls hl H locs hP hS)
theorem Ev.if_eq {a : Int32} {off : Int} {tgt : Nat} (hd : decode (mi_code y) pc = .ok (.ifCond .eq off, 3)) (ht : (pc : Int) + off = (tgt : Int)) (kt : a = 0 → Ev E y tgt lv rest M Q) (kf : ¬ (a = 0) → Ev E y (pc + 3) lv rest M Q) : Ev E y pc lv (.int a :: rest) M Q := fun p e s m args below meth c C ls hl H locs hP hS => lv_if_eq C.1 C.2.1 hd ht (fun g => kt g p e s m args below meth c C ls hl H locs hP hS) (fun g => kf g p e s m args below meth c C ls hl H locs hP hS)
theorem Ev.icmp_eq {a b : Int32} {off : Int} {tgt : Nat} (hd : decode (mi_code y) pc = .ok (.if_icmp .eq off, 3)) (ht : (pc : Int) + off = (tgt : Int)) (kt : a = b → Ev E y tgt lv rest M Q) (kf : ¬ (a = b) → Ev E y (pc + 3) lv rest M Q) : Ev E y pc lv (.int b :: .int a :: rest) M Q := fun p e s m args below meth c C ls hl H locs hP hS => lv_icmp_eq C.1 C.2.1 hd ht (fun g => kt g p e s m args below meth c C ls hl H locs hP hS) (fun g => kf g p e s m args below meth c C ls hl H locs hP hS)
theorem Ev.if_lt {a : Int32} {off : Int} {tgt : Nat} (hd : decode (mi_code y) pc = .ok (.ifCond .lt off, 3)) (ht : (pc : Int) + off = (tgt : Int)) (kt : a < 0 → Ev E y tgt lv rest M Q) (kf : ¬ (a < 0) → Ev E y (pc + 3) lv rest M Q) : Ev E y pc lv (.int a :: rest) M Q := fun p e s m args below meth c C ls hl H locs hP hS => lv_if_lt C.1 C.2.1 hd ht (fun g => kt g p e s m args below meth c C ls hl H locs hP hS) (fun g => kf g p e s m args below meth c C ls hl H locs hP hS)
theorem Ev.icmp_lt {a b : Int32} {off : Int} {tgt : Nat} (hd : decode (mi_code y) pc = .ok (.if_icmp .lt off, 3)) (ht : (pc : Int) + off = (tgt : Int)) (kt : a < b → Ev E y tgt lv rest M Q) (kf : ¬ (a < b) → Ev E y (pc + 3) lv rest M Q) : Ev E y pc lv (.int b :: .int a :: rest) M Q := fun p e s m args below meth c C ls hl H locs hP hS => lv_icmp_lt C.1 C.2.1 hd ht (fun g => kt g p e s m args below meth c C ls hl H locs hP hS) (fun g => kf g p e s m args below meth c C ls hl H locs hP hS)
theorem Ev.if_ge {a : Int32} {off : Int} {tgt : Nat} (hd : decode (mi_code y) pc = .ok (.ifCond .ge off, 3)) (ht : (pc : Int) + off = (tgt : Int)) (kt : 0 ≤ a → Ev E y tgt lv rest M Q) (kf : ¬ (0 ≤ a) → Ev E y (pc + 3) lv rest M Q) : Ev E y pc lv (.int a :: rest) M Q := fun p e s m args below meth c C ls hl H locs hP hS => lv_if_ge C.1 C.2.1 hd ht (fun g => kt g p e s m args below meth c C ls hl H locs hP hS) (fun g => kf g p e s m args below meth c C ls hl H locs hP hS)
theorem Ev.icmp_ge {a b : Int32} {off : Int} {tgt : Nat} (hd : decode (mi_code y) pc = .ok (.if_icmp .ge off, 3)) (ht : (pc : Int) + off = (tgt : Int)) (kt : b ≤ a → Ev E y tgt lv rest M Q) (kf : ¬ (b ≤ a) → Ev E y (pc + 3) lv rest M Q) : Ev E y pc lv (.int b :: .int a :: rest) M Q := fun p e s m args below meth c C ls hl H locs hP hS => lv_icmp_ge C.1 C.2.1 hd ht (fun g => kt g p e s m args below meth c C ls hl H locs hP hS) (fun g => kf g p e s m args below meth c C ls hl H locs hP hS)
theorem Ev.if_gt {a : Int32} {off : Int} {tgt : Nat} (hd : decode (mi_code y) pc = .ok (.ifCond .gt off, 3)) (ht : (pc : Int) + off = (tgt : Int)) (kt : 0 < a → Ev E y tgt lv rest M Q) (kf : ¬ (0 < a) → Ev E y (pc + 3) lv rest M Q) : Ev E y pc lv (.int a :: rest) M Q := fun p e s m args below meth c C ls hl H locs hP hS => lv_if_gt C.1 C.2.1 hd ht (fun g => kt g p e s m args below meth c C ls hl H locs hP hS) (fun g => kf g p e s m args below meth c C ls hl H locs hP hS)
theorem Ev.icmp_gt {a b : Int32} {off : Int} {tgt : Nat} (hd : decode (mi_code y) pc = .ok (.if_icmp .gt off, 3)) (ht : (pc : Int) + off = (tgt : Int)) (kt : b < a → Ev E y tgt lv rest M Q) (kf : ¬ (b < a) → Ev E y (pc + 3) lv rest M Q) : Ev E y pc lv (.int b :: .int a :: rest) M Q := fun p e s m args below meth c C ls hl H locs hP hS => lv_icmp_gt C.1 C.2.1 hd ht (fun g => kt g p e s m args below meth c C ls hl H locs hP hS) (fun g => kf g p e s m args below meth c C ls hl H locs hP hS)
theorem Ev.if_le {a : Int32} {off : Int} {tgt : Nat} (hd : decode (mi_code y) pc = .ok (.ifCond .le off, 3)) (ht : (pc : Int) + off = (tgt : Int)) (kt : a ≤ 0 → Ev E y tgt lv rest M Q) (kf : ¬ (a ≤ 0) → Ev E y (pc + 3) lv rest M Q) : Ev E y pc lv (.int a :: rest) M Q := fun p e s m args below meth c C ls hl H locs hP hS => lv_if_le C.1 C.2.1 hd ht (fun g => kt g p e s m args below meth c C ls hl H locs hP hS) (fun g => kf g p e s m args below meth c C ls hl H locs hP hS)
theorem Ev.icmp_le {a b : Int32} {off : Int} {tgt : Nat} (hd : decode (mi_code y) pc = .ok (.if_icmp .le off, 3)) (ht : (pc : Int) + off = (tgt : Int)) (kt : a ≤ b → Ev E y tgt lv rest M Q) (kf : ¬ (a ≤ b) → Ev E y (pc + 3) lv rest M Q) : Ev E y pc lv (.int b :: .int a :: rest) M Q := fun p e s m args below meth c C ls hl H locs hP hS => lv_icmp_le C.1 C.2.1 hd ht (fun g => kt g p e s m args below meth c C ls hl H locs hP hS) (fun g => kf g p e s m args below meth c C ls hl H locs hP hS)
theorem Ev.if_ne {a : Int32} {off : Int} {tgt : Nat} (hd : decode (mi_code y) pc = .ok (.ifCond .ne off, 3)) (ht : (pc : Int) + off = (tgt : Int)) (kt : a = 0 → Ev E y (pc + 3) lv rest M Q) (kf : ¬ (a = 0) → Ev E y tgt lv rest M Q) : Ev E y pc lv (.int a :: rest) M Q := fun p e s m args below meth c C ls hl H locs hP hS => lv_if_ne C.1 C.2.1 hd ht (fun g => kf g p e s m args below meth c C ls hl H locs hP hS) (fun g => kt g p e s m args below meth c C ls hl H locs hP hS)
theorem Ev.icmp_ne {a b : Int32} {off : Int} {tgt : Nat} (hd : decode (mi_code y) pc = .ok (.if_icmp .ne off, 3)) (ht : (pc : Int) + off = (tgt : Int)) (kt : a = b → Ev E y (pc + 3) lv rest M Q) (kf : ¬ (a = b) → Ev E y tgt lv rest M Q) : Ev E y pc lv (.int b :: .int a :: rest) M Q := fun p e s m args below meth c C ls hl H locs hP hS => lv_icmp_ne C.1 C.2.1 hd ht (fun g => kf g p e s m args below meth c C ls hl H locs hP hS) (fun g => kt g p e s m args below meth c C ls hl H locs hP hS)
theorem Ev.goto {off : Int} {tgt : Nat} (hd : decode (mi_code y) pc = .ok (.goto off, 3)) (ht : (pc : Int) + off = (tgt : Int)) (k : Ev E y tgt lv rest M Q) : Ev E y pc lv rest M Q := fun p e s m args below meth c C ls hl H locs hP hS => lv_goto C.1 C.2.1 hd ht (k p e s m args below meth c C ls hl H locs hP hS)
theorem Ev.tsIn {dflt lo hi : Int} {offs : Array Int} {len : Nat} {x v : Int32} {off : Int} {tgt : Nat} (hd : decode (mi_code y) pc = .ok (.tableswitch dflt lo hi offs, len)) (hx : x = v) (h1 : ¬ v.toInt < lo) (h2 : ¬ hi < v.toInt) (ho : offs[(v.toInt - lo).toNat]? = some off) (ht : (pc : Int) + off = (tgt : Int)) (k : Ev E y tgt lv rest M Q) : Ev E y pc lv (.int x :: rest) M Q := fun p e s m args below meth c C ls hl H locs hP hS => lv_tableIn C.1 C.2.1 hd (by rw [hx]; exact h1) (by rw [hx]; exact h2) (by rw [hx]; exact ho) ht (k p e s m args below meth c C ls hl H locs hP hS)
theorem Ev.tsOut {dflt lo hi : Int} {offs : Array Int} {len : Nat} {x : Int32} {tgt : Nat} (hd : decode (mi_code y) pc = .ok (.tableswitch dflt lo hi offs, len)) (h : x.toInt < lo ∨ hi < x.toInt) (ht : (pc : Int) + dflt = (tgt : Int)) (k : Ev E y tgt lv rest M Q) : Ev E y pc lv (.int x :: rest) M Q := fun p e s m args below meth c C ls hl H locs hP hS => lv_tableOut C.1 C.2.1 hd h ht (k p e s m args below meth c C ls hl H locs hP hS)
theorem Ev.lookup {dflt : Int} {ps : Array (Int × Int)} {len : Nat} {x : Int32} {off : Int} {tgt : Nat} (hd : decode (mi_code y) pc = .ok (.lookupswitch dflt ps, len)) (hp : (ps.toList.zip (ps.toList.drop 1)).all (fun (a, next) => a.1 < next.1) = true) (ho : Op.lookupswitch.offset ps.toList dflt x.toInt = off) (ht : (pc : Int) + off = (tgt : Int)) (k : Ev E y tgt lv rest M Q) : Ev E y pc lv (.int x :: rest) M Q := fun p e s m args below meth c C ls hl H locs hP hS => lv_lookup C.1 C.2.1 hd hp ho ht (k p e s m args below meth c C ls hl H locs hP hS)
/-! links -/
theorem gw_of {w : Cond} (h : w ∈ tables_1) (hg : goodWord w = true) : w ∈ gwL := List.mem_filter.mpr ⟨List.mem_append_right _ h, hg⟩
theorem gw_sel {w : Cond} (h : w ∈ k2_sels lw_privs) (hg : goodWord w = true) : w ∈ gwL := List.mem_filter.mpr ⟨List.mem_append_left _ h, hg⟩
theorem gw_good {L : List Cond} (h : ∀ w ∈ L, w ∈ gwL) (y : MI) : GoodIn (ws y) L := fun w hw => ⟨List.mem_cons_of_mem _ (h w hw), good_of_word (List.mem_filter.mp (h w hw)).2⟩
def FLk (own : String) (idx c j : Nat) : Prop := ∃ (C : String) (T : u_T) (n : Nat), vwCl[c]? = some (C, T, n) ∧ j < n ∧ (T j).1 = C ∧ Cond.fieldLink own idx C (T j).2.1 (T j).2.2.1 ∈ gwL
def NLk (own : String) (idx c j : Nat) : Prop := ∃ (C : String) (T : u_T) (n : Nat), vwCl[c]? = some (C, T, n) ∧ j < n ∧ (T j).1 = C ∧ (own, idx, C, (T j).2.1, (T j).2.2.1) ∈ nestF
def SLk (own : String) (idx i : Nat) : Prop := i < 6 ∧ Cond.fieldLink own idx RX5 (tbN i) "[I" ∈ gwL
def SNk (own : String) (idx i : Nat) : Prop := i < 6 ∧ (own, idx, RX5, tbN i, "[I") ∈ nestF
def fT (c j : Nat) : String × Bool := match vwCl[c]? with | some r => (r.2.1 j).2.2 | none => ("", true)
def clN (c : Nat) : String := match vwCl[c]? with | some r => r.1 | none => ""
def ClOK : Prop := ∀ (c : Nat) (C : String) (T : u_T) (n : Nat), vwCl[c]? = some (C, T, n) → (∀ w ∈ u_ws C T n, w ∈ gwL) ∧ ∃ ty : Nat → FieldType, (∀ k, k < n → parseFieldDescriptor (T k).2.2.1 = some (ty k)) ∧ ∀ a, a < n → ∀ b, b < n → a ≠ b → (T a).2.1 ≠ (T b).2.1
theorem inG0 : ∀ k, k < 6 → u_lay RX0 TX0 k ∈ gwL := fun k hk => match k, hk with
  | 0, _ => gw_of (q1_in _ (List.mem_of_getElem? (i := 171) rfl)) rfl
  | 1, _ => gw_of (q1_in _ (List.mem_of_getElem? (i := 173) rfl)) rfl
  | 2, _ => gw_of (q1_in _ (List.mem_of_getElem? (i := 175) rfl)) rfl
  | 3, _ => gw_of (q1_in _ (List.mem_of_getElem? (i := 177) rfl)) rfl
  | 4, _ => gw_of (q1_in _ (List.mem_of_getElem? (i := 179) rfl)) rfl
  | 5, _ => gw_of (q1_in _ (List.mem_of_getElem? (i := 181) rfl)) rfl
  | k + 6, hk => absurd hk (by omega)
theorem inG1 : ∀ k, k < 7 → u_lay RX1 TX1 k ∈ gwL := fun k hk => match k, hk with
  | 0, _ => gw_of (q1_in _ (List.mem_of_getElem? (i := 116) rfl)) rfl
  | 1, _ => gw_of (q1_in _ (List.mem_of_getElem? (i := 118) rfl)) rfl
  | 2, _ => gw_of (q1_in _ (List.mem_of_getElem? (i := 120) rfl)) rfl
  | 3, _ => gw_of (q1_in _ (List.mem_of_getElem? (i := 122) rfl)) rfl
  | 4, _ => gw_of (q1_in _ (List.mem_of_getElem? (i := 124) rfl)) rfl
  | 5, _ => gw_of (q1_in _ (List.mem_of_getElem? (i := 126) rfl)) rfl
  | 6, _ => gw_of (q1_in _ (List.mem_of_getElem? (i := 128) rfl)) rfl
  | k + 7, hk => absurd hk (by omega)
theorem inG2 : ∀ k, k < 7 → u_lay RX2 TX2 k ∈ gwL := fun k hk => match k, hk with
  | 0, _ => gw_of (q1_in _ (List.mem_of_getElem? (i := 90) rfl)) rfl
  | 1, _ => gw_of (q1_in _ (List.mem_of_getElem? (i := 92) rfl)) rfl
  | 2, _ => gw_of (q1_in _ (List.mem_of_getElem? (i := 94) rfl)) rfl
  | 3, _ => gw_of (q1_in _ (List.mem_of_getElem? (i := 96) rfl)) rfl
  | 4, _ => gw_of (q1_in _ (List.mem_of_getElem? (i := 98) rfl)) rfl
  | 5, _ => gw_of (q1_in _ (List.mem_of_getElem? (i := 100) rfl)) rfl
  | 6, _ => gw_of (q1_in _ (List.mem_of_getElem? (i := 102) rfl)) rfl
  | k + 7, hk => absurd hk (by omega)
theorem inG3 : ∀ k, k < 3 → u_lay RX3 TX3 k ∈ gwL := fun k hk => match k, hk with
  | 0, _ => gw_of (q1_in _ (List.mem_of_getElem? (i := 147) rfl)) rfl
  | 1, _ => gw_of (q1_in _ (List.mem_of_getElem? (i := 149) rfl)) rfl
  | 2, _ => gw_of (q1_in _ (List.mem_of_getElem? (i := 151) rfl)) rfl
  | k + 3, hk => absurd hk (by omega)
theorem inG4 : ∀ k, k < 6 → u_lay RX4 TX4 k ∈ gwL := fun k hk => match k, hk with
  | 0, _ => gw_of (q1_in _ (List.mem_of_getElem? (i := 45) rfl)) rfl
  | 1, _ => gw_of (q1_in _ (List.mem_of_getElem? (i := 47) rfl)) rfl
  | 2, _ => gw_of (q1_in _ (List.mem_of_getElem? (i := 49) rfl)) rfl
  | 3, _ => gw_of (q1_in _ (List.mem_of_getElem? (i := 51) rfl)) rfl
  | 4, _ => gw_of (q1_in _ (List.mem_of_getElem? (i := 53) rfl)) rfl
  | 5, _ => gw_of (q1_in _ (List.mem_of_getElem? (i := 55) rfl)) rfl
  | k + 6, hk => absurd hk (by omega)
theorem inG5 : ∀ k, k < 17 → u_lay RX5 TX5 k ∈ gwL := fun k hk => match k, hk with
  | 0, _ => gw_of (q1_in _ (List.mem_of_getElem? (i := 201) rfl)) rfl
  | 1, _ => gw_of (q1_in _ (List.mem_of_getElem? (i := 203) rfl)) rfl
  | 2, _ => gw_of (q1_in _ (List.mem_of_getElem? (i := 205) rfl)) rfl
  | 3, _ => gw_of (q1_in _ (List.mem_of_getElem? (i := 207) rfl)) rfl
  | 4, _ => gw_of (q1_in _ (List.mem_of_getElem? (i := 209) rfl)) rfl
  | 5, _ => gw_of (q1_in _ (List.mem_of_getElem? (i := 211) rfl)) rfl
  | 6, _ => gw_of (q1_in _ (List.mem_of_getElem? (i := 213) rfl)) rfl
  | 7, _ => gw_of (q1_in _ (List.mem_of_getElem? (i := 215) rfl)) rfl
  | 8, _ => gw_of (q1_in _ (List.mem_of_getElem? (i := 217) rfl)) rfl
  | 9, _ => gw_of (q1_in _ (List.mem_of_getElem? (i := 219) rfl)) rfl
  | 10, _ => gw_of (q1_in _ (List.mem_of_getElem? (i := 221) rfl)) rfl
  | 11, _ => gw_of (q1_in _ (List.mem_of_getElem? (i := 223) rfl)) rfl
  | 12, _ => gw_of (q1_in _ (List.mem_of_getElem? (i := 225) rfl)) rfl
  | 13, _ => gw_of (q1_in _ (List.mem_of_getElem? (i := 227) rfl)) rfl
  | 14, _ => gw_of (q1_in _ (List.mem_of_getElem? (i := 229) rfl)) rfl
  | 15, _ => gw_of (q1_in _ (List.mem_of_getElem? (i := 231) rfl)) rfl
  | 16, _ => gw_of (q1_in _ (List.mem_of_getElem? (i := 233) rfl)) rfl
  | k + 17, hk => absurd hk (by omega)
theorem inG6 : ∀ k, k < 36 → u_lay RX6 TX6 k ∈ gwL := fun k hk => match k, hk with
  | 0, _ => gw_of (q4_in _ (List.mem_of_getElem? (i := 69) rfl)) rfl
  | 1, _ => gw_of (q4_in _ (List.mem_of_getElem? (i := 71) rfl)) rfl
  | 2, _ => gw_of (q4_in _ (List.mem_of_getElem? (i := 73) rfl)) rfl
  | 3, _ => gw_of (q4_in _ (List.mem_of_getElem? (i := 75) rfl)) rfl
  | 4, _ => gw_of (q4_in _ (List.mem_of_getElem? (i := 77) rfl)) rfl
  | 5, _ => gw_of (q4_in _ (List.mem_of_getElem? (i := 79) rfl)) rfl
  | 6, _ => gw_of (q4_in _ (List.mem_of_getElem? (i := 81) rfl)) rfl
  | 7, _ => gw_of (q4_in _ (List.mem_of_getElem? (i := 83) rfl)) rfl
  | 8, _ => gw_of (q4_in _ (List.mem_of_getElem? (i := 85) rfl)) rfl
  | 9, _ => gw_of (q4_in _ (List.mem_of_getElem? (i := 87) rfl)) rfl
  | 10, _ => gw_of (q4_in _ (List.mem_of_getElem? (i := 89) rfl)) rfl
  | 11, _ => gw_of (q4_in _ (List.mem_of_getElem? (i := 91) rfl)) rfl
  | 12, _ => gw_of (q4_in _ (List.mem_of_getElem? (i := 93) rfl)) rfl
  | 13, _ => gw_of (q4_in _ (List.mem_of_getElem? (i := 95) rfl)) rfl
  | 14, _ => gw_of (q4_in _ (List.mem_of_getElem? (i := 97) rfl)) rfl
  | 15, _ => gw_of (q4_in _ (List.mem_of_getElem? (i := 99) rfl)) rfl
  | 16, _ => gw_of (q4_in _ (List.mem_of_getElem? (i := 101) rfl)) rfl
  | 17, _ => gw_of (q4_in _ (List.mem_of_getElem? (i := 103) rfl)) rfl
  | 18, _ => gw_of (q4_in _ (List.mem_of_getElem? (i := 105) rfl)) rfl
  | 19, _ => gw_of (q4_in _ (List.mem_of_getElem? (i := 107) rfl)) rfl
  | 20, _ => gw_of (q4_in _ (List.mem_of_getElem? (i := 109) rfl)) rfl
  | 21, _ => gw_of (q4_in _ (List.mem_of_getElem? (i := 111) rfl)) rfl
  | 22, _ => gw_of (q4_in _ (List.mem_of_getElem? (i := 113) rfl)) rfl
  | 23, _ => gw_of (q4_in _ (List.mem_of_getElem? (i := 115) rfl)) rfl
  | 24, _ => gw_of (q4_in _ (List.mem_of_getElem? (i := 117) rfl)) rfl
  | 25, _ => gw_of (q4_in _ (List.mem_of_getElem? (i := 119) rfl)) rfl
  | 26, _ => gw_of (q4_in _ (List.mem_of_getElem? (i := 121) rfl)) rfl
  | 27, _ => gw_of (q4_in _ (List.mem_of_getElem? (i := 123) rfl)) rfl
  | 28, _ => gw_of (q4_in _ (List.mem_of_getElem? (i := 125) rfl)) rfl
  | 29, _ => gw_of (q4_in _ (List.mem_of_getElem? (i := 127) rfl)) rfl
  | 30, _ => gw_of (q4_in _ (List.mem_of_getElem? (i := 129) rfl)) rfl
  | 31, _ => gw_of (q4_in _ (List.mem_of_getElem? (i := 131) rfl)) rfl
  | 32, _ => gw_of (q4_in _ (List.mem_of_getElem? (i := 133) rfl)) rfl
  | 33, _ => gw_of (q4_in _ (List.mem_of_getElem? (i := 135) rfl)) rfl
  | 34, _ => gw_of (q4_in _ (List.mem_of_getElem? (i := 137) rfl)) rfl
  | 35, _ => gw_of (q4_in _ (List.mem_of_getElem? (i := 139) rfl)) rfl
  | k + 36, hk => absurd hk (by omega)
theorem clOK : ClOK := by
  intro c C T n h
  have key : ∀ (C : String) (T : u_T) (n : Nat), (∀ k, k < n → u_lay C T k ∈ gwL) → ∀ w ∈ u_ws C T n, w ∈ gwL := fun C T n hh w hw => by
    obtain ⟨k, hk, rfl⟩ := List.mem_map.mp hw
    exact hh k (List.mem_range.mp hk)
  match c, h with
  | 0, h => cases h; exact ⟨key _ _ _ inG0, tyX0, tyX0_ok, nmX0⟩
  | 1, h => cases h; exact ⟨key _ _ _ inG1, tyX1, tyX1_ok, nmX1⟩
  | 2, h => cases h; exact ⟨key _ _ _ inG2, tyX2, tyX2_ok, nmX2⟩
  | 3, h => cases h; exact ⟨key _ _ _ inG3, tyX3, tyX3_ok, nmX3⟩
  | 4, h => cases h; exact ⟨key _ _ _ inG4, tyX4, tyX4_ok, nmX4⟩
  | 5, h => cases h; exact ⟨key _ _ _ inG5, tyX5, tyX5_ok, nmX5⟩
  | 6, h => cases h; exact ⟨key _ _ _ inG6, tyX6, tyX6_ok, nmX6⟩
  | c + 7, h => simp [vwCl] at h
theorem cl_lt {c : Nat} {r : vw_C} (h : vwCl[c]? = some r) : c < 7 := (List.getElem?_eq_some_iff.mp h).1
theorem nf_of {c n : Nat} {C : String} {T : u_T} (h : vwCl[c]? = some (C, T, n)) : nf c = n := by simp [nf, h]
theorem fT_of {c n : Nat} {C : String} {T : u_T} (h : vwCl[c]? = some (C, T, n)) (j : Nat) : fT c j = (T j).2.2 := by simp [fT, h]
theorem ent_obj {k c n : Nat} {C : String} {T : u_T} (f : Nat → Int32) (hk : kd k = c) (h : vwCl[c]? = some (C, T, n)) : ent E k f = .inr (c, (List.range n).map (fv E k c f)) := by
  unfold ent
  rw [hk, if_pos (cl_lt h), nf_of h]
theorem ent_int {k : Nat} (f : Nat → Int32) (hk : kd k = 7) : ent E k f = .inl (ge_cy E 0, ln k, .inl f) := by
  unfold ent
  rw [hk, if_neg (by decide), if_pos (by decide)]
theorem ent_bool {k : Nat} (f : Nat → Int32) (hk : kd k = 8) : ent E k f = .inl (ge_cy E 1, ln k, .inl f) := by
  unfold ent
  rw [hk, if_neg (by decide), if_pos (by decide)]
theorem ent_q {k : Nat} (f : Nat → Int32) (hk : kd k = 9 ∨ kd k = 10) : ent E k f = .inl (ge_cy E (kd k - 7), ln k, .inr (.inr (.inr (.inr (fun j => some (ad E (rf k j))))))) := by
  unfold ent
  rw [if_neg (by omega), if_neg (by omega)]
theorem fv_set {k c n j : Nat} (f : Nat → Int32) (v : Int32) (hr : isRefF c j = false) : ((List.range n).map (fv E k c f)).set j (.int v) = (List.range n).map (fv E k c (upd f j v)) := by
  apply List.ext_getElem?
  intro i
  by_cases hi : i < n
  · by_cases hij : i = j
    · subst hij
      rw [List.getElem?_set_self (by simpa using hi)]
      simp [hi, fv, hr, upd]
    · rw [List.getElem?_set_ne (Ne.symm hij)]
      simp [hi, fv, upd, hij]
  · rw [List.getElem?_eq_none (by simp; omega), List.getElem?_eq_none (by simp; omega)]
theorem wl_put {k c n j : Nat} {C : String} {T : u_T} (v : Int32) (hk : kd k = c) (h : vwCl[c]? = some (C, T, n)) (hn : k < NC) (hr : isRefF c j = false) : (wl E M).set k (ad E k, .inr (c, ((List.range n).map (fv E k c (M k))).set j (.int v))) = wl E (up M k j v) := by
  rw [fv_set _ _ hr, ← ent_obj (upd (M k) j v) hk h, wl_set E M hn, up_upR]
theorem Ev.get {idx k c j : Nat} {v : Value} (hd : decode (mi_code y) pc = .ok (.getfield idx, 3)) (hf : FLk (mi_nm y).cls idx c j) (hk : kd k = c) (hn : k < NC) (hv : fv E k c (M k) j = v) (kk : Ev E y (pc + 3) lv (v :: rest) M Q) : Ev E y pc lv (.ref (ad E k) :: rest) M Q := by
  intro p e s m args below meth c2 C ls hl H locs hP hS
  obtain ⟨hx, hb, hr, hml, hlk, hown, hts, hK, hSt, hAD⟩ := id C
  obtain ⟨Cn, T, n, hcl, hj, hTC, hlink⟩ := hf
  have he := wl_at E M hn
  rw [ent_obj (M k) hk hcl] at he
  exact va_get hx hb hts (fun w hw => List.mem_cons_of_mem _ ((clOK c Cn T n hcl).1 w hw)) hown hK hP k he hcl j hj (hts _ (List.mem_cons_of_mem _ hlink)) (fun x h => by rw [hTC] at h; exact h) (by rw [← hv]; simp [hj]) hd (kk p e s m args below meth c2 C ls hl H locs hP hS)
theorem Ev.getN {idx k c j : Nat} {v : Value} (hd : decode (mi_code y) pc = .ok (.getfield idx, 3)) (hf : NLk (mi_nm y).cls idx c j) (hk : kd k = c) (hn : k < NC) (hv : fv E k c (M k) j = v) (kk : Ev E y (pc + 3) lv (v :: rest) M Q) : Ev E y pc lv (.ref (ad E k) :: rest) M Q := by
  intro p e s m args below meth c2 C ls hl H locs hP hS
  obtain ⟨hx, hb, hr, hml, hlk, hown, hts, hK, hSt, hAD⟩ := id C
  obtain ⟨Cn, T, n, hcl, hj, hTC, hlink⟩ := hf
  have he := wl_at E M hn
  rw [ent_obj (M k) hk hcl] at he
  exact va_getN hx hb hts (fun w hw => List.mem_cons_of_mem _ ((clOK c Cn T n hcl).1 w hw)) hown hK hP k he hcl j hj (va_Nw.use rfl (hSt.2.2.2.2.2.1 _ hlink)) (fun x h => by rw [hTC] at h; exact h) (by rw [← hv]; simp [hj]) hd (kk p e s m args below meth c2 C ls hl H locs hP hS)
theorem Ev.putA {idx k c j : Nat} {v : Int32} {d : String} {ty : FieldType} (hd : decode (mi_code y) pc = .ok (.putfield idx, 3)) (hf : FLk (mi_nm y).cls idx c j) (hk : kd k = c) (hn : k < NC) (hr : isRefF c j = false) (ht : fT c j = (d, false)) (hp : parseFieldDescriptor d = some ty) (hnr : narrow ty (.int v) = .int v) (hfi : fits ty (.int v) = true) (kk : Ev E y (pc + 3) lv rest (up M k j v) Q) : Ev E y pc lv (.int v :: .ref (ad E k) :: rest) M Q := by
  intro p e s m args below meth c2 C ls hl H locs hP hS
  obtain ⟨hx, hb, hr', hml, hlk, hown, hts, hK, hSt, hAD⟩ := id C
  obtain ⟨Cn, T, n, hcl, hj, hTC, hlink⟩ := hf
  have he := wl_at E M hn
  rw [ent_obj (M k) hk hcl] at he
  rw [fT_of hcl] at ht
  obtain ⟨ty0, hty, hnm⟩ := (clOK c Cn T n hcl).2
  refine va_put hx hb hts (fun w hw => List.mem_cons_of_mem _ ((clOK c Cn T n hcl).1 w hw)) ty0 hty hnm hown hK hP (wl_D hAD M) hS k he hcl j hj (hts _ (List.mem_cons_of_mem _ hlink)) (fun x h => by rw [hTC] at h; exact h) (by rw [ht]) (by rw [ht]; exact hp) hnr hfi (by simpa using hj) hd (fun H1 locs1 hP1 hD1 hS1 => ?_)
  rw [wl_put v hk hcl hn hr] at hP1
  exact kk p e s m args below meth c2 C ls hl H1 locs1 hP1 hS1
theorem Ev.putN {idx k c j : Nat} {v : Int32} {d : String} {ty : FieldType} (hd : decode (mi_code y) pc = .ok (.putfield idx, 3)) (hf : NLk (mi_nm y).cls idx c j) (hk : kd k = c) (hn : k < NC) (hr : isRefF c j = false) (ht : fT c j = (d, false)) (hp : parseFieldDescriptor d = some ty) (hnr : narrow ty (.int v) = .int v) (hfi : fits ty (.int v) = true) (kk : Ev E y (pc + 3) lv rest (up M k j v) Q) : Ev E y pc lv (.int v :: .ref (ad E k) :: rest) M Q := by
  intro p e s m args below meth c2 C ls hl H locs hP hS
  obtain ⟨hx, hb, hr', hml, hlk, hown, hts, hK, hSt, hAD⟩ := id C
  obtain ⟨Cn, T, n, hcl, hj, hTC, hlink⟩ := hf
  have he := wl_at E M hn
  rw [ent_obj (M k) hk hcl] at he
  rw [fT_of hcl] at ht
  obtain ⟨ty0, hty, hnm⟩ := (clOK c Cn T n hcl).2
  refine va_putN hx hb hts (fun w hw => List.mem_cons_of_mem _ ((clOK c Cn T n hcl).1 w hw)) ty0 hty hnm hown hK hP (wl_D hAD M) hS k he hcl j hj (va_Nw.use rfl (hSt.2.2.2.2.2.1 _ hlink)) (fun x h => by rw [hTC] at h; exact h) (by rw [ht]) (by rw [ht]; exact hp) hnr hfi (by simpa using hj) hd (fun H1 locs1 hP1 hD1 hS1 => ?_)
  rw [wl_put v hk hcl hn hr] at hP1
  exact kk p e s m args below meth c2 C ls hl H1 locs1 hP1 hS1
theorem Ev.iald {k n : Nat} {i : Int32} (hd : decode (mi_code y) pc = .ok (.iaload, 1)) (hk : kd k = 7) (hn : k < NC) (hl9 : ln k = n) (hin : vp_in i n) (kk : Ev E y (pc + 1) lv (.int (M k i.toNatClampNeg) :: rest) M Q) : Ev E y pc lv (.int i :: .ref (ad E k) :: rest) M Q := by
  intro p e s m args below meth c2 C ls hl H locs hP hS
  obtain ⟨hx, hb, hr, hml, hlk, hown, hts, hK, hSt, hAD⟩ := id C
  have he := wl_at E M hn
  rw [ent_int (M k) hk, hl9] at he
  exact va_iald hx hb hK hP k 0 he rfl hin hd (kk p e s m args below meth c2 C ls hl H locs hP hS)
theorem Ev.zald {k n : Nat} {i : Int32} (hd : decode (mi_code y) pc = .ok (.baload, 1)) (hk : kd k = 8) (hn : k < NC) (hl9 : ln k = n) (hin : vp_in i n) (kk : Ev E y (pc + 1) lv (.int (M k i.toNatClampNeg) :: rest) M Q) : Ev E y pc lv (.int i :: .ref (ad E k) :: rest) M Q := by
  intro p e s m args below meth c2 C ls hl H locs hP hS
  obtain ⟨hx, hb, hr, hml, hlk, hown, hts, hK, hSt, hAD⟩ := id C
  have he := wl_at E M hn
  rw [ent_bool (M k) hk, hl9] at he
  exact va_zald hx hb hK hP k 1 he rfl hin hd (kk p e s m args below meth c2 C ls hl H locs hP hS)
theorem Ev.iast {k n : Nat} {i v : Int32} (hd : decode (mi_code y) pc = .ok (.iastore, 1)) (hk : kd k = 7) (hn : k < NC) (hl9 : ln k = n) (hin : vp_in i n) (kk : Ev E y (pc + 1) lv rest (up M k i.toNatClampNeg v) Q) : Ev E y pc lv (.int v :: .int i :: .ref (ad E k) :: rest) M Q := by
  intro p e s m args below meth c2 C ls hl H locs hP hS
  obtain ⟨hx, hb, hr, hml, hlk, hown, hts, hK, hSt, hAD⟩ := id C
  have he := wl_at E M hn
  rw [ent_int (M k) hk, hl9] at he
  refine va_iast hx hb hK hP (wl_D hAD M) hS k 0 he rfl hin hd (fun H1 locs1 hP1 hD1 hS1 => ?_)
  rw [← hl9, ← ent_int _ hk, wl_set E M hn, ← up_upR] at hP1
  exact kk p e s m args below meth c2 C ls hl H1 locs1 hP1 hS1
theorem Ev.zast {k n : Nat} {i v : Int32} (hd : decode (mi_code y) pc = .ok (.bastore, 1)) (hk : kd k = 8) (hn : k < NC) (hl9 : ln k = n) (hin : vp_in i n) (kk : Ev E y (pc + 1) lv rest (up M k i.toNatClampNeg (vp_nar .boolean v)) Q) : Ev E y pc lv (.int v :: .int i :: .ref (ad E k) :: rest) M Q := by
  intro p e s m args below meth c2 C ls hl H locs hP hS
  obtain ⟨hx, hb, hr, hml, hlk, hown, hts, hK, hSt, hAD⟩ := id C
  have he := wl_at E M hn
  rw [ent_bool (M k) hk, hl9] at he
  refine va_zast hx hb hK hP (wl_D hAD M) hS k 1 he rfl hin hd (fun H1 locs1 hP1 hD1 hS1 => ?_)
  rw [← hl9, ← ent_bool _ hk, wl_set E M hn, ← up_upR] at hP1
  exact kk p e s m args below meth c2 C ls hl H1 locs1 hP1 hS1
theorem Ev.aald {k n k2 : Nat} {i : Int32} (hd : decode (mi_code y) pc = .ok (.aaload, 1)) (hk : kd k = 9 ∨ kd k = 10) (hn : k < NC) (hl9 : ln k = n) (hin : vp_in i n) (h2 : rf k i.toNatClampNeg = k2) (kk : Ev E y (pc + 1) lv (.ref (ad E k2) :: rest) M Q) : Ev E y pc lv (.int i :: .ref (ad E k) :: rest) M Q := by
  intro p e s m args below meth c2 C ls hl H locs hP hS
  obtain ⟨hx, hb, hr, hml, hlk, hown, hts, hK, hSt, hAD⟩ := id C
  have he := wl_at E M hn
  rw [ent_q (M k) hk, hl9] at he
  subst h2
  rcases hk with hk | hk
  · rw [hk] at he
    exact va_aldq hx hb hK hP k 2 he rfl hin hd (kk p e s m args below meth c2 C ls hl H locs hP hS)
  · rw [hk] at he
    exact va_aldq hx hb hK hP k 3 he rfl hin hd (kk p e s m args below meth c2 C ls hl H locs hP hS)
theorem Ev.alen {k n : Nat} {v : Int32} (hd : decode (mi_code y) pc = .ok (.arraylength, 1)) (hk : kd k = 7) (hn : k < NC) (hl9 : ln k = n) (hv : Int32.ofNat n = v) (kk : Ev E y (pc + 1) lv (.int v :: rest) M Q) : Ev E y pc lv (.ref (ad E k) :: rest) M Q := by
  intro p e s m args below meth c2 C ls hl H locs hP hS
  obtain ⟨hx, hb, hr, hml, hlk, hown, hts, hK, hSt, hAD⟩ := id C
  have he := wl_at E M hn
  rw [ent_int (M k) hk, hl9] at he
  exact va_alen hx hb hK hP k 0 he rfl hv hd (kk p e s m args below meth c2 C ls hl H locs hP hS)
/-! tables -/
theorem Ev.getT {idx i : Nat} (hd : decode (mi_code y) pc = .ok (.getstatic idx, 3)) (hf : SLk (mi_nm y).cls idx i) (kk : Ev E y (pc + 3) lv (.ref (sT E i) :: rest) M Q) : Ev E y pc lv rest M Q := by
  intro p e s m args below meth c2 C ls hl H locs hP hS
  obtain ⟨hx, hb, hr, hml, hlk, hown, hts, hK, hSt, hAD⟩ := id C
  exact va_gets hx hb (hSt.1 i hf.1).1 hS hown (hts _ (List.mem_cons_of_mem _ hf.2)) (fun _ h => h) hd (kk p e s m args below meth c2 C ls hl H locs hP hS)
theorem Ev.getTN {idx i : Nat} (hd : decode (mi_code y) pc = .ok (.getstatic idx, 3)) (hf : SNk (mi_nm y).cls idx i) (kk : Ev E y (pc + 3) lv (.ref (sT E i) :: rest) M Q) : Ev E y pc lv rest M Q := by
  intro p e s m args below meth c2 C ls hl H locs hP hS
  obtain ⟨hx, hb, hr, hml, hlk, hown, hts, hK, hSt, hAD⟩ := id C
  exact va_getsN hx hb (hSt.1 i hf.1).1 hS hown (va_Nw.use rfl (hSt.2.2.2.2.2.1 _ hf.2)) (fun _ h => h) hd (kk p e s m args below meth c2 C ls hl H locs hP hS)
theorem Ev.tald {i n : Nat} {x : Int32} (hd : decode (mi_code y) pc = .ok (.iaload, 1)) (hi : i < 6) (hl9 : tbL i = n) (hin : vp_in x n) (kk : Ev E y (pc + 1) lv (.int (tbV i x.toNatClampNeg) :: rest) M Q) : Ev E y pc lv (.int x :: .ref (sT E i) :: rest) M Q := by
  intro p e s m args below meth c2 C ls hl H locs hP hS
  obtain ⟨hx, hb, hr, hml, hlk, hown, hts, hK, hSt, hAD⟩ := id C
  exact va_ti hx hb (hSt.1 i hi).2 hS (by rw [hl9]; exact hin) rfl hd (kk p e s m args below meth c2 C ls hl H locs hP hS)
/-! texts -/
theorem Ev.getCS {idx : Nat} (hd : decode (mi_code y) pc = .ok (.getstatic idx, 3)) (hf : Cond.fieldLink (mi_nm y).cls idx "java/lang/String" "COMPACT_STRINGS" "Z" ∈ gwL) (kk : Ev E y (pc + 3) lv (.int 1 :: rest) M Q) : Ev E y pc lv rest M Q := by
  intro p e s m args below meth c2 C ls hl H locs hP hS
  obtain ⟨hx, hb, hr, hml, hlk, hown, hts, hK, hSt, hAD⟩ := id C
  exact va_gets hx hb hSt.2.2.2.1 hS hown (hts _ (List.mem_cons_of_mem _ hf)) (fun _ h => h) hd (kk p e s m args below meth c2 C ls hl H locs hP hS)
theorem Ev.getFm {idx : Nat} (hd : decode (mi_code y) pc = .ok (.getstatic idx, 3)) (hf : Cond.fieldLink (mi_nm y).cls idx "jdk/internal/util/Preconditions" "SIOOBE_FORMATTER" "Ljava/util/function/BiFunction;" ∈ gwL) (kk : ∀ v : Value, v.category = 1 → Ev E y (pc + 3) lv (v :: rest) M Q) : Ev E y pc lv rest M Q := by
  intro p e s m args below meth c2 C ls hl H locs hP hS
  obtain ⟨hx, hb, hr, hml, hlk, hown, hts, hK, hSt, hAD⟩ := id C
  rcases hSt.2.2.2.2.1 with h | ⟨t, h⟩
  · exact va_gets hx hb h hS hown (hts _ (List.mem_cons_of_mem _ hf)) (fun _ h => h) hd (kk _ rfl p e s m args below meth c2 C ls hl H locs hP hS)
  · exact va_gets hx hb h hS hown (hts _ (List.mem_cons_of_mem _ hf)) (fun _ h => h) hd (kk _ rfl p e s m args below meth c2 C ls hl H locs hP hS)
theorem Ev.ldcS {idx i : Nat} (hd : decode (mi_code y) pc = .ok (.ldc idx, 2)) (ho : (mi_nm y).cls = RX1) (hi : i < 8) (hx9 : tx_ix i = idx) (kk : Ev E y (pc + 2) lv (.ref (sK E i) :: rest) M Q) : Ev E y pc lv rest M Q := by
  intro p e s m args below meth c2 C ls hl H locs hP hS
  obtain ⟨hx, hb, hr, hml, hlk, hown, hts, hK, hSt, hAD⟩ := id C
  rw [ho] at hown
  have hZ := hSt.2.2.1 i hi
  rw [hx9] at hZ
  exact va_ldcS hx hb hown hZ hd (kk p e s m args below meth c2 C ls hl H locs hP hS)
theorem Ev.ldcI {idx : Nat} {v : Int32} (hd : decode (mi_code y) pc = .ok (.ldc idx, 2)) (hf : Cond.constant (mi_nm y).cls idx v ∈ gwL) (kk : Ev E y (pc + 2) lv (.int v :: rest) M Q) : Ev E y pc lv rest M Q := fun p e s m args below meth c C ls hl H locs hP hS => lv_ldc C.1 C.2.1 C.2.2.2.2.2.1 (C.2.2.2.2.2.2.1 _ (List.mem_cons_of_mem _ hf)) hd (kk p e s m args below meth c C ls hl H locs hP hS)
theorem Ev.ldcw {idx : Nat} {v : Int32} (hd : decode (mi_code y) pc = .ok (.ldc_w idx, 3)) (hf : Cond.constant (mi_nm y).cls idx v ∈ gwL) (kk : Ev E y (pc + 3) lv (.int v :: rest) M Q) : Ev E y pc lv rest M Q := fun p e s m args below meth c C ls hl H locs hP hS => lv_ldcw C.1 C.2.1 C.2.2.2.2.2.1 (C.2.2.2.2.2.2.1 _ (List.mem_cons_of_mem _ hf)) hd (kk p e s m args below meth c C ls hl H locs hP hS)
theorem Ev.ldc2 {idx : Nat} {v : Int64} (hd : decode (mi_code y) pc = .ok (.ldc2_w idx, 3)) (hf : Cond.constantLong (mi_nm y).cls idx v ∈ gwL) (kk : Ev E y (pc + 3) lv (.long v :: rest) M Q) : Ev E y pc lv rest M Q := fun p e s m args below meth c C ls hl H locs hP hS => lv_ldc2 C.1 C.2.1 C.2.2.2.2.2.1 (C.2.2.2.2.2.2.1 _ (List.mem_cons_of_mem _ hf)) hd (kk p e s m args below meth c C ls hl H locs hP hS)
theorem Ev.strV {idx i : Nat} (hd : decode (mi_code y) pc = .ok (.getfield idx, 3)) (hf : Cond.fieldLink (mi_nm y).cls idx "java/lang/String" "value" "[B" ∈ gwL) (hi : i < 8) (kk : Ev E y (pc + 3) lv (.ref (sV E i) :: rest) M Q) : Ev E y pc lv (.ref (sK E i) :: rest) M Q := by
  intro p e s m args below meth c2 C ls hl H locs hP hS
  obtain ⟨hx, hb, hr, hml, hlk, hown, hts, hK, hSt, hAD⟩ := id C
  exact vk_getf hx hb (hSt.2.1.1 i hi).2.2.1 hS hown (hts _ (List.mem_cons_of_mem _ hf)) (fun _ h => h) hd (kk p e s m args below meth c2 C ls hl H locs hP hS)
theorem Ev.strC {idx i : Nat} (hd : decode (mi_code y) pc = .ok (.getfield idx, 3)) (hf : Cond.fieldLink (mi_nm y).cls idx "java/lang/String" "coder" "B" ∈ gwL) (hi : i < 8) (kk : Ev E y (pc + 3) lv (.int 0 :: rest) M Q) : Ev E y pc lv (.ref (sK E i) :: rest) M Q := by
  intro p e s m args below meth c2 C ls hl H locs hP hS
  obtain ⟨hx, hb, hr, hml, hlk, hown, hts, hK, hSt, hAD⟩ := id C
  exact vk_getf hx hb (hSt.2.1.1 i hi).2.1 hS hown (hts _ (List.mem_cons_of_mem _ hf)) (fun _ h => h) hd (kk p e s m args below meth c2 C ls hl H locs hP hS)
theorem Ev.slen {i : Nat} (hd : decode (mi_code y) pc = .ok (.arraylength, 1)) (hi : i < 8) (kk : Ev E y (pc + 1) lv (.int (Int32.ofNat (tx_len.getD i 0)) :: rest) M Q) : Ev E y pc lv (.ref (sV E i) :: rest) M Q := by
  intro p e s m args below meth c2 C ls hl H locs hP hS
  obtain ⟨hx, hb, hr, hml, hlk, hown, hts, hK, hSt, hAD⟩ := id C
  exact va_tlen hx hb (hSt.2.1.1 i hi).2.2.2 hS rfl hd (kk p e s m args below meth c2 C ls hl H locs hP hS)
theorem Ev.sald {i : Nat} {x : Int32} (hd : decode (mi_code y) pc = .ok (.baload, 1)) (hi : i < 8) (hin : vp_in x (tx_len.getD i 0)) (kk : Ev E y (pc + 1) lv (.int ((tx_byt.getD i []).getD x.toNatClampNeg 0) :: rest) M Q) : Ev E y pc lv (.int x :: .ref (sV E i) :: rest) M Q := by
  intro p e s m args below meth c2 C ls hl H locs hP hS
  obtain ⟨hx, hb, hr, hml, hlk, hown, hts, hK, hSt, hAD⟩ := id C
  exact va_tb hx hb (hSt.2.1.1 i hi).2.2.2 hS hin rfl hd (kk p e s m args below meth c2 C ls hl H locs hP hS)
/-! the library's -/
def MathOK (nm : MethodName) (code : ByteArray) (k : Nat) : Prop := Cond.static nm ∈ gwL ∧ Cond.initialized "java/lang/Math" ∈ gwL ∧ Cond.code nm code k (some .int) ∈ gwL
theorem Ev.mmax {idx : Nat} {a b : Int32} (hd : decode (mi_code y) pc = .ok (.invokestatic idx, 3)) (hf : Cond.methodLink (mi_nm y).cls idx Lib.Math.max.name ∈ gwL) (ho : MathOK Lib.Math.max.name Lib.Math.max.code 2) (hR : 1 ≤ (mi_rm y).frames ∧ 21 ≤ (mi_rm y).locals) (hs : (rest.map fun v => v.category).sum ≤ 8) (kk : Ev E y (pc + 3) lv (.int (if a < b then b else a) :: rest) M Q) : Ev E y pc lv (.int b :: .int a :: rest) M Q := by
  intro p e s m args below meth c2 C ls hl H locs hP hS
  obtain ⟨hx, hb, hr, hml, hlk, hown, hts, hK, hSt, hAD⟩ := id C
  have g := fun w h => hts w (List.mem_cons_of_mem _ h)
  exact va_mmax hx hb (hml.trans hl.1.symm) hown (g _ hf) (g _ ho.1) (g _ ho.2.1) (g _ ho.2.2) hR.1 (by have := hR.2; omega) (Nat.zero_le _) (Nat.zero_le _) hd (kk p e s m args below meth c2 C ls hl H locs hP hS)
theorem Ev.mmin {idx : Nat} {a b : Int32} (hd : decode (mi_code y) pc = .ok (.invokestatic idx, 3)) (hf : Cond.methodLink (mi_nm y).cls idx Lib.Math.min.name ∈ gwL) (ho : MathOK Lib.Math.min.name Lib.Math.min.code 2) (hR : 1 ≤ (mi_rm y).frames ∧ 21 ≤ (mi_rm y).locals) (hs : (rest.map fun v => v.category).sum ≤ 8) (kk : Ev E y (pc + 3) lv (.int (if b < a then b else a) :: rest) M Q) : Ev E y pc lv (.int b :: .int a :: rest) M Q := by
  intro p e s m args below meth c2 C ls hl H locs hP hS
  obtain ⟨hx, hb, hr, hml, hlk, hown, hts, hK, hSt, hAD⟩ := id C
  have g := fun w h => hts w (List.mem_cons_of_mem _ h)
  exact va_mmin hx hb (hml.trans hl.1.symm) hown (g _ hf) (g _ ho.1) (g _ ho.2.1) (g _ ho.2.2) hR.1 (by have := hR.2; omega) (Nat.zero_le _) (Nat.zero_le _) hd (kk p e s m args below meth c2 C ls hl H locs hP hS)
theorem Ev.mabs {idx : Nat} {a : Int32} (hd : decode (mi_code y) pc = .ok (.invokestatic idx, 3)) (hf : Cond.methodLink (mi_nm y).cls idx Lib.Math.abs.name ∈ gwL) (ho : MathOK Lib.Math.abs.name Lib.Math.abs.code 1) (hR : 1 ≤ (mi_rm y).frames ∧ 21 ≤ (mi_rm y).locals) (hs : (rest.map fun v => v.category).sum ≤ 8) (kk : Ev E y (pc + 3) lv (.int (if 0 ≤ a then a else 0 - a) :: rest) M Q) : Ev E y pc lv (.int a :: rest) M Q := by
  intro p e s m args below meth c2 C ls hl H locs hP hS
  obtain ⟨hx, hb, hr, hml, hlk, hown, hts, hK, hSt, hAD⟩ := id C
  have g := fun w h => hts w (List.mem_cons_of_mem _ h)
  exact va_mabs hx hb (hml.trans hl.1.symm) hown (g _ hf) (g _ ho.1) (g _ ho.2.1) (g _ ho.2.2) hR.1 (by have := hR.2; omega) (Nat.zero_le _) (Nat.zero_le _) hd (kk p e s m args below meth c2 C ls hl H locs hP hS)
def CopyOK : Prop := Cond.native arraycopyName ∈ gwL ∧ Cond.static arraycopyName ∈ gwL ∧ Cond.initialized "java/lang/System" ∈ gwL
def cp (M : Mem) (s d n : Nat) : Mem := upR M d (va_cpy (M s) (M d) 0 0 n)
theorem Ev.copy {idx k1 k2 n1 n2 N : Nat} {n : Int32} (hd : decode (mi_code y) pc = .ok (.invokestatic idx, 3)) (hf : Cond.methodLink (mi_nm y).cls idx arraycopyName ∈ gwL) (ho : CopyOK) (hR : 1 ≤ (mi_rm y).frames ∧ 26 ≤ (mi_rm y).locals) (hs : (rest.map fun v => v.category).sum ≤ 8) (hk1 : kd k1 = 7) (hn1 : k1 < NC) (hl1 : ln k1 = n1) (hk2 : kd k2 = 7) (hn2 : k2 < NC) (hl2 : ln k2 = n2) (h3 : ¬ n < 0) (hN : n.toNatClampNeg = N) (h4 : N ≤ n1) (h5 : N ≤ n2) (kk : Ev E y (pc + 3) lv rest (cp M k1 k2 N) Q) : Ev E y pc lv (.int n :: .int 0 :: .ref (ad E k2) :: .int 0 :: .ref (ad E k1) :: rest) M Q := by
  intro p e s m args below meth c2 C ls hl H locs hP hS
  obtain ⟨hx, hb, hr, hml, hlk, hown, hts, hK, hSt, hAD⟩ := id C
  have g := fun w h => hts w (List.mem_cons_of_mem _ h)
  have he1 := wl_at E M hn1
  rw [ent_int (M k1) hk1, hl1] at he1
  have he2 := wl_at E M hn2
  rw [ent_int (M k2) hk2, hl2] at he2
  have z : (0 : Int32).toNatClampNeg = 0 := by decide
  refine va_copyi hx hb (hml.trans hl.1.symm) hown (g _ hf) (g _ ho.1) (g _ ho.2.1) (g _ ho.2.2) hK hP (wl_D hAD M) hS k1 k2 0 0 he1 he2 rfl rfl rfl (by decide) (by decide) h3 (by rw [z, hN]; omega) (by rw [z, hN]; omega) (fun _ _ => rfl) hR.1 (by have := hR.2; show _ + 18 ≤ _; omega) hd (fun H1 locs1 hP1 hD1 hS1 => ?_)
  rw [z, hN, ← hl2, ← ent_int _ hk2, wl_set E M hn2] at hP1
  exact kk p e s m args below meth c2 C ls hl H1 locs1 hP1 hS1
/-! calls -/
def CLk (own : String) (idx : Nat) (z : MI) : Prop := Cond.methodLink own idx (mi_nm z) ∈ gwL
def CNk (own : String) (idx : Nat) (z : MI) : Prop := (own, idx, mi_nm z) ∈ nestM
def MCom (z : MI) (n : Nat) : Prop := (Cond.initialized (mi_nm z).cls ∈ gwL ∧ Cond.code (mi_nm z) (mi_code z) (mi_maxL z) (mi_ret z) ∈ gwL) ∧ (mi_rm z).cells = 0 ∧ (mi_rm z).slots = 0 ∧ (mi_nm z).cls ≠ "java/lang/invoke/MethodHandle" ∧ (mi_nm z).cls ≠ "java/lang/invoke/VarHandle" ∧ (parseMethodDescriptor (mi_nm z).desc).map (fun d => d.parameters.length) = some n
def MOK (z : MI) (n : Nat) : Prop := MCom z n ∧ Cond.instanceMethod (mi_nm z) ∈ gwL ∧ Cond.selects (mi_nm z).cls (mi_nm z) (mi_nm z) ∈ gwL
def MOS (z : MI) (n : Nat) : Prop := MCom z n ∧ Cond.static (mi_nm z) ∈ gwL
def rmOK (z y : MI) : Prop := (mi_rm z).frames + 1 ≤ (mi_rm y).frames ∧ 8 + (mi_maxL z + 11) + (mi_rm z).locals ≤ (mi_rm y).locals
theorem gw_ws {z : MI} {n : Nat} (ho : MCom z n) (y : MI) : GoodIn (ws y) (ws z) := gw_good (fun w hw => by
  rcases List.mem_cons.mp hw with h | h
  · rw [h]; exact ho.1.2
  · exact h) y
theorem pre_blind {as : List Value} : FrameBlind (va_Pc as (Pre E M)) := fun a U g mk q => by
  obtain ⟨h1, h2, h3, h4, h5⟩ := q
  exact ⟨h1, h2, va_K.moved (u := U) (U := U.calling g mk a) (Vm.Alike.refl U.vm) h3, Sta.same (s := U) rfl h4, h5⟩
theorem ev_call {p : Program} {e : Env} {s : State} {m : MethodId} {args a : Array Value} {below : List Frame} {meth : Method} {c : Code} {H : Heap} {locs : List Loc} {R : Room} {Q9 : State → Prop} {ls : Array Slot} {st0 : List Value} {l : Launch} {Q1 : Option Value → Mem → Prop} (hr : va_Run p l e R s m args below meth c H locs 0 0 0 0 (F0 m pc ls st0) rest (QcE E Q1 a) (AW E)) (hS : va_S (AW E) s.heap H locs)
    (kk : ∀ (v : Option Value) (M' : Mem) (H1 : Heap) (locs1 : List Loc), Q1 v M' → va_P (ge_D E) vwCl (wl E M') H1 → va_S (AW E) s.heap H1 locs1 → W p l e R s m args below meth c H1 locs1 0 0 Q9 (F0 m (pc + 3) ls (v.toList ++ rest))) : W p l e R s m args below meth c H locs 0 0 Q9 (F0 m pc ls st0) := by
  intro T hT X
  obtain ⟨v, st₀, t, T', L, h0, X', hL, e1, e2, ⟨⟨v2, M', hv, hp, hb⟩, hz, hk⟩, st⟩ := hr T hT X
  cases hv
  rw [h0] at hz hk
  obtain ⟨t2, a1, b1⟩ := kk v M' T'.heap (locs ++ L) hp (by rw [e1]; exact hb)
    ⟨Nat.le_trans hS.1 (by rw [e1]; exact hz), fun q h1 h2 => by rw [e1, hk q (Nat.lt_of_lt_of_le h1 hS.1) h2]; exact hS.2.1 q h1 h2, fun q hq => by
      rcases List.mem_append.mp hq with h | h
      · exact hS.2.2 q h
      · exact hL q h⟩ T' rfl X'
  exact ⟨t2, st t2 a1, b1⟩
theorem pre_at {s U : State} {H : Heap} {locs : List Loc} {as : List Value} (hU : U.heap = H) (hW : s.WarmedH U.vm) (hP : va_P (ge_D E) vwCl (wl E M) H) (hK : va_K (ge_D E) vwCl (tysE E) s) (hSt : Sta E s s.heap) (hAD : AD E) (hS : va_S (AW E) s.heap H locs) : va_Pc as (Pre E M) as.toArray U :=
  ⟨rfl, by rw [hU]; exact hP, va_K.moved hW.alike hK, by rw [hU]; exact Sta.warm hW (Sta.kept hS.2.1 hSt), hAD⟩
theorem Ev.callV {idx k n : Nat} {z : MI} {as stk : List Value} (hd : decode (mi_code y) pc = .ok (.invokevirtual idx, 3)) (hw : CLk (mi_nm y).cls idx z) (ho : MOK z n) (hc : clN (kd k) = (mi_nm z).cls) (hc7 : kd k < 7) (hn : k < NC) (hR : rmOK z y) (hs : (rest.map fun v => v.category).sum ≤ 8) (ha : as.length = n) (hst : stk = as.reverse ++ .ref (ad E k) :: rest) (hrun : Runs E z (.ref (ad E k) :: as) M (fun v M' => Ev E y (pc + 3) lv (v.toList ++ rest) M' Q)) : Ev E y pc lv stk M Q := by
  intro p e s m args below meth c2 C ls hl H locs hP hS
  obtain ⟨hx, hb, hr, hml, hlk, hown, hts, hK, hSt, hAD⟩ := id C
  have g := fun w h => hts w (List.mem_cons_of_mem _ h)
  obtain ⟨⟨⟨h1, h2⟩, h3, h4, h5, h6, h7⟩, h8, h9⟩ := ho
  have ho' : MCom z n := ⟨⟨h1, h2⟩, h3, h4, h5, h6, h7⟩
  have he := wl_at E M hn
  obtain ⟨r, hcl⟩ : ∃ r, vwCl[kd k]? = some r := ⟨vwCl[kd k]'hc7, List.getElem?_eq_getElem hc7⟩
  have hcn : r.1 = (mi_nm z).cls := by rw [← hc]; simp [clN, hcl]
  rw [ent_obj (M k) rfl (show vwCl[kd k]? = some (r.1, r.2.1, r.2.2) from hcl)] at he
  have hcell := va_recv hK hP hcl he
  refine ev_call (va_runV (own := (mi_nm y).cls) (C := (mi_nm z).cls) (As := as) (rest := rest) ⟨hx, hb, hml, hown, hts⟩ hrun ⟨callB_of n hts (gw_ws ho' y) rfl h3 h4 (g _ h1) (g _ hw) ⟨h5, h6, h7⟩ hR, g _ h8, g _ h9⟩ ⟨pre_blind, by rw [hcn] at hcell; exact hcell, fun U hU hW => pre_at hU hW hP hK hSt hAD hS⟩ rfl ha hl.1 hst (lv_room hs) hd ⟨Nat.zero_le _, Nat.zero_le _⟩) hS (fun v M' H1 locs1 hq hP1 hS1 => hq p e s m args below meth c2 C ls hl H1 locs1 hP1 hS1)
theorem Ev.callN {idx k n : Nat} {z : MI} {as stk : List Value} (hd : decode (mi_code y) pc = .ok (.invokevirtual idx, 3)) (hw : CNk (mi_nm y).cls idx z) (ho : MOK z n) (hc : clN (kd k) = (mi_nm z).cls) (hc7 : kd k < 7) (hn : k < NC) (hR : rmOK z y) (hs : (rest.map fun v => v.category).sum ≤ 8) (ha : as.length = n) (hst : stk = as.reverse ++ .ref (ad E k) :: rest) (hrun : Runs E z (.ref (ad E k) :: as) M (fun v M' => Ev E y (pc + 3) lv (v.toList ++ rest) M' Q)) : Ev E y pc lv stk M Q := by
  intro p e s m args below meth c2 C ls hl H locs hP hS
  obtain ⟨hx, hb, hr, hml, hlk, hown, hts, hK, hSt, hAD⟩ := id C
  have g := fun w h => hts w (List.mem_cons_of_mem _ h)
  obtain ⟨⟨⟨h1, h2⟩, h3, h4, h5, h6, h7⟩, h8, h9⟩ := ho
  have ho' : MCom z n := ⟨⟨h1, h2⟩, h3, h4, h5, h6, h7⟩
  have he := wl_at E M hn
  obtain ⟨r, hcl⟩ : ∃ r, vwCl[kd k]? = some r := ⟨vwCl[kd k]'hc7, List.getElem?_eq_getElem hc7⟩
  have hcn : r.1 = (mi_nm z).cls := by rw [← hc]; simp [clN, hcl]
  rw [ent_obj (M k) rfl (show vwCl[kd k]? = some (r.1, r.2.1, r.2.2) from hcl)] at he
  have hcell := va_recv hK hP hcl he
  refine ev_call (va_runVN (own := (mi_nm y).cls) (C := (mi_nm z).cls) (host := "FlotsamWill") (As := as) (rest := rest) ⟨hx, hb, hml, hown, hts⟩ hrun ⟨va_cnB n hts (gw_ws ho' y) rfl h3 h4 (hSt.2.2.2.2.2.2 _ hw) (g _ h1) ⟨h5, h6, h7⟩ hR, g _ h8, g _ h9⟩ ⟨pre_blind, by rw [hcn] at hcell; exact hcell, fun U hU hW => pre_at hU hW hP hK hSt hAD hS⟩ rfl ha hl.1 hst (lv_room hs) hd ⟨Nat.zero_le _, Nat.zero_le _⟩) hS (fun v M' H1 locs1 hq hP1 hS1 => hq p e s m args below meth c2 C ls hl H1 locs1 hP1 hS1)
/-- a method of a text -/
theorem Ev.callT {idx i n : Nat} {z : MI} {as stk : List Value} (hd : decode (mi_code y) pc = .ok (.invokevirtual idx, 3)) (hw : CLk (mi_nm y).cls idx z) (ho : MOK z n) (hc : (mi_nm z).cls = "java/lang/String") (hi : i < 8) (hR : rmOK z y) (hs : (rest.map fun v => v.category).sum ≤ 8) (ha : as.length = n) (hst : stk = as.reverse ++ .ref (sK E i) :: rest) (hrun : Runs E z (.ref (sK E i) :: as) M (fun v M' => Ev E y (pc + 3) lv (v.toList ++ rest) M' Q)) : Ev E y pc lv stk M Q := by
  intro p e s m args below meth c2 C ls hl H locs hP hS
  obtain ⟨hx, hb, hr, hml, hlk, hown, hts, hK, hSt, hAD⟩ := id C
  have g := fun w h => hts w (List.mem_cons_of_mem _ h)
  obtain ⟨⟨⟨h1, h2⟩, h3, h4, h5, h6, h7⟩, h8, h9⟩ := ho
  have ho' : MCom z n := ⟨⟨h1, h2⟩, h3, h4, h5, h6, h7⟩
  have hcell := vk_recv hSt.2.1 hi hS
  refine ev_call (va_runV (own := (mi_nm y).cls) (C := (mi_nm z).cls) (As := as) (rest := rest) ⟨hx, hb, hml, hown, hts⟩ hrun ⟨callB_of n hts (gw_ws ho' y) rfl h3 h4 (g _ h1) (g _ hw) ⟨h5, h6, h7⟩ hR, g _ h8, g _ h9⟩ ⟨pre_blind, by rw [hc]; exact hcell, fun U hU hW => pre_at hU hW hP hK hSt hAD hS⟩ rfl ha hl.1 hst (lv_room hs) hd ⟨Nat.zero_le _, Nat.zero_le _⟩) hS (fun v M' H1 locs1 hq hP1 hS1 => hq p e s m args below meth c2 C ls hl H1 locs1 hP1 hS1)
theorem Ev.callS {idx n : Nat} {z : MI} {as stk : List Value} (hd : decode (mi_code y) pc = .ok (.invokestatic idx, 3)) (hw : CLk (mi_nm y).cls idx z) (ho : MOS z n) (hR : rmOK z y) (hs : (rest.map fun v => v.category).sum ≤ 8) (ha : as.length = n) (hst : stk = as.reverse ++ rest) (hrun : Runs E z as M (fun v M' => Ev E y (pc + 3) lv (v.toList ++ rest) M' Q)) : Ev E y pc lv stk M Q := by
  intro p e s m args below meth c2 C ls hl H locs hP hS
  obtain ⟨hx, hb, hr, hml, hlk, hown, hts, hK, hSt, hAD⟩ := id C
  have g := fun w h => hts w (List.mem_cons_of_mem _ h)
  obtain ⟨⟨⟨h1, h2⟩, h3, h4, h5, h6, h7⟩, h8⟩ := ho
  have ho' : MCom z n := ⟨⟨h1, h2⟩, h3, h4, h5, h6, h7⟩
  refine ev_call (va_runS (own := (mi_nm y).cls) (As := as) (rest := rest) ⟨hx, hb, hml, hown, hts⟩ hrun ⟨callB_of n hts (gw_ws ho' y) rfl h3 h4 (g _ h1) (g _ hw) ⟨h5, h6, h7⟩ hR, g _ h8⟩ ⟨pre_blind, fun U hU hW => pre_at hU hW hP hK hSt hAD hS⟩ rfl ha hl.1 hst (lv_room hs) hd ⟨Nat.zero_le _, Nat.zero_le _⟩) hS (fun v M' H1 locs1 hq hP1 hS1 => hq p e s m args below meth c2 C ls hl H1 locs1 hP1 hS1)
theorem Ev.callSN {idx n : Nat} {z : MI} {as stk : List Value} (hd : decode (mi_code y) pc = .ok (.invokestatic idx, 3)) (hw : CNk (mi_nm y).cls idx z) (ho : MOS z n) (hR : rmOK z y) (hs : (rest.map fun v => v.category).sum ≤ 8) (ha : as.length = n) (hst : stk = as.reverse ++ rest) (hrun : Runs E z as M (fun v M' => Ev E y (pc + 3) lv (v.toList ++ rest) M' Q)) : Ev E y pc lv stk M Q := by
  intro p e s m args below meth c2 C ls hl H locs hP hS
  obtain ⟨hx, hb, hr, hml, hlk, hown, hts, hK, hSt, hAD⟩ := id C
  have g := fun w h => hts w (List.mem_cons_of_mem _ h)
  obtain ⟨⟨⟨h1, h2⟩, h3, h4, h5, h6, h7⟩, h8⟩ := ho
  have ho' : MCom z n := ⟨⟨h1, h2⟩, h3, h4, h5, h6, h7⟩
  refine ev_call (va_runSN (own := (mi_nm y).cls) (host := "FlotsamWill") (As := as) (rest := rest) ⟨hx, hb, hml, hown, hts⟩ hrun ⟨va_cnB n hts (gw_ws ho' y) rfl h3 h4 (hSt.2.2.2.2.2.2 _ hw) (g _ h1) ⟨h5, h6, h7⟩ hR, g _ h8, trivial⟩ ⟨pre_blind, fun U hU hW => pre_at hU hW hP hK hSt hAD hS⟩ rfl ha hl.1 hst (lv_room hs) hd ⟨Nat.zero_le _, Nat.zero_le _⟩) hS (fun v M' H1 locs1 hq hP1 hS1 => hq p e s m args below meth c2 C ls hl H1 locs1 hP1 hS1)
/-! ends -/
theorem Ev.ret {v : Int32} {ty : FieldType} (hd : decode (mi_code y) pc = .ok (.ireturn, 1)) (hr : mi_ret y = some ty) (hn : narrow ty (.int v) = .int v) (hq : Q (some (.int v)) M) : Ev E y pc lv [.int v] M Q := by
  intro p e s m args below meth c2 C ls hl H locs hP hS
  obtain ⟨hx, hb, hr', hml, hlk, hown, hts, hK, hSt, hAD⟩ := id C
  exact W.zret hx hb (hr'.trans hr) hn (fun t ht hW => ⟨⟨_, M, rfl, hq, by rw [ht]; exact hP⟩, hS.F ht⟩) hS.2.2 hd hlk
theorem Ev.lret {v : Int64} (hd : decode (mi_code y) pc = .ok (.lreturn, 1)) (hr : mi_ret y = some .long) (hq : Q (some (.long v)) M) : Ev E y pc lv [.long v] M Q := by
  intro p e s m args below meth c2 C ls hl H locs hP hS
  obtain ⟨hx, hb, hr', hml, hlk, hown, hts, hK, hSt, hAD⟩ := id C
  exact W.lret hx hb (hr'.trans hr) (fun t ht hW => ⟨⟨_, M, rfl, hq, by rw [ht]; exact hP⟩, hS.F ht⟩) hS.2.2 hd hlk
theorem Ev.vret (hd : decode (mi_code y) pc = .ok (.return_, 1)) (hr : mi_ret y = none) (hq : Q none M) : Ev E y pc lv [] M Q := by
  intro p e s m args below meth c2 C ls hl H locs hP hS
  obtain ⟨hx, hb, hr', hml, hlk, hown, hts, hK, hSt, hAD⟩ := id C
  exact W.vret hx hb (hr'.trans hr) (fun t ht hW => ⟨⟨_, M, rfl, hq, by rw [ht]; exact hP⟩, hS.F ht⟩) hS.2.2 hd hlk
end EVR
