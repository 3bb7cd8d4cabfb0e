-- The kit's rows, told of 'aW'.
section XROWS
variable {p : Program} {l : Launch} {e : Env} {R : Room} {s : State} {m : MethodId} {args : Array Value} {below : List Frame} {meth : Method} {c : Code} {cc : ByteArray} {nL : Nat} {ret : Option FieldType} {own : String} {D : va_G} {tc : Nat → ClassId} {aK aV : Nat → Nat} {A : Nat → Prop} {Rs : List XR} {kc ks : Nat} {Q : State → Prop} {rv : Option Value} {zp : Prop} {vo : List XM} {pc : Nat} {lo : List (Nat × Value)} {st : List Value} {vs : List XM}

theorem a_iconst (X : Cx p s m args meth c cc nL ret own D tc aK aV A Rs) {n : Int} {v : Int32} (hdg : decode cc pc = .ok (.iconst n, 1))
    (hv : Int32.ofInt n = v) (k : bW p l e R s m args below meth c D tc A nL Rs kc ks Q (pc + 1) lo (.int v :: st) vs) : bW p l e R s m args below meth c D tc A nL Rs kc ks Q pc lo st vs :=
  fun H locs ls hP hS hl => lv_iconst X.1 X.2.1 hdg hv (k H locs ls hP hS hl)
theorem a_bipush (X : Cx p s m args meth c cc nL ret own D tc aK aV A Rs) {n : Int} {v : Int32} (hdg : decode cc pc = .ok (.bipush n, 2))
    (hv : (Int8.ofInt n).toInt32 = v) (k : bW p l e R s m args below meth c D tc A nL Rs kc ks Q (pc + 2) lo (.int v :: st) vs) : bW p l e R s m args below meth c D tc A nL Rs kc ks Q pc lo st vs :=
  fun H locs ls hP hS hl => lv_bipush X.1 X.2.1 hdg hv (k H locs ls hP hS hl)
theorem a_sipush (X : Cx p s m args meth c cc nL ret own D tc aK aV A Rs) {n : Int} {v : Int32} (hdg : decode cc pc = .ok (.sipush n, 3))
    (hv : (Int16.ofInt n).toInt32 = v) (k : bW p l e R s m args below meth c D tc A nL Rs kc ks Q (pc + 3) lo (.int v :: st) vs) : bW p l e R s m args below meth c D tc A nL Rs kc ks Q pc lo st vs :=
  fun H locs ls hP hS hl => lv_sipush X.1 X.2.1 hdg hv (k H locs ls hP hS hl)
theorem a_lconst (X : Cx p s m args meth c cc nL ret own D tc aK aV A Rs) {n : Fin 2} {v : Int64} (hdg : decode cc pc = .ok (.lconst n, 1))
    (hv : Int64.ofNat (n : Nat) = v) (k : bW p l e R s m args below meth c D tc A nL Rs kc ks Q (pc + 1) lo (.long v :: st) vs) : bW p l e R s m args below meth c D tc A nL Rs kc ks Q pc lo st vs :=
  fun H locs ls hP hS hl => lv_lconst X.1 X.2.1 hdg hv (k H locs ls hP hS hl)
theorem a_ldc (X : Cx p s m args meth c cc nL ret own D tc aK aV A Rs) {index : Nat} {v : Int32} (hc : Jvm.Cond.constant own index v ∈ x_TB) (hdg : decode cc pc = .ok (.ldc index, 2))
    (k : bW p l e R s m args below meth c D tc A nL Rs kc ks Q (pc + 2) lo (.int v :: st) vs) : bW p l e R s m args below meth c D tc A nL Rs kc ks Q pc lo st vs :=
  fun H locs ls hP hS hl => lv_ldc X.1 X.2.1 X.2.2.2.1 (X.2.2.2.2.1 _ hc) hdg (k H locs ls hP hS hl)
theorem a_ldc2 (X : Cx p s m args meth c cc nL ret own D tc aK aV A Rs) {index : Nat} {v : Int64} (hc : Jvm.Cond.constantLong own index v ∈ x_TB) (hdg : decode cc pc = .ok (.ldc2_w index, 3))
    (k : bW p l e R s m args below meth c D tc A nL Rs kc ks Q (pc + 3) lo (.long v :: st) vs) : bW p l e R s m args below meth c D tc A nL Rs kc ks Q pc lo st vs :=
  fun H locs ls hP hS hl => lv_ldc2 X.1 X.2.1 X.2.2.2.1 (X.2.2.2.2.1 _ hc) hdg (k H locs ls hP hS hl)
theorem a_iload_n (X : Cx p s m args meth c cc nL ret own D tc aK aV A Rs) (j : Nat) {kk : Fin 4} {i : Nat} {x : Int32} (hdg : decode cc pc = .ok (.iload_n kk, 1))
    (hi : (kk : Nat) = i) (hj : lo[j]? = some (i, .int x)) (k : bW p l e R s m args below meth c D tc A nL Rs kc ks Q (pc + 1) lo (.int x :: st) vs) : bW p l e R s m args below meth c D tc A nL Rs kc ks Q pc lo st vs :=
  fun H locs ls hP hS hl => lv_iload_n X.1 X.2.1 hdg hi (lv_at hl j hj) (k H locs ls hP hS hl)
theorem a_iload (X : Cx p s m args meth c cc nL ret own D tc aK aV A Rs) (j : Nat) {i : Nat} {x : Int32} (hdg : decode cc pc = .ok (.iload i, 2))
    (hj : lo[j]? = some (i, .int x)) (k : bW p l e R s m args below meth c D tc A nL Rs kc ks Q (pc + 2) lo (.int x :: st) vs) : bW p l e R s m args below meth c D tc A nL Rs kc ks Q pc lo st vs :=
  fun H locs ls hP hS hl => lv_iload X.1 X.2.1 hdg (lv_at hl j hj) (k H locs ls hP hS hl)
theorem a_istore_n (X : Cx p s m args meth c cc nL ret own D tc aK aV A Rs) {kk : Fin 4} {i : Nat} {x : Int32} (lo2 : List (Nat × Value)) (hdg : decode cc pc = .ok (.istore_n kk, 1))
    (hi : (kk : Nat) = i) (hn : i < nL) (hl2 : (i, Value.int x) :: lo.filter (fun q => !(q.1 == i) && !(q.1 + 1 == i && q.2.category == 2)) = lo2) (k : bW p l e R s m args below meth c D tc A nL Rs kc ks Q (pc + 1) lo2 st vs) : bW p l e R s m args below meth c D tc A nL Rs kc ks Q pc lo (.int x :: st) vs :=
  fun H locs ls hP hS hl => lv_istore_n X.1 X.2.1 hdg hi hl hn hl2 (fun ls hl => k H locs ls hP hS hl)
theorem a_istore (X : Cx p s m args meth c cc nL ret own D tc aK aV A Rs) {i : Nat} {x : Int32} (lo2 : List (Nat × Value)) (hdg : decode cc pc = .ok (.istore i, 2))
    (hn : i < nL) (hl2 : (i, Value.int x) :: lo.filter (fun q => !(q.1 == i) && !(q.1 + 1 == i && q.2.category == 2)) = lo2) (k : bW p l e R s m args below meth c D tc A nL Rs kc ks Q (pc + 2) lo2 st vs) : bW p l e R s m args below meth c D tc A nL Rs kc ks Q pc lo (.int x :: st) vs :=
  fun H locs ls hP hS hl => lv_istore X.1 X.2.1 hdg hl hn hl2 (fun ls hl => k H locs ls hP hS hl)
theorem a_lload_n (X : Cx p s m args meth c cc nL ret own D tc aK aV A Rs) (j : Nat) {kk : Fin 4} {i : Nat} {x : Int64} (hdg : decode cc pc = .ok (.lload_n kk, 1))
    (hi : (kk : Nat) = i) (hj : lo[j]? = some (i, .long x)) (k : bW p l e R s m args below meth c D tc A nL Rs kc ks Q (pc + 1) lo (.long x :: st) vs) : bW p l e R s m args below meth c D tc A nL Rs kc ks Q pc lo st vs :=
  fun H locs ls hP hS hl => lv_lload_n X.1 X.2.1 hdg hi (lv_at hl j hj) (k H locs ls hP hS hl)
theorem a_lload (X : Cx p s m args meth c cc nL ret own D tc aK aV A Rs) (j : Nat) {i : Nat} {x : Int64} (hdg : decode cc pc = .ok (.lload i, 2))
    (hj : lo[j]? = some (i, .long x)) (k : bW p l e R s m args below meth c D tc A nL Rs kc ks Q (pc + 2) lo (.long x :: st) vs) : bW p l e R s m args below meth c D tc A nL Rs kc ks Q pc lo st vs :=
  fun H locs ls hP hS hl => lv_lload X.1 X.2.1 hdg (lv_at hl j hj) (k H locs ls hP hS hl)
theorem a_lstore_n (X : Cx p s m args meth c cc nL ret own D tc aK aV A Rs) {kk : Fin 4} {i : Nat} {x : Int64} (lo2 : List (Nat × Value)) (hdg : decode cc pc = .ok (.lstore_n kk, 1))
    (hi : (kk : Nat) = i) (hn : i + 1 < nL) (hl2 : (i, Value.long x) :: lo.filter (fun q => !(q.1 == i) && (!(q.1 == i + 1) && !(q.1 + 1 == i && q.2.category == 2))) = lo2) (k : bW p l e R s m args below meth c D tc A nL Rs kc ks Q (pc + 1) lo2 st vs) : bW p l e R s m args below meth c D tc A nL Rs kc ks Q pc lo (.long x :: st) vs :=
  fun H locs ls hP hS hl => lv_lstore_n X.1 X.2.1 hdg hi hl hn hl2 (fun ls hl => k H locs ls hP hS hl)
theorem a_lstore (X : Cx p s m args meth c cc nL ret own D tc aK aV A Rs) {i : Nat} {x : Int64} (lo2 : List (Nat × Value)) (hdg : decode cc pc = .ok (.lstore i, 2))
    (hn : i + 1 < nL) (hl2 : (i, Value.long x) :: lo.filter (fun q => !(q.1 == i) && (!(q.1 == i + 1) && !(q.1 + 1 == i && q.2.category == 2))) = lo2) (k : bW p l e R s m args below meth c D tc A nL Rs kc ks Q (pc + 2) lo2 st vs) : bW p l e R s m args below meth c D tc A nL Rs kc ks Q pc lo (.long x :: st) vs :=
  fun H locs ls hP hS hl => lv_lstore X.1 X.2.1 hdg hl hn hl2 (fun ls hl => k H locs ls hP hS hl)
theorem a_aload_n (X : Cx p s m args meth c cc nL ret own D tc aK aV A Rs) (j : Nat) {kk : Fin 4} {i : Nat} {x : Nat} (hdg : decode cc pc = .ok (.aload_n kk, 1))
    (hi : (kk : Nat) = i) (hj : lo[j]? = some (i, .ref x)) (k : bW p l e R s m args below meth c D tc A nL Rs kc ks Q (pc + 1) lo (.ref x :: st) vs) : bW p l e R s m args below meth c D tc A nL Rs kc ks Q pc lo st vs :=
  fun H locs ls hP hS hl => lv_aload_n X.1 X.2.1 hdg hi (lv_at hl j hj) (k H locs ls hP hS hl)
theorem a_aload (X : Cx p s m args meth c cc nL ret own D tc aK aV A Rs) (j : Nat) {i : Nat} {x : Nat} (hdg : decode cc pc = .ok (.aload i, 2))
    (hj : lo[j]? = some (i, .ref x)) (k : bW p l e R s m args below meth c D tc A nL Rs kc ks Q (pc + 2) lo (.ref x :: st) vs) : bW p l e R s m args below meth c D tc A nL Rs kc ks Q pc lo st vs :=
  fun H locs ls hP hS hl => lv_aload X.1 X.2.1 hdg (lv_at hl j hj) (k H locs ls hP hS hl)
theorem a_astore_n (X : Cx p s m args meth c cc nL ret own D tc aK aV A Rs) {kk : Fin 4} {i : Nat} {x : Nat} (lo2 : List (Nat × Value)) (hdg : decode cc pc = .ok (.astore_n kk, 1))
    (hi : (kk : Nat) = i) (hn : i < nL) (hl2 : (i, Value.ref x) :: lo.filter (fun q => !(q.1 == i) && !(q.1 + 1 == i && q.2.category == 2)) = lo2) (k : bW p l e R s m args below meth c D tc A nL Rs kc ks Q (pc + 1) lo2 st vs) : bW p l e R s m args below meth c D tc A nL Rs kc ks Q pc lo (.ref x :: st) vs :=
  fun H locs ls hP hS hl => lv_astore_n X.1 X.2.1 hdg hi hl hn hl2 (fun ls hl => k H locs ls hP hS hl)
theorem a_astore (X : Cx p s m args meth c cc nL ret own D tc aK aV A Rs) {i : Nat} {x : Nat} (lo2 : List (Nat × Value)) (hdg : decode cc pc = .ok (.astore i, 2))
    (hn : i < nL) (hl2 : (i, Value.ref x) :: lo.filter (fun q => !(q.1 == i) && !(q.1 + 1 == i && q.2.category == 2)) = lo2) (k : bW p l e R s m args below meth c D tc A nL Rs kc ks Q (pc + 2) lo2 st vs) : bW p l e R s m args below meth c D tc A nL Rs kc ks Q pc lo (.ref x :: st) vs :=
  fun H locs ls hP hS hl => lv_astore X.1 X.2.1 hdg hl hn hl2 (fun ls hl => k H locs ls hP hS hl)
theorem a_iinc (X : Cx p s m args meth c cc nL ret own D tc aK aV A Rs) (j : Nat) {i : Nat} {n : Int} {x v : Int32} (lo2 : List (Nat × Value)) (hdg : decode cc pc = .ok (.iinc i n, 3))
    (hj : lo[j]? = some (i, .int x)) (hv : x + Int32.ofInt n = v) (hn : i < nL) (hl2 : (i, Value.int v) :: lo.filter (fun q => !(q.1 == i) && !(q.1 + 1 == i && q.2.category == 2)) = lo2) (k : bW p l e R s m args below meth c D tc A nL Rs kc ks Q (pc + 3) lo2 st vs) : bW p l e R s m args below meth c D tc A nL Rs kc ks Q pc lo st vs :=
  fun H locs ls hP hS hl => lv_iinc X.1 X.2.1 hdg hl hj hv hn hl2 (fun ls hl => k H locs ls hP hS hl)
theorem a_iadd (X : Cx p s m args meth c cc nL ret own D tc aK aV A Rs) {x y : Int32} (hdg : decode cc pc = .ok (.iadd, 1))
    (k : bW p l e R s m args below meth c D tc A nL Rs kc ks Q (pc + 1) lo (.int (x + y) :: st) vs) : bW p l e R s m args below meth c D tc A nL Rs kc ks Q pc lo (.int y :: .int x :: st) vs :=
  fun H locs ls hP hS hl => lv_iadd X.1 X.2.1 hdg (k H locs ls hP hS hl)
theorem a_isub (X : Cx p s m args meth c cc nL ret own D tc aK aV A Rs) {x y : Int32} (hdg : decode cc pc = .ok (.isub, 1))
    (k : bW p l e R s m args below meth c D tc A nL Rs kc ks Q (pc + 1) lo (.int (x - y) :: st) vs) : bW p l e R s m args below meth c D tc A nL Rs kc ks Q pc lo (.int y :: .int x :: st) vs :=
  fun H locs ls hP hS hl => lv_isub X.1 X.2.1 hdg (k H locs ls hP hS hl)
theorem a_imul (X : Cx p s m args meth c cc nL ret own D tc aK aV A Rs) {x y : Int32} (hdg : decode cc pc = .ok (.imul, 1))
    (k : bW p l e R s m args below meth c D tc A nL Rs kc ks Q (pc + 1) lo (.int (x * y) :: st) vs) : bW p l e R s m args below meth c D tc A nL Rs kc ks Q pc lo (.int y :: .int x :: st) vs :=
  fun H locs ls hP hS hl => lv_imul X.1 X.2.1 hdg (k H locs ls hP hS hl)
theorem a_iand (X : Cx p s m args meth c cc nL ret own D tc aK aV A Rs) {x y : Int32} (hdg : decode cc pc = .ok (.iand, 1))
    (k : bW p l e R s m args below meth c D tc A nL Rs kc ks Q (pc + 1) lo (.int (x &&& y) :: st) vs) : bW p l e R s m args below meth c D tc A nL Rs kc ks Q pc lo (.int y :: .int x :: st) vs :=
  fun H locs ls hP hS hl => lv_iand X.1 X.2.1 hdg (k H locs ls hP hS hl)
theorem a_ior (X : Cx p s m args meth c cc nL ret own D tc aK aV A Rs) {x y : Int32} (hdg : decode cc pc = .ok (.ior, 1))
    (k : bW p l e R s m args below meth c D tc A nL Rs kc ks Q (pc + 1) lo (.int (x ||| y) :: st) vs) : bW p l e R s m args below meth c D tc A nL Rs kc ks Q pc lo (.int y :: .int x :: st) vs :=
  fun H locs ls hP hS hl => lv_ior X.1 X.2.1 hdg (k H locs ls hP hS hl)
theorem a_ixor (X : Cx p s m args meth c cc nL ret own D tc aK aV A Rs) {x y : Int32} (hdg : decode cc pc = .ok (.ixor, 1))
    (k : bW p l e R s m args below meth c D tc A nL Rs kc ks Q (pc + 1) lo (.int (x ^^^ y) :: st) vs) : bW p l e R s m args below meth c D tc A nL Rs kc ks Q pc lo (.int y :: .int x :: st) vs :=
  fun H locs ls hP hS hl => lv_ixor X.1 X.2.1 hdg (k H locs ls hP hS hl)
theorem a_ishl (X : Cx p s m args meth c cc nL ret own D tc aK aV A Rs) {x y : Int32} (hdg : decode cc pc = .ok (.ishl, 1))
    (k : bW p l e R s m args below meth c D tc A nL Rs kc ks Q (pc + 1) lo (.int (x <<< (y &&& 31)) :: st) vs) : bW p l e R s m args below meth c D tc A nL Rs kc ks Q pc lo (.int y :: .int x :: st) vs :=
  fun H locs ls hP hS hl => lv_ishl X.1 X.2.1 hdg (k H locs ls hP hS hl)
theorem a_ishr (X : Cx p s m args meth c cc nL ret own D tc aK aV A Rs) {x y : Int32} (hdg : decode cc pc = .ok (.ishr, 1))
    (k : bW p l e R s m args below meth c D tc A nL Rs kc ks Q (pc + 1) lo (.int (x >>> (y &&& 31)) :: st) vs) : bW p l e R s m args below meth c D tc A nL Rs kc ks Q pc lo (.int y :: .int x :: st) vs :=
  fun H locs ls hP hS hl => lv_ishr X.1 X.2.1 hdg (k H locs ls hP hS hl)
theorem a_idiv (X : Cx p s m args meth c cc nL ret own D tc aK aV A Rs) {x y : Int32} (hne : ¬ y = 0) (hdg : decode cc pc = .ok (.idiv, 1))
    (k : bW p l e R s m args below meth c D tc A nL Rs kc ks Q (pc + 1) lo (.int (x / y) :: st) vs) : bW p l e R s m args below meth c D tc A nL Rs kc ks Q pc lo (.int y :: .int x :: st) vs :=
  fun H locs ls hP hS hl => lv_idiv X.1 X.2.1 hdg hne (k H locs ls hP hS hl)
theorem a_irem (X : Cx p s m args meth c cc nL ret own D tc aK aV A Rs) {x y : Int32} (hne : ¬ y = 0) (hdg : decode cc pc = .ok (.irem, 1))
    (k : bW p l e R s m args below meth c D tc A nL Rs kc ks Q (pc + 1) lo (.int (x - x / y * y) :: st) vs) : bW p l e R s m args below meth c D tc A nL Rs kc ks Q pc lo (.int y :: .int x :: st) vs :=
  fun H locs ls hP hS hl => lv_irem X.1 X.2.1 hdg hne (k H locs ls hP hS hl)
theorem a_ladd (X : Cx p s m args meth c cc nL ret own D tc aK aV A Rs) {x y : Int64} (hdg : decode cc pc = .ok (.ladd, 1))
    (k : bW p l e R s m args below meth c D tc A nL Rs kc ks Q (pc + 1) lo (.long (x + y) :: st) vs) : bW p l e R s m args below meth c D tc A nL Rs kc ks Q pc lo (.long y :: .long x :: st) vs :=
  fun H locs ls hP hS hl => lv_ladd X.1 X.2.1 hdg (k H locs ls hP hS hl)
theorem a_lsub (X : Cx p s m args meth c cc nL ret own D tc aK aV A Rs) {x y : Int64} (hdg : decode cc pc = .ok (.lsub, 1))
    (k : bW p l e R s m args below meth c D tc A nL Rs kc ks Q (pc + 1) lo (.long (x - y) :: st) vs) : bW p l e R s m args below meth c D tc A nL Rs kc ks Q pc lo (.long y :: .long x :: st) vs :=
  fun H locs ls hP hS hl => lv_lsub X.1 X.2.1 hdg (k H locs ls hP hS hl)
theorem a_lmul (X : Cx p s m args meth c cc nL ret own D tc aK aV A Rs) {x y : Int64} (hdg : decode cc pc = .ok (.lmul, 1))
    (k : bW p l e R s m args below meth c D tc A nL Rs kc ks Q (pc + 1) lo (.long (x * y) :: st) vs) : bW p l e R s m args below meth c D tc A nL Rs kc ks Q pc lo (.long y :: .long x :: st) vs :=
  fun H locs ls hP hS hl => lv_lmul X.1 X.2.1 hdg (k H locs ls hP hS hl)
theorem a_land (X : Cx p s m args meth c cc nL ret own D tc aK aV A Rs) {x y : Int64} (hdg : decode cc pc = .ok (.land, 1))
    (k : bW p l e R s m args below meth c D tc A nL Rs kc ks Q (pc + 1) lo (.long (x &&& y) :: st) vs) : bW p l e R s m args below meth c D tc A nL Rs kc ks Q pc lo (.long y :: .long x :: st) vs :=
  fun H locs ls hP hS hl => lv_land X.1 X.2.1 hdg (k H locs ls hP hS hl)
theorem a_ldiv (X : Cx p s m args meth c cc nL ret own D tc aK aV A Rs) {x y : Int64} (hne : ¬ y = 0) (hdg : decode cc pc = .ok (.ldiv, 1))
    (k : bW p l e R s m args below meth c D tc A nL Rs kc ks Q (pc + 1) lo (.long (x / y) :: st) vs) : bW p l e R s m args below meth c D tc A nL Rs kc ks Q pc lo (.long y :: .long x :: st) vs :=
  fun H locs ls hP hS hl => lv_ldiv X.1 X.2.1 hdg hne (k H locs ls hP hS hl)
theorem a_lrem (X : Cx p s m args meth c cc nL ret own D tc aK aV A Rs) {x y : Int64} (hne : ¬ y = 0) (hdg : decode cc pc = .ok (.lrem, 1))
    (k : bW p l e R s m args below meth c D tc A nL Rs kc ks Q (pc + 1) lo (.long (x - x / y * y) :: st) vs) : bW p l e R s m args below meth c D tc A nL Rs kc ks Q pc lo (.long y :: .long x :: st) vs :=
  fun H locs ls hP hS hl => lv_lrem X.1 X.2.1 hdg hne (k H locs ls hP hS hl)
theorem a_iushr (X : Cx p s m args meth c cc nL ret own D tc aK aV A Rs) {x y : Int32} (hdg : decode cc pc = .ok (.iushr, 1))
    (k : bW p l e R s m args below meth c D tc A nL Rs kc ks Q (pc + 1) lo (.int (x.toUInt32 >>> (y.toUInt32 &&& Int32.toUInt32 31)).toInt32 :: st) vs) : bW p l e R s m args below meth c D tc A nL Rs kc ks Q pc lo (.int y :: .int x :: st) vs :=
  fun H locs ls hP hS hl => lv_iushr X.1 X.2.1 hdg rfl (k H locs ls hP hS hl)
theorem a_lshr (X : Cx p s m args meth c cc nL ret own D tc aK aV A Rs) {x : Int64} {y : Int32} (hdg : decode cc pc = .ok (.lshr, 1))
    (k : bW p l e R s m args below meth c D tc A nL Rs kc ks Q (pc + 1) lo (.long (x >>> (y.toInt64 &&& 63)) :: st) vs) : bW p l e R s m args below meth c D tc A nL Rs kc ks Q pc lo (.int y :: .long x :: st) vs :=
  fun H locs ls hP hS hl => lv_lshr X.1 X.2.1 hdg rfl (k H locs ls hP hS hl)
theorem a_i2l (X : Cx p s m args meth c cc nL ret own D tc aK aV A Rs) {x : Int32} (hdg : decode cc pc = .ok (.i2l, 1))
    (k : bW p l e R s m args below meth c D tc A nL Rs kc ks Q (pc + 1) lo (.long x.toInt64 :: st) vs) : bW p l e R s m args below meth c D tc A nL Rs kc ks Q pc lo (.int x :: st) vs :=
  fun H locs ls hP hS hl => lv_i2l X.1 X.2.1 hdg rfl (k H locs ls hP hS hl)
theorem a_l2i (X : Cx p s m args meth c cc nL ret own D tc aK aV A Rs) {x : Int64} (hdg : decode cc pc = .ok (.l2i, 1))
    (k : bW p l e R s m args below meth c D tc A nL Rs kc ks Q (pc + 1) lo (.int x.toInt32 :: st) vs) : bW p l e R s m args below meth c D tc A nL Rs kc ks Q pc lo (.long x :: st) vs :=
  fun H locs ls hP hS hl => lv_l2i X.1 X.2.1 hdg rfl (k H locs ls hP hS hl)
theorem a_lcmp (X : Cx p s m args meth c cc nL ret own D tc aK aV A Rs) {x y : Int64} (hdg : decode cc pc = .ok (.lcmp, 1))
    (k : bW p l e R s m args below meth c D tc A nL Rs kc ks Q (pc + 1) lo (.int (lg_cmp x y) :: st) vs) : bW p l e R s m args below meth c D tc A nL Rs kc ks Q pc lo (.long y :: .long x :: st) vs :=
  fun H locs ls hP hS hl => W.lcmp X.1 X.2.1 hdg (k H locs ls hP hS hl)
theorem a_dup (X : Cx p s m args meth c cc nL ret own D tc aK aV A Rs) {va : Value} (hdg : decode cc pc = .ok (.dup, 1))
    (hva : va.category = 1) (k : bW p l e R s m args below meth c D tc A nL Rs kc ks Q (pc + 1) lo (va :: va :: st) vs) : bW p l e R s m args below meth c D tc A nL Rs kc ks Q pc lo (va :: st) vs :=
  fun H locs ls hP hS hl => lv_dup X.1 X.2.1 hdg hva (k H locs ls hP hS hl)
theorem a_pop (X : Cx p s m args meth c cc nL ret own D tc aK aV A Rs) {va : Value} (hdg : decode cc pc = .ok (.pop, 1))
    (hva : va.category = 1) (k : bW p l e R s m args below meth c D tc A nL Rs kc ks Q (pc + 1) lo st vs) : bW p l e R s m args below meth c D tc A nL Rs kc ks Q pc lo (va :: st) vs :=
  fun H locs ls hP hS hl => lv_pop X.1 X.2.1 hdg hva (k H locs ls hP hS hl)
theorem a_goto (X : Cx p s m args meth c cc nL ret own D tc aK aV A Rs) {off : Int} (tgt : Nat) (hdg : decode cc pc = .ok (.goto off, 3))
    (ht : (pc : Int) + off = (tgt : Int)) (k : bW p l e R s m args below meth c D tc A nL Rs kc ks Q tgt lo st vs) : bW p l e R s m args below meth c D tc A nL Rs kc ks Q pc lo st vs :=
  fun H locs ls hP hS hl => lv_goto X.1 X.2.1 hdg ht (k H locs ls hP hS hl)
theorem a_if_eq (X : Cx p s m args meth c cc nL ret own D tc aK aV A Rs) {x : Int32} {off : Int} (tgt : Nat) (hdg : decode cc pc = .ok (.ifCond .eq off, 3)) (ht : (pc : Int) + off = (tgt : Int))
    (kt : x = 0 → bW p l e R s m args below meth c D tc A nL Rs kc ks Q tgt lo st vs) (kf : ¬ x = 0 → bW p l e R s m args below meth c D tc A nL Rs kc ks Q (pc + 3) lo st vs) : bW p l e R s m args below meth c D tc A nL Rs kc ks Q pc lo (.int x :: st) vs :=
  fun H locs ls hP hS hl => lv_if_eq X.1 X.2.1 hdg ht (fun q => kt q H locs ls hP hS hl) (fun q => kf q H locs ls hP hS hl)
theorem a_icmp_eq (X : Cx p s m args meth c cc nL ret own D tc aK aV A Rs) {x y : Int32} {off : Int} (tgt : Nat) (hdg : decode cc pc = .ok (.if_icmp .eq off, 3)) (ht : (pc : Int) + off = (tgt : Int))
    (kt : x = y → bW p l e R s m args below meth c D tc A nL Rs kc ks Q tgt lo st vs) (kf : ¬ x = y → bW p l e R s m args below meth c D tc A nL Rs kc ks Q (pc + 3) lo st vs) : bW p l e R s m args below meth c D tc A nL Rs kc ks Q pc lo (.int y :: .int x :: st) vs :=
  fun H locs ls hP hS hl => lv_icmp_eq X.1 X.2.1 hdg ht (fun q => kt q H locs ls hP hS hl) (fun q => kf q H locs ls hP hS hl)
theorem a_if_ne (X : Cx p s m args meth c cc nL ret own D tc aK aV A Rs) {x : Int32} {off : Int} (tgt : Nat) (hdg : decode cc pc = .ok (.ifCond .ne off, 3)) (ht : (pc : Int) + off = (tgt : Int))
    (kt : ¬ x = 0 → bW p l e R s m args below meth c D tc A nL Rs kc ks Q tgt lo st vs) (kf : x = 0 → bW p l e R s m args below meth c D tc A nL Rs kc ks Q (pc + 3) lo st vs) : bW p l e R s m args below meth c D tc A nL Rs kc ks Q pc lo (.int x :: st) vs :=
  fun H locs ls hP hS hl => lv_if_ne X.1 X.2.1 hdg ht (fun q => kt q H locs ls hP hS hl) (fun q => kf q H locs ls hP hS hl)
theorem a_icmp_ne (X : Cx p s m args meth c cc nL ret own D tc aK aV A Rs) {x y : Int32} {off : Int} (tgt : Nat) (hdg : decode cc pc = .ok (.if_icmp .ne off, 3)) (ht : (pc : Int) + off = (tgt : Int))
    (kt : ¬ x = y → bW p l e R s m args below meth c D tc A nL Rs kc ks Q tgt lo st vs) (kf : x = y → bW p l e R s m args below meth c D tc A nL Rs kc ks Q (pc + 3) lo st vs) : bW p l e R s m args below meth c D tc A nL Rs kc ks Q pc lo (.int y :: .int x :: st) vs :=
  fun H locs ls hP hS hl => lv_icmp_ne X.1 X.2.1 hdg ht (fun q => kt q H locs ls hP hS hl) (fun q => kf q H locs ls hP hS hl)
theorem a_if_lt (X : Cx p s m args meth c cc nL ret own D tc aK aV A Rs) {x : Int32} {off : Int} (tgt : Nat) (hdg : decode cc pc = .ok (.ifCond .lt off, 3)) (ht : (pc : Int) + off = (tgt : Int))
    (kt : x < 0 → bW p l e R s m args below meth c D tc A nL Rs kc ks Q tgt lo st vs) (kf : ¬ x < 0 → bW p l e R s m args below meth c D tc A nL Rs kc ks Q (pc + 3) lo st vs) : bW p l e R s m args below meth c D tc A nL Rs kc ks Q pc lo (.int x :: st) vs :=
  fun H locs ls hP hS hl => lv_if_lt X.1 X.2.1 hdg ht (fun q => kt q H locs ls hP hS hl) (fun q => kf q H locs ls hP hS hl)
theorem a_icmp_lt (X : Cx p s m args meth c cc nL ret own D tc aK aV A Rs) {x y : Int32} {off : Int} (tgt : Nat) (hdg : decode cc pc = .ok (.if_icmp .lt off, 3)) (ht : (pc : Int) + off = (tgt : Int))
    (kt : x < y → bW p l e R s m args below meth c D tc A nL Rs kc ks Q tgt lo st vs) (kf : ¬ x < y → bW p l e R s m args below meth c D tc A nL Rs kc ks Q (pc + 3) lo st vs) : bW p l e R s m args below meth c D tc A nL Rs kc ks Q pc lo (.int y :: .int x :: st) vs :=
  fun H locs ls hP hS hl => lv_icmp_lt X.1 X.2.1 hdg ht (fun q => kt q H locs ls hP hS hl) (fun q => kf q H locs ls hP hS hl)
theorem a_if_ge (X : Cx p s m args meth c cc nL ret own D tc aK aV A Rs) {x : Int32} {off : Int} (tgt : Nat) (hdg : decode cc pc = .ok (.ifCond .ge off, 3)) (ht : (pc : Int) + off = (tgt : Int))
    (kt : 0 ≤ x → bW p l e R s m args below meth c D tc A nL Rs kc ks Q tgt lo st vs) (kf : ¬ 0 ≤ x → bW p l e R s m args below meth c D tc A nL Rs kc ks Q (pc + 3) lo st vs) : bW p l e R s m args below meth c D tc A nL Rs kc ks Q pc lo (.int x :: st) vs :=
  fun H locs ls hP hS hl => lv_if_ge X.1 X.2.1 hdg ht (fun q => kt q H locs ls hP hS hl) (fun q => kf q H locs ls hP hS hl)
theorem a_icmp_ge (X : Cx p s m args meth c cc nL ret own D tc aK aV A Rs) {x y : Int32} {off : Int} (tgt : Nat) (hdg : decode cc pc = .ok (.if_icmp .ge off, 3)) (ht : (pc : Int) + off = (tgt : Int))
    (kt : y ≤ x → bW p l e R s m args below meth c D tc A nL Rs kc ks Q tgt lo st vs) (kf : ¬ y ≤ x → bW p l e R s m args below meth c D tc A nL Rs kc ks Q (pc + 3) lo st vs) : bW p l e R s m args below meth c D tc A nL Rs kc ks Q pc lo (.int y :: .int x :: st) vs :=
  fun H locs ls hP hS hl => lv_icmp_ge X.1 X.2.1 hdg ht (fun q => kt q H locs ls hP hS hl) (fun q => kf q H locs ls hP hS hl)
theorem a_if_gt (X : Cx p s m args meth c cc nL ret own D tc aK aV A Rs) {x : Int32} {off : Int} (tgt : Nat) (hdg : decode cc pc = .ok (.ifCond .gt off, 3)) (ht : (pc : Int) + off = (tgt : Int))
    (kt : 0 < x → bW p l e R s m args below meth c D tc A nL Rs kc ks Q tgt lo st vs) (kf : ¬ 0 < x → bW p l e R s m args below meth c D tc A nL Rs kc ks Q (pc + 3) lo st vs) : bW p l e R s m args below meth c D tc A nL Rs kc ks Q pc lo (.int x :: st) vs :=
  fun H locs ls hP hS hl => lv_if_gt X.1 X.2.1 hdg ht (fun q => kt q H locs ls hP hS hl) (fun q => kf q H locs ls hP hS hl)
theorem a_icmp_gt (X : Cx p s m args meth c cc nL ret own D tc aK aV A Rs) {x y : Int32} {off : Int} (tgt : Nat) (hdg : decode cc pc = .ok (.if_icmp .gt off, 3)) (ht : (pc : Int) + off = (tgt : Int))
    (kt : y < x → bW p l e R s m args below meth c D tc A nL Rs kc ks Q tgt lo st vs) (kf : ¬ y < x → bW p l e R s m args below meth c D tc A nL Rs kc ks Q (pc + 3) lo st vs) : bW p l e R s m args below meth c D tc A nL Rs kc ks Q pc lo (.int y :: .int x :: st) vs :=
  fun H locs ls hP hS hl => lv_icmp_gt X.1 X.2.1 hdg ht (fun q => kt q H locs ls hP hS hl) (fun q => kf q H locs ls hP hS hl)
theorem a_if_le (X : Cx p s m args meth c cc nL ret own D tc aK aV A Rs) {x : Int32} {off : Int} (tgt : Nat) (hdg : decode cc pc = .ok (.ifCond .le off, 3)) (ht : (pc : Int) + off = (tgt : Int))
    (kt : x ≤ 0 → bW p l e R s m args below meth c D tc A nL Rs kc ks Q tgt lo st vs) (kf : ¬ x ≤ 0 → bW p l e R s m args below meth c D tc A nL Rs kc ks Q (pc + 3) lo st vs) : bW p l e R s m args below meth c D tc A nL Rs kc ks Q pc lo (.int x :: st) vs :=
  fun H locs ls hP hS hl => lv_if_le X.1 X.2.1 hdg ht (fun q => kt q H locs ls hP hS hl) (fun q => kf q H locs ls hP hS hl)
theorem a_icmp_le (X : Cx p s m args meth c cc nL ret own D tc aK aV A Rs) {x y : Int32} {off : Int} (tgt : Nat) (hdg : decode cc pc = .ok (.if_icmp .le off, 3)) (ht : (pc : Int) + off = (tgt : Int))
    (kt : x ≤ y → bW p l e R s m args below meth c D tc A nL Rs kc ks Q tgt lo st vs) (kf : ¬ x ≤ y → bW p l e R s m args below meth c D tc A nL Rs kc ks Q (pc + 3) lo st vs) : bW p l e R s m args below meth c D tc A nL Rs kc ks Q pc lo (.int y :: .int x :: st) vs :=
  fun H locs ls hP hS hl => lv_icmp_le X.1 X.2.1 hdg ht (fun q => kt q H locs ls hP hS hl) (fun q => kf q H locs ls hP hS hl)
theorem a_dup2 (X : Cx p s m args meth c cc nL ret own D tc aK aV A Rs) {va vb : Value} (hdg : decode cc pc = .ok (.dup2, 1)) (hva : va.category = 1) (hvb : vb.category = 1)
    (k : bW p l e R s m args below meth c D tc A nL Rs kc ks Q (pc + 1) lo (va :: vb :: va :: vb :: st) vs) : bW p l e R s m args below meth c D tc A nL Rs kc ks Q pc lo (va :: vb :: st) vs :=
  fun H locs ls hP hS hl => lv_dup2_11 X.1 X.2.1 hdg hva hvb (k H locs ls hP hS hl)
theorem a_ldcw (X : Cx p s m args meth c cc nL ret own D tc aK aV A Rs) {index : Nat} {v : Int32} (hc : Jvm.Cond.constant own index v ∈ x_TB) (hdg : decode cc pc = .ok (.ldc_w index, 3))
    (k : bW p l e R s m args below meth c D tc A nL Rs kc ks Q (pc + 3) lo (.int v :: st) vs) : bW p l e R s m args below meth c D tc A nL Rs kc ks Q pc lo st vs :=
  fun H locs ls hP hS hl => lv_ldcw X.1 X.2.1 X.2.2.2.1 (X.2.2.2.2.1 _ hc) hdg (k H locs ls hP hS hl)
theorem a_sub {lo2 : List (Nat × Value)} (js : List Nat) (h : lv_pick lo js = lo2) (k : bW p l e R s m args below meth c D tc A nL Rs kc ks Q pc lo2 st vs) : bW p l e R s m args below meth c D tc A nL Rs kc ks Q pc lo st vs :=
  fun H locs ls hP hS hl => k H locs ls hP hS (lv_sub hl js h)
theorem a_tin (X : Cx p s m args meth c cc nL ret own D tc aK aV A Rs) {dflt low hi : Int} {offs : Array Int} {len : Nat} {x c0 : Int32} {off : Int} (tgt : Nat) (hdg : decode cc pc = .ok (.tableswitch dflt low hi offs, len)) (hx : x = c0) (h1 : ¬ c0.toInt < low) (h2 : ¬ hi < c0.toInt) (ho : offs[(c0.toInt - low).toNat]? = some off) (ht : (pc : Int) + off = (tgt : Int))
    (k : bW p l e R s m args below meth c D tc A nL Rs kc ks Q tgt lo st vs) : bW p l e R s m args below meth c D tc A nL Rs kc ks Q pc lo (.int x :: st) vs :=
  fun H locs ls hP hS hl => lv_tableIn X.1 X.2.1 hdg (by rw [hx]; exact h1) (by rw [hx]; exact h2) (by rw [hx]; exact ho) ht (k H locs ls hP hS hl)
theorem a_tout (X : Cx p s m args meth c cc nL ret own D tc aK aV A Rs) {dflt low hi : Int} {offs : Array Int} {len : Nat} {x : Int32} (tgt : Nat) (hdg : decode cc pc = .ok (.tableswitch dflt low hi offs, len)) (h : x.toInt < low ∨ hi < x.toInt) (ht : (pc : Int) + dflt = (tgt : Int))
    (k : bW p l e R s m args below meth c D tc A nL Rs kc ks Q tgt lo st vs) : bW p l e R s m args below meth c D tc A nL Rs kc ks Q pc lo (.int x :: st) vs :=
  fun H locs ls hP hS hl => lv_tableOut X.1 X.2.1 hdg h ht (k H locs ls hP hS hl)
theorem a_lookup (X : Cx p s m args meth c cc nL ret own D tc aK aV A Rs) {dflt : Int} {ps : Array (Int × Int)} {len : Nat} {x : Int32} {off : Int} (tgt : Nat) (hdg : decode cc pc = .ok (.lookupswitch dflt ps, len)) (hp : (ps.toList.zip (ps.toList.drop 1)).all (fun (a, next) => a.1 < next.1) = true) (ho : Op.lookupswitch.offset ps.toList dflt x.toInt = off) (ht : (pc : Int) + off = (tgt : Int))
    (k : bW p l e R s m args below meth c D tc A nL Rs kc ks Q tgt lo st vs) : bW p l e R s m args below meth c D tc A nL Rs kc ks Q pc lo (.int x :: st) vs :=
  fun H locs ls hP hS hl => lv_lookup X.1 X.2.1 hdg hp ho ht (k H locs ls hP hS hl)
theorem a_max (X : Cx p s m args meth c cc nL ret own D tc aK aV A Rs) {index : Nat} {x y : Int32} (hm : Cond.methodLink own index Lib.Math.max.name ∈ x_TB ∧ Cond.static Lib.Math.max.name ∈ x_TB ∧ Cond.initialized "java/lang/Math" ∈ x_TB ∧ Cond.code Lib.Math.max.name Lib.Math.max.code 2 (some .int) ∈ x_TB) (hdg : decode cc pc = .ok (.invokestatic index, 3)) (hR : 1 ≤ R.frames) (hL : (st.map fun v => v.category).sum + 13 ≤ R.locals)
    (k : bW p l e R s m args below meth c D tc A nL Rs kc ks Q (pc + 3) lo (.int (if x < y then y else x) :: st) vs) (hroom : kc ≤ R.cells ∧ ks ≤ R.slots := by exact ⟨Nat.zero_le _, Nat.zero_le _⟩) : bW p l e R s m args below meth c D tc A nL Rs kc ks Q pc lo (.int y :: .int x :: st) vs :=
  fun H locs ls hP hS hl => va_mmax X.1 X.2.1 (X.2.2.1.trans hl.1.symm) X.2.2.2.1 (X.2.2.2.2.1 _ hm.1) (X.2.2.2.2.1 _ hm.2.1) (X.2.2.2.2.1 _ hm.2.2.1) (X.2.2.2.2.1 _ hm.2.2.2) hR hL hroom.1 hroom.2 hdg (k H locs ls hP hS hl)
end XROWS
