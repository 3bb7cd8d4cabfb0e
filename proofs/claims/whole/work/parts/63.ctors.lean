theorem ko_RX8 : Cond.methodLink RX8 3 Lib.objectInit ∈ x_TB ∧ Cond.instanceMethod Lib.objectInit ∈ x_TB ∧ Cond.code Lib.objectInit ⟨#[0xb1]⟩ 1 none ∈ x_TB := ⟨(x_tb (x_t1 (List.mem_of_getElem? (i := 37) rfl)) rfl), (x_tb (x_t1 (List.mem_of_getElem? (i := 30) rfl)) rfl), (x_tb (x_t1 (List.mem_of_getElem? (i := 31) rfl)) rfl)⟩
theorem nw_RX8_9 : x_nw RX8 9 3 1 [2] := ⟨RX3, TX3, tyX3, rfl, (x_tb (x_t1 (List.mem_of_getElem? (i := 38) rfl)) rfl), (x_tb (x_t1 (List.mem_of_getElem? (i := 39) rfl)) rfl), (x_tb (x_t1 (List.mem_of_getElem? (i := 3) rfl)) rfl), wsIn3, tyX3_ok, fun j hj => by
  match j, hj with
  | 0, _ => exact Or.inr (Or.inr ⟨rfl, rfl⟩)
  | j + 1, h => exact absurd h (by omega)⟩
theorem ci_RX8_11 : x_ci RX8 11 yX3_init cX3_init 2 1 := ⟨Or.inl (x_tb (x_t1 (List.mem_of_getElem? (i := 40) rfl)) rfl), (x_tb (x_t1 (List.mem_of_getElem? (i := 41) rfl)) rfl), (x_tb (x_t1 (List.mem_of_getElem? (i := 3) rfl)) rfl), (x_tb (x_t1 (List.mem_of_getElem? (i := 42) rfl)) rfl), by decide, by decide, by decide +kernel, rfl⟩
theorem dX8_init_0 : decode cX8_init 0 = .ok (.aload_n 0, 1) := by decide +kernel
theorem dX8_init_1 : decode cX8_init 1 = .ok (.invokespecial 3, 3) := by decide +kernel
theorem dX8_init_4 : decode cX8_init 4 = .ok (.aload_n 0, 1) := by decide +kernel
theorem dX8_init_5 : decode cX8_init 5 = .ok (.new 9, 3) := by decide +kernel
theorem dX8_init_8 : decode cX8_init 8 = .ok (.dup, 1) := by decide +kernel
theorem dX8_init_9 : decode cX8_init 9 = .ok (.sipush 940, 3) := by decide +kernel
theorem dX8_init_12 : decode cX8_init 12 = .ok (.invokespecial 11, 3) := by decide +kernel
theorem dX8_init_15 : decode cX8_init 15 = .ok (.putfield 14, 3) := by decide +kernel
theorem dX8_init_18 : decode cX8_init 18 = .ok (.aload_n 0, 1) := by decide +kernel
theorem dX8_init_19 : decode cX8_init 19 = .ok (.bipush 29, 2) := by decide +kernel
theorem dX8_init_21 : decode cX8_init 21 = .ok (.newarray .long, 2) := by decide +kernel
theorem dX8_init_23 : decode cX8_init 23 = .ok (.putfield 20, 3) := by decide +kernel
theorem dX8_init_26 : decode cX8_init 26 = .ok (.iconst 0, 1) := by decide +kernel
theorem dX8_init_27 : decode cX8_init 27 = .ok (.istore_n 1, 1) := by decide +kernel
theorem dX8_init_28 : decode cX8_init 28 = .ok (.iconst 0, 1) := by decide +kernel
theorem dX8_init_29 : decode cX8_init 29 = .ok (.istore_n 2, 1) := by decide +kernel
theorem dX8_init_30 : decode cX8_init 30 = .ok (.iload_n 2, 1) := by decide +kernel
theorem dX8_init_31 : decode cX8_init 31 = .ok (.ldc 24, 2) := by decide +kernel
theorem dX8_init_33 : decode cX8_init 33 = .ok (.invokevirtual 26, 3) := by decide +kernel
theorem dX8_init_36 : decode cX8_init 36 = .ok (.if_icmp .ge 61, 3) := by decide +kernel
theorem dX8_init_39 : decode cX8_init 39 = .ok (.iload_n 1, 1) := by decide +kernel
theorem dX8_init_40 : decode cX8_init 40 = .ok (.aload_n 0, 1) := by decide +kernel
theorem dX8_init_41 : decode cX8_init 41 = .ok (.getfield 20, 3) := by decide +kernel
theorem dX8_init_44 : decode cX8_init 44 = .ok (.arraylength, 1) := by decide +kernel
theorem dX8_init_45 : decode cX8_init 45 = .ok (.if_icmp .ge 52, 3) := by decide +kernel
theorem dX8_init_48 : decode cX8_init 48 = .ok (.ldc 24, 2) := by decide +kernel
theorem dX8_init_50 : decode cX8_init 50 = .ok (.iload_n 2, 1) := by decide +kernel
theorem dX8_init_51 : decode cX8_init 51 = .ok (.invokevirtual 32, 3) := by decide +kernel
theorem dX8_init_54 : decode cX8_init 54 = .ok (.istore_n 3, 1) := by decide +kernel
theorem dX8_init_55 : decode cX8_init 55 = .ok (.iload_n 3, 1) := by decide +kernel
theorem dX8_init_56 : decode cX8_init 56 = .ok (.bipush 32, 2) := by decide +kernel
theorem dX8_init_58 : decode cX8_init 58 = .ok (.if_icmp .ne 9, 3) := by decide +kernel
theorem dX8_init_61 : decode cX8_init 61 = .ok (.iinc 1 1, 3) := by decide +kernel
theorem dX8_init_64 : decode cX8_init 64 = .ok (.goto 27, 3) := by decide +kernel
theorem dX8_init_67 : decode cX8_init 67 = .ok (.aload_n 0, 1) := by decide +kernel
theorem dX8_init_68 : decode cX8_init 68 = .ok (.getfield 20, 3) := by decide +kernel
theorem dX8_init_71 : decode cX8_init 71 = .ok (.iload_n 1, 1) := by decide +kernel
theorem dX8_init_72 : decode cX8_init 72 = .ok (.aload_n 0, 1) := by decide +kernel
theorem dX8_init_73 : decode cX8_init 73 = .ok (.getfield 20, 3) := by decide +kernel
theorem dX8_init_76 : decode cX8_init 76 = .ok (.iload_n 1, 1) := by decide +kernel
theorem dX8_init_77 : decode cX8_init 77 = .ok (.laload, 1) := by decide +kernel
theorem dX8_init_78 : decode cX8_init 78 = .ok (.ldc2_w 36, 3) := by decide +kernel
theorem dX8_init_81 : decode cX8_init 81 = .ok (.lmul, 1) := by decide +kernel
theorem dX8_init_82 : decode cX8_init 82 = .ok (.iload_n 3, 1) := by decide +kernel
theorem dX8_init_83 : decode cX8_init 83 = .ok (.bipush 97, 2) := by decide +kernel
theorem dX8_init_85 : decode cX8_init 85 = .ok (.isub, 1) := by decide +kernel
theorem dX8_init_86 : decode cX8_init 86 = .ok (.iconst 1, 1) := by decide +kernel
theorem dX8_init_87 : decode cX8_init 87 = .ok (.iadd, 1) := by decide +kernel
theorem dX8_init_88 : decode cX8_init 88 = .ok (.i2l, 1) := by decide +kernel
theorem dX8_init_89 : decode cX8_init 89 = .ok (.ladd, 1) := by decide +kernel
theorem dX8_init_90 : decode cX8_init 90 = .ok (.lastore, 1) := by decide +kernel
theorem dX8_init_91 : decode cX8_init 91 = .ok (.iinc 2 1, 3) := by decide +kernel
theorem dX8_init_94 : decode cX8_init 94 = .ok (.goto (-64), 3) := by decide +kernel
theorem dX8_init_97 : decode cX8_init 97 = .ok (.return_, 1) := by decide +kernel
def z_X8_init_0 : XM := x_zc x_z 1
def z_X8_init_1 : XM := x_app 1 z_X8_init_0 z_Row
def z_X8_init_2 : XM := x_zc z_X8_init_1 3
def f_X8_init_91 (k30 : XM → Int32 → Int32 → Option (XM)) (w0 : XM) (l1 : Int32) (l2 : Int32) : Option (XM) :=
  k30 w0 l1 (l2 + 1)
def f_X8_init_30 (k30 : XM → Int32 → Int32 → Option (XM)) (w0 : XM) (l1 : Int32) (l2 : Int32) : Option (XM) :=
  if ((Int32.ofNat (x_len.getD 0 0)) : Int32) ≤ l2 then
  (some w0)
  else (if ((29 : Int32) : Int32) ≤ l1 then
  (some w0)
  else (x_ck l2 (x_len.getD 0 0) (
  if ((x_ch 0 l2) : Int32) = (32 : Int32) then
  (f_X8_init_91  k30 w0 (l1 + 1) l2)
  else (x_ck l1 29 (
  x_lt (((x_ch 0 l2) - (97 : Int32)) + (1 : Int32)) (fun y1 =>
  x_lt (((x_gl w0 3 l1) * (32 : Int64)) + ((y1 : Int32).toInt64)) (fun y2 =>
  x_ck l1 29 (
  x_lt (x_pl w0 3 l1 y2) (fun m3 =>
  f_X8_init_91  k30 m3 l1 l2)))))))))
def f_X8_init (v0 : XM) : Option (XM) :=
  x_lp (φ := XM → Int32 → Int32 → Option (XM)) (fun _ _ _ => none) (f_X8_init_30  ) x_NN v0 (0 : Int32) (0 : Int32)
set_option maxRecDepth 100000 in
set_option maxHeartbeats 4000000 in
theorem w_X8_init_91 {p : Program} {l : Launch} {e : Env} {s : State} {m : MethodId} {args : Array Value} {below : List Frame} {meth : Method} {c : Code} {D : va_G} {tc : Nat → ClassId} {aK aV : Nat → Nat} {A : Nat → Prop} {ad0 : Nat → Nat}  (X : Cx p s m args meth c cX8_init 4 none RX8 D tc aK aV A [(shTape, ad0)])  {o : XM} {k30 : XM → Int32 → Int32 → Option (XM)} (hk30 : ∀ (w0 : XM) (l1 : Int32) (l2 : Int32), k30 w0 l1 l2 = some o → bW p l e (x_RmN 4 3 970) s m args below meth c D tc A 4 [(shTape, ad0)] 3 970 (MQ below (x_Q none True D tc [(shTape, ad0)] [o] A) args s 3 970 A) 30 [(0, .ref (ad0 0)), (1, .int l1), (2, .int l2)] [] [w0]) {w0 : XM} {l1 : Int32} {l2 : Int32}  (h : f_X8_init_91  k30 w0 l1 l2 = some o) : bW p l e (x_RmN 4 3 970) s m args below meth c D tc A 4 [(shTape, ad0)] 3 970 (MQ below (x_Q none True D tc [(shTape, ad0)] [o] A) args s 3 970 A) 91 [(0, .ref (ad0 0)), (1, .int l1), (2, .int l2)] [] [w0] := by
  unfold f_X8_init_91 at h
  refine a_iinc (pc := 91) X 2 [(2, .int (l2 + 1)), (0, .ref (ad0 0)), (1, .int l1)] dX8_init_91 rfl (congrArg (HAdd.hAdd l2) q_ic_1) (by decide) rfl ?_
  refine a_goto (pc := 94) X 30 dX8_init_94 rfl ?_
  refine a_sub [1, 2, 0] rfl ?_
  exact hk30 _ _ _ h
set_option maxRecDepth 100000 in
set_option maxHeartbeats 4000000 in
theorem w_X8_init_30 {p : Program} {l : Launch} {e : Env} {s : State} {m : MethodId} {args : Array Value} {below : List Frame} {meth : Method} {c : Code} {D : va_G} {tc : Nat → ClassId} {aK aV : Nat → Nat} {A : Nat → Prop} {ad0 : Nat → Nat}  (X : Cx p s m args meth c cX8_init 4 none RX8 D tc aK aV A [(shTape, ad0)])  {o : XM}  : ∀ (n : Nat), ∀ (w0 : XM) (l1 : Int32) (l2 : Int32), x_lp (φ := XM → Int32 → Int32 → Option (XM)) (fun _ _ _ => none) (f_X8_init_30  ) n w0 l1 l2 = some o → bW p l e (x_RmN 4 3 970) s m args below meth c D tc A 4 [(shTape, ad0)] 3 970 (MQ below (x_Q none True D tc [(shTape, ad0)] [o] A) args s 3 970 A) 30 [(0, .ref (ad0 0)), (1, .int l1), (2, .int l2)] [] [w0] := by
  intro n
  induction n with
  | zero => intro w0 l1 l2 h; exact absurd h (fun q => by cases q)
  | succ n ih =>
    intro w0 l1 l2 h
    have h : f_X8_init_30   (x_lp (φ := XM → Int32 → Int32 → Option (XM)) (fun _ _ _ => none) (f_X8_init_30  ) n) w0 l1 l2 = some o := h
    generalize x_lp (φ := XM → Int32 → Int32 → Option (XM)) (fun _ _ _ => none) (f_X8_init_30  ) n = k30 at h ih
    have hk30 := ih
    unfold f_X8_init_30 at h
    refine a_iload_n (pc := 30) X 2 dX8_init_30 rfl rfl ?_
    refine a_ldcS0 (pc := 31) X dX8_init_31 ?_
    refine a_callVK (pc := 33) (k := 0) (st2 := [.int (Int32.ofNat (x_len.getD 0 0)), .int l2]) (vs2 := [w0]) X (by decide) [] [.int l2] cv_RX8_26 rfl (c_slen (by decide)) rfl rfl rfl rfl rfl rfl (Nat.le_of_ble_eq_true rfl) ⟨Nat.le_of_ble_eq_true rfl, Nat.le_of_ble_eq_true rfl⟩ dX8_init_33 (fun _ => ?_) ⟨Nat.le_of_ble_eq_true rfl, Nat.le_of_ble_eq_true rfl⟩
    refine a_icmp_ge (pc := 36) X 97 dX8_init_36 rfl (fun c_36 => ?_) (fun c_36 => ?_)
    · have h := x_ifp c_36 h
      have h := Option.some.inj h; subst h
      exact a_vret (pc := 97) X trivial dX8_init_97
    · have h := x_ifn c_36 h
      refine a_iload_n (pc := 39) X 1 dX8_init_39 rfl rfl ?_
      refine a_aload_n (pc := 40) X 0 dX8_init_40 rfl rfl ?_
      refine a_getR (pc := 41) X 0 3 3 fl_RX8_20 rfl rfl rfl rfl rfl dX8_init_41 ?_
      refine a_alenL (pc := 44) (x := 29) X 0 rfl rfl rfl (by decide) dX8_init_44 ?_
      refine a_icmp_ge (pc := 45) X 97 dX8_init_45 rfl (fun c_45 => ?_) (fun c_45 => ?_)
      · have h := x_ifp c_45 h
        have h := Option.some.inj h; subst h
        exact a_vret (pc := 97) X trivial dX8_init_97
      · have h := x_ifn c_45 h
        refine a_ldcS0 (pc := 48) X dX8_init_48 ?_
        refine a_iload_n (pc := 50) X 2 dX8_init_50 rfl rfl ?_
        obtain ⟨c_51, h⟩ := x_ck_elim h
        refine a_callVK (pc := 51) (k := 0) (st2 := [.int (x_ch 0 l2)]) (vs2 := [w0]) X (by decide) [.int l2] [] cv_RX8_32 rfl (c_sch (by decide) c_51) rfl rfl rfl rfl rfl rfl (Nat.le_of_ble_eq_true rfl) ⟨Nat.le_of_ble_eq_true rfl, Nat.le_of_ble_eq_true rfl⟩ dX8_init_51 (fun _ => ?_) ⟨Nat.le_of_ble_eq_true rfl, Nat.le_of_ble_eq_true rfl⟩
        refine a_istore_n (pc := 54) X [(3, .int (x_ch 0 l2)), (0, .ref (ad0 0)), (1, .int l1), (2, .int l2)] dX8_init_54 rfl (by decide) rfl ?_
        refine a_iload_n (pc := 55) X 0 dX8_init_55 rfl rfl ?_
        refine a_bipush (pc := 56) X dX8_init_56 q_bp_32 ?_
        refine a_icmp_ne (pc := 58) X 67 dX8_init_58 rfl (fun c_58 => ?_) (fun c_58 => ?_)
        · have h := x_ifn c_58 h
          refine a_aload_n (pc := 67) X 1 dX8_init_67 rfl rfl ?_
          refine a_getR (pc := 68) X 0 3 3 fl_RX8_20 rfl rfl rfl rfl rfl dX8_init_68 ?_
          refine a_iload_n (pc := 71) X 2 dX8_init_71 rfl rfl ?_
          refine a_aload_n (pc := 72) X 1 dX8_init_72 rfl rfl ?_
          refine a_getR (pc := 73) X 0 3 3 fl_RX8_20 rfl rfl rfl rfl rfl dX8_init_73 ?_
          refine a_iload_n (pc := 76) X 2 dX8_init_76 rfl rfl ?_
          obtain ⟨c_77, h⟩ := x_ck_elim h
          refine a_lald (pc := 77) X 0 rfl rfl rfl c_77 dX8_init_77 ?_
          refine a_ldc2 (pc := 78) X kc_RX8_36 dX8_init_78 ?_
          refine a_lmul (pc := 81) X dX8_init_81 ?_
          refine a_iload_n (pc := 82) X 0 dX8_init_82 rfl rfl ?_
          refine a_bipush (pc := 83) X dX8_init_83 q_bp_97 ?_
          refine a_isub (pc := 85) X dX8_init_85 ?_
          refine a_iconst (pc := 86) X dX8_init_86 q_ic_1 ?_
          refine a_iadd (pc := 87) X dX8_init_87 ?_
          obtain ⟨y1, e_y1, h⟩ := x_lt_elim h
          refine a_ni e_y1 ?_
          refine a_i2l (pc := 88) X dX8_init_88 ?_
          refine a_ladd (pc := 89) X dX8_init_89 ?_
          obtain ⟨y2, e_y2, h⟩ := x_lt_elim h
          refine a_nl e_y2 ?_
          obtain ⟨c_90, h⟩ := x_ck_elim h
          refine a_last (pc := 90) X 0 rfl rfl rfl c_90 dX8_init_90 ?_
          obtain ⟨m3, e_m3, h⟩ := x_lt_elim h
          refine a_nm (vs2 := [m3]) (congrArg (fun q : XM => [q]) e_m3) ?_
          refine a_sub [1, 2, 3] rfl ?_
          exact w_X8_init_91 X   hk30  h
        · have h := x_ifp c_58 h
          refine a_iinc (pc := 61) X 2 [(1, .int (l1 + 1)), (3, .int (x_ch 0 l2)), (0, .ref (ad0 0)), (2, .int l2)] dX8_init_61 rfl (congrArg (HAdd.hAdd l1) q_ic_1) (by decide) rfl ?_
          refine a_goto (pc := 64) X 91 dX8_init_64 rfl ?_
          refine a_sub [2, 0, 3] rfl ?_
          exact w_X8_init_91 X   hk30  h
set_option maxRecDepth 100000 in
set_option maxHeartbeats 4000000 in
theorem ct_X8_init {p : Program} {l : Launch} {e : Env} {s : State} {m : MethodId} {args : Array Value} {below : List Frame} {meth : Method} {c : Code} {D : va_G} {tc : Nat → ClassId} {aK aV : Nat → Nat} {A : Nat → Prop} {ad0 : Nat → Nat} {v0 : XM} (X : Cx p s m args meth c cX8_init 4 none RX8 D tc aK aV A [(shTape, ad0)]) {o : XM} (h : f_X8_init v0 = some o) : bW p l e (x_RmN 4 3 970) s m args below meth c D tc A 4 [(shTape, ad0)] 3 970 (MQ below (x_Q none True D tc [(shTape, ad0)] [o] A) args s 3 970 A) 26 [(0, .ref (ad0 0))] [] [v0] := by
  unfold f_X8_init at h
  refine a_iconst (pc := 26) X dX8_init_26 q_ic_0 ?_
  refine a_istore_n (pc := 27) X [(1, .int (0 : Int32)), (0, .ref (ad0 0))] dX8_init_27 rfl (by decide) rfl ?_
  refine a_iconst (pc := 28) X dX8_init_28 q_ic_0 ?_
  refine a_istore_n (pc := 29) X [(2, .int (0 : Int32)), (1, .int (0 : Int32)), (0, .ref (ad0 0))] dX8_init_29 rfl (by decide) rfl ?_
  refine a_sub [2, 1, 0] rfl ?_
  exact w_X8_init_30 X    x_NN _ _ _ h
def z_X8_init : XM := match f_X8_init z_X8_init_2 with
  | some o => o
  | none => x_z
set_option maxRecDepth 100000 in
set_option maxHeartbeats 4000000 in
theorem hz_X8_init : f_X8_init z_X8_init_2 = some z_X8_init := by
  have h : (f_X8_init z_X8_init_2).isSome = true := by decide +kernel
  unfold z_X8_init
  cases hq : f_X8_init z_X8_init_2 with
  | some o => rfl
  | none => rw [hq] at h; cases h
set_option maxRecDepth 100000 in
set_option maxHeartbeats 4000000 in
theorem cn_X8_init {l : Launch} : CN l yX8_init cX8_init 4 4 3 970 (.inl (8, [2, 2, 0, 0, 0, 0, 0, 0, 0, 1, 0, 0])) shTape z_X8_init [] := by
  refine CN_of (by decide) rfl (fun _ => Nat.le_of_ble_eq_true rfl) ?_
  intro p e s m args below meth c D tc aK aV a X ha hNn hin
  have X : Cx p s m args meth c cX8_init 4 none RX8 D tc aK aV (fun q => a ≤ q) [([.inl (8, [2, 2, 0, 0, 0, 0, 0, 0, 0, 1, 0, 0])], fun i => a + i)] := X
  show bW p l e (x_RmN 4 3 970) s m args below meth c D tc (fun q => a ≤ q) 4 [([.inl (8, [2, 2, 0, 0, 0, 0, 0, 0, 0, 1, 0, 0])], fun i => a + i)] 0 0 (MQ below (x_Q none True D tc [(shTape, fun i => a + i)] [z_X8_init] (fun q => a ≤ q)) args s 3 970 (fun q => a ≤ q)) 0 [(0, .ref (a + 0))] [] [x_z]
  refine a_aload_n (pc := 0) X 0 dX8_init_0 rfl rfl ?_
  refine a_obj (pc := 1) X ko_RX8 dX8_init_1 (Nat.le_of_ble_eq_true rfl) (Nat.le_of_ble_eq_true rfl) ?_
  refine a_aload_n (pc := 4) X 0 dX8_init_4 rfl rfl ?_
  refine a_new (pc := 5) (kc := 0) (ks := 0) (cur := (.inl (8, [2, 2, 0, 0, 0, 0, 0, 0, 0, 1, 0, 0]) :: [])) X ha (by decide +kernel) nw_RX8_9 dX8_init_5 ⟨Nat.le_of_ble_eq_true rfl, Nat.le_of_ble_eq_true rfl⟩ ?_
  have X := x_re X (.inl (8, [2, 2, 0, 0, 0, 0, 0, 0, 0, 1, 0, 0]) :: [.inl (3, [2])])
  show bW p l e _ s m args below meth c D tc (fun q => a ≤ q) 4 [((.inl (8, [2, 2, 0, 0, 0, 0, 0, 0, 0, 1, 0, 0]) :: [.inl (3, [2])]), fun i => a + i)] 1 1 _ 8 [(0, .ref (a + 0))] [.ref (a + 1), .ref (a + 0)] [z_X8_init_0]
  refine a_dup (pc := 8) X dX8_init_8 rfl ?_
  refine a_sipush (pc := 9) X dX8_init_9 q_sp_940 ?_
  refine a_cinit (pc := 12) (kc := 1) (ks := 1) (cur := (.inl (8, [2, 2, 0, 0, 0, 0, 0, 0, 0, 1, 0, 0]) :: [])) (k0 := .inl (3, [2])) (v := z_X8_init_0) X ha (by decide +kernel) hNn [.int 940] [.ref (a + 1), .ref (a + 0)] (cn_X3_init (N := 940) (by decide)) ci_RX8_11 (by unfold z_X8_init_0; exact x_zc_z _ _) rfl rfl (Nat.le_of_ble_eq_true rfl) ⟨Nat.le_of_ble_eq_true rfl, Nat.le_of_ble_eq_true rfl⟩ ⟨Nat.le_of_ble_eq_true rfl, Nat.le_of_ble_eq_true rfl⟩ dX8_init_12 ?_
  have X := x_re X (.inl (8, [2, 2, 0, 0, 0, 0, 0, 0, 0, 1, 0, 0]) :: shRow 940)
  show bW p l e _ s m args below meth c D tc (fun q => a ≤ q) 4 [((.inl (8, [2, 2, 0, 0, 0, 0, 0, 0, 0, 1, 0, 0]) :: shRow 940), fun i => a + i)] 2 941 _ 15 [(0, .ref (a + 0))] [.ref (a + 1), .ref (a + 0)] [z_X8_init_1]
  refine a_putR (pc := 15) (kc := 2) (ks := 941) (tl := shRow 940) (ci := 8) (kds := [2, 2, 0, 0, 0, 0, 0, 0, 0, 1, 0, 0]) (o := 1) X hin fl_RX8_14 (fun _ _ _ h => by cases h; exact ⟨rfl, rfl⟩) rfl (by decide) rfl rfl dX8_init_15 ?_
  have X := x_re X (.inl (8, [3, 2, 0, 0, 0, 0, 0, 0, 0, 1, 0, 0]) :: shRow 940)
  show bW p l e _ s m args below meth c D tc (fun q => a ≤ q) 4 [((.inl (8, [3, 2, 0, 0, 0, 0, 0, 0, 0, 1, 0, 0]) :: shRow 940), fun i => a + i)] 2 941 _ 18 [(0, .ref (a + 0))] [] [z_X8_init_1]
  refine a_aload_n (pc := 18) X 0 dX8_init_18 rfl rfl ?_
  refine a_bipush (pc := 19) X dX8_init_19 q_bp_29 ?_
  refine a_newarrL (pc := 21) (kc := 2) (ks := 941) (cur := (.inl (8, [3, 2, 0, 0, 0, 0, 0, 0, 0, 1, 0, 0]) :: shRow 940)) (N := 29) X ha (by decide +kernel) (by decide) (by decide) ka_long dX8_init_21 (by decide) ⟨Nat.le_of_ble_eq_true rfl, Nat.le_of_ble_eq_true rfl⟩ ?_
  have X := x_re X (.inl (8, [3, 2, 0, 0, 0, 0, 0, 0, 0, 1, 0, 0]) :: (shRow 940 ++ xA 1 29))
  show bW p l e _ s m args below meth c D tc (fun q => a ≤ q) 4 [((.inl (8, [3, 2, 0, 0, 0, 0, 0, 0, 0, 1, 0, 0]) :: (shRow 940 ++ xA 1 29)), fun i => a + i)] 3 970 _ 23 [(0, .ref (a + 0))] [.ref (a + 3), .ref (a + 0)] [z_X8_init_2]
  refine a_putR (pc := 23) (kc := 3) (ks := 970) (tl := (shRow 940 ++ xA 1 29)) (ci := 8) (kds := [3, 2, 0, 0, 0, 0, 0, 0, 0, 1, 0, 0]) (o := 3) X hin fl_RX8_20 (fun _ _ _ h => by cases h; exact ⟨rfl, rfl⟩) rfl (by decide) rfl rfl dX8_init_23 ?_
  have X := x_re X (.inl (8, [3, 5, 0, 0, 0, 0, 0, 0, 0, 1, 0, 0]) :: (shRow 940 ++ xA 1 29))
  show bW p l e _ s m args below meth c D tc (fun q => a ≤ q) 4 [((.inl (8, [3, 5, 0, 0, 0, 0, 0, 0, 0, 1, 0, 0]) :: (shRow 940 ++ xA 1 29)), fun i => a + i)] 3 970 _ 26 [(0, .ref (a + 0))] [] [z_X8_init_2]
  have X := x_re X shTape
  exact ct_X8_init (ad0 := fun i => a + i) X hz_X8_init
theorem ko_RX12 : Cond.methodLink RX12 93 Lib.objectInit ∈ x_TB ∧ Cond.instanceMethod Lib.objectInit ∈ x_TB ∧ Cond.code Lib.objectInit ⟨#[0xb1]⟩ 1 none ∈ x_TB := ⟨(x_tb (x_t6 (List.mem_of_getElem? (i := 207) rfl)) rfl), (x_tb (x_t1 (List.mem_of_getElem? (i := 30) rfl)) rfl), (x_tb (x_t1 (List.mem_of_getElem? (i := 31) rfl)) rfl)⟩
theorem dX12_init_0 : decode cX12_init 0 = .ok (.aload_n 0, 1) := by decide +kernel
theorem dX12_init_1 : decode cX12_init 1 = .ok (.invokespecial 93, 3) := by decide +kernel
theorem dX12_init_4 : decode cX12_init 4 = .ok (.aload_n 0, 1) := by decide +kernel
theorem dX12_init_5 : decode cX12_init 5 = .ok (.sipush 940, 3) := by decide +kernel
theorem dX12_init_8 : decode cX12_init 8 = .ok (.newarray .int, 2) := by decide +kernel
theorem dX12_init_10 : decode cX12_init 10 = .ok (.putfield 7, 3) := by decide +kernel
theorem dX12_init_13 : decode cX12_init 13 = .ok (.aload_n 0, 1) := by decide +kernel
theorem dX12_init_14 : decode cX12_init 14 = .ok (.sipush 353, 3) := by decide +kernel
theorem dX12_init_17 : decode cX12_init 17 = .ok (.newarray .int, 2) := by decide +kernel
theorem dX12_init_19 : decode cX12_init 19 = .ok (.putfield 98, 3) := by decide +kernel
theorem dX12_init_22 : decode cX12_init 22 = .ok (.aload_n 0, 1) := by decide +kernel
theorem dX12_init_23 : decode cX12_init 23 = .ok (.bipush 70, 2) := by decide +kernel
theorem dX12_init_25 : decode cX12_init 25 = .ok (.newarray .int, 2) := by decide +kernel
theorem dX12_init_27 : decode cX12_init 27 = .ok (.putfield 101, 3) := by decide +kernel
theorem dX12_init_30 : decode cX12_init 30 = .ok (.aload_n 0, 1) := by decide +kernel
theorem dX12_init_31 : decode cX12_init 31 = .ok (.sipush 706, 3) := by decide +kernel
theorem dX12_init_34 : decode cX12_init 34 = .ok (.newarray .int, 2) := by decide +kernel
theorem dX12_init_36 : decode cX12_init 36 = .ok (.putfield 104, 3) := by decide +kernel
theorem dX12_init_39 : decode cX12_init 39 = .ok (.aload_n 0, 1) := by decide +kernel
theorem dX12_init_40 : decode cX12_init 40 = .ok (.sipush 328, 3) := by decide +kernel
theorem dX12_init_43 : decode cX12_init 43 = .ok (.newarray .int, 2) := by decide +kernel
theorem dX12_init_45 : decode cX12_init 45 = .ok (.putfield 107, 3) := by decide +kernel
theorem dX12_init_48 : decode cX12_init 48 = .ok (.aload_n 0, 1) := by decide +kernel
theorem dX12_init_49 : decode cX12_init 49 = .ok (.bipush 41, 2) := by decide +kernel
theorem dX12_init_51 : decode cX12_init 51 = .ok (.newarray .int, 2) := by decide +kernel
theorem dX12_init_53 : decode cX12_init 53 = .ok (.putfield 110, 3) := by decide +kernel
theorem dX12_init_56 : decode cX12_init 56 = .ok (.aload_n 0, 1) := by decide +kernel
theorem dX12_init_57 : decode cX12_init 57 = .ok (.bipush 19, 2) := by decide +kernel
theorem dX12_init_59 : decode cX12_init 59 = .ok (.newarray .long, 2) := by decide +kernel
theorem dX12_init_61 : decode cX12_init 61 = .ok (.putfield 113, 3) := by decide +kernel
theorem dX12_init_64 : decode cX12_init 64 = .ok (.aload_n 0, 1) := by decide +kernel
theorem dX12_init_65 : decode cX12_init 65 = .ok (.bipush 19, 2) := by decide +kernel
theorem dX12_init_67 : decode cX12_init 67 = .ok (.newarray .long, 2) := by decide +kernel
theorem dX12_init_69 : decode cX12_init 69 = .ok (.putfield 117, 3) := by decide +kernel
theorem dX12_init_72 : decode cX12_init 72 = .ok (.aload_n 0, 1) := by decide +kernel
theorem dX12_init_73 : decode cX12_init 73 = .ok (.bipush 38, 2) := by decide +kernel
theorem dX12_init_75 : decode cX12_init 75 = .ok (.newarray .long, 2) := by decide +kernel
theorem dX12_init_77 : decode cX12_init 77 = .ok (.putfield 120, 3) := by decide +kernel
theorem dX12_init_80 : decode cX12_init 80 = .ok (.aload_n 0, 1) := by decide +kernel
theorem dX12_init_81 : decode cX12_init 81 = .ok (.iconst 2, 1) := by decide +kernel
theorem dX12_init_82 : decode cX12_init 82 = .ok (.newarray .boolean, 2) := by decide +kernel
theorem dX12_init_84 : decode cX12_init 84 = .ok (.putfield 123, 3) := by decide +kernel
theorem dX12_init_87 : decode cX12_init 87 = .ok (.aload_n 0, 1) := by decide +kernel
theorem dX12_init_88 : decode cX12_init 88 = .ok (.bipush 8, 2) := by decide +kernel
theorem dX12_init_90 : decode cX12_init 90 = .ok (.newarray .int, 2) := by decide +kernel
theorem dX12_init_92 : decode cX12_init 92 = .ok (.putfield 127, 3) := by decide +kernel
theorem dX12_init_95 : decode cX12_init 95 = .ok (.aload_n 0, 1) := by decide +kernel
theorem dX12_init_96 : decode cX12_init 96 = .ok (.bipush 8, 2) := by decide +kernel
theorem dX12_init_98 : decode cX12_init 98 = .ok (.newarray .int, 2) := by decide +kernel
theorem dX12_init_100 : decode cX12_init 100 = .ok (.putfield 130, 3) := by decide +kernel
theorem dX12_init_103 : decode cX12_init 103 = .ok (.aload_n 0, 1) := by decide +kernel
theorem dX12_init_104 : decode cX12_init 104 = .ok (.bipush 64, 2) := by decide +kernel
theorem dX12_init_106 : decode cX12_init 106 = .ok (.newarray .int, 2) := by decide +kernel
theorem dX12_init_108 : decode cX12_init 108 = .ok (.putfield 133, 3) := by decide +kernel
theorem dX12_init_111 : decode cX12_init 111 = .ok (.aload_n 0, 1) := by decide +kernel
theorem dX12_init_112 : decode cX12_init 112 = .ok (.sipush 512, 3) := by decide +kernel
theorem dX12_init_115 : decode cX12_init 115 = .ok (.newarray .int, 2) := by decide +kernel
theorem dX12_init_117 : decode cX12_init 117 = .ok (.putfield 136, 3) := by decide +kernel
theorem dX12_init_120 : decode cX12_init 120 = .ok (.aload_n 0, 1) := by decide +kernel
theorem dX12_init_121 : decode cX12_init 121 = .ok (.bipush 6, 2) := by decide +kernel
theorem dX12_init_123 : decode cX12_init 123 = .ok (.newarray .int, 2) := by decide +kernel
theorem dX12_init_125 : decode cX12_init 125 = .ok (.putfield 139, 3) := by decide +kernel
theorem dX12_init_128 : decode cX12_init 128 = .ok (.aload_n 0, 1) := by decide +kernel
theorem dX12_init_129 : decode cX12_init 129 = .ok (.iconst (-1), 1) := by decide +kernel
theorem dX12_init_130 : decode cX12_init 130 = .ok (.putfield 142, 3) := by decide +kernel
theorem dX12_init_133 : decode cX12_init 133 = .ok (.aload_n 0, 1) := by decide +kernel
theorem dX12_init_134 : decode cX12_init 134 = .ok (.iconst (-1), 1) := by decide +kernel
theorem dX12_init_135 : decode cX12_init 135 = .ok (.putfield 145, 3) := by decide +kernel
theorem dX12_init_138 : decode cX12_init 138 = .ok (.aload_n 0, 1) := by decide +kernel
theorem dX12_init_139 : decode cX12_init 139 = .ok (.iconst (-1), 1) := by decide +kernel
theorem dX12_init_140 : decode cX12_init 140 = .ok (.putfield 148, 3) := by decide +kernel
theorem dX12_init_143 : decode cX12_init 143 = .ok (.aload_n 0, 1) := by decide +kernel
theorem dX12_init_144 : decode cX12_init 144 = .ok (.bipush 64, 2) := by decide +kernel
theorem dX12_init_146 : decode cX12_init 146 = .ok (.newarray .int, 2) := by decide +kernel
theorem dX12_init_148 : decode cX12_init 148 = .ok (.putfield 151, 3) := by decide +kernel
theorem dX12_init_151 : decode cX12_init 151 = .ok (.aload_n 0, 1) := by decide +kernel
theorem dX12_init_152 : decode cX12_init 152 = .ok (.bipush 120, 2) := by decide +kernel
theorem dX12_init_154 : decode cX12_init 154 = .ok (.newarray .int, 2) := by decide +kernel
theorem dX12_init_156 : decode cX12_init 156 = .ok (.putfield 154, 3) := by decide +kernel
theorem dX12_init_159 : decode cX12_init 159 = .ok (.aload_n 0, 1) := by decide +kernel
theorem dX12_init_160 : decode cX12_init 160 = .ok (.iconst 4, 1) := by decide +kernel
theorem dX12_init_161 : decode cX12_init 161 = .ok (.newarray .int, 2) := by decide +kernel
theorem dX12_init_163 : decode cX12_init 163 = .ok (.putfield 157, 3) := by decide +kernel
theorem dX12_init_166 : decode cX12_init 166 = .ok (.aload_n 0, 1) := by decide +kernel
theorem dX12_init_167 : decode cX12_init 167 = .ok (.sipush 240, 3) := by decide +kernel
theorem dX12_init_170 : decode cX12_init 170 = .ok (.newarray .int, 2) := by decide +kernel
theorem dX12_init_172 : decode cX12_init 172 = .ok (.putfield 160, 3) := by decide +kernel
theorem dX12_init_175 : decode cX12_init 175 = .ok (.aload_n 0, 1) := by decide +kernel
theorem dX12_init_176 : decode cX12_init 176 = .ok (.getfield 98, 3) := by decide +kernel
theorem dX12_init_179 : decode cX12_init 179 = .ok (.iconst 4, 1) := by decide +kernel
theorem dX12_init_180 : decode cX12_init 180 = .ok (.bipush 12, 2) := by decide +kernel
theorem dX12_init_182 : decode cX12_init 182 = .ok (.iastore, 1) := by decide +kernel
theorem dX12_init_183 : decode cX12_init 183 = .ok (.aload_n 0, 1) := by decide +kernel
theorem dX12_init_184 : decode cX12_init 184 = .ok (.invokevirtual 163, 3) := by decide +kernel
theorem dX12_init_187 : decode cX12_init 187 = .ok (.return_, 1) := by decide +kernel
def z_X12_init_0 : XM := x_zc x_z 1
def z_X12_init_1 : XM := x_zc z_X12_init_0 2
def z_X12_init_2 : XM := x_zc z_X12_init_1 3
def z_X12_init_3 : XM := x_zc z_X12_init_2 4
def z_X12_init_4 : XM := x_zc z_X12_init_3 5
def z_X12_init_5 : XM := x_zc z_X12_init_4 6
def z_X12_init_6 : XM := x_zc z_X12_init_5 7
def z_X12_init_7 : XM := x_zc z_X12_init_6 8
def z_X12_init_8 : XM := x_zc z_X12_init_7 9
def z_X12_init_9 : XM := x_zc z_X12_init_8 10
def z_X12_init_10 : XM := x_zc z_X12_init_9 11
def z_X12_init_11 : XM := x_zc z_X12_init_10 12
def z_X12_init_12 : XM := x_zc z_X12_init_11 13
def z_X12_init_13 : XM := x_zc z_X12_init_12 14
def z_X12_init_14 : XM := x_zc z_X12_init_13 15
def z_X12_init_15 : XM := x_si z_X12_init_14 0 32 (-1)
def z_X12_init_16 : XM := x_si z_X12_init_15 0 33 (-1)
def z_X12_init_17 : XM := x_si z_X12_init_16 0 34 (-1)
def z_X12_init_18 : XM := x_zc z_X12_init_17 16
def z_X12_init_19 : XM := x_zc z_X12_init_18 17
def z_X12_init_20 : XM := x_zc z_X12_init_19 18
def z_X12_init_21 : XM := x_zc z_X12_init_20 19
def f_X12_init (v0 : XM) : Option (XM) :=
  x_lt (x_pa v0 2 (4 : Int32) (12 : Int32)) (fun m1 =>
  x_bo (f_X12_startSo m1) (fun y2 =>
  some y2))
set_option maxRecDepth 100000 in
set_option maxHeartbeats 4000000 in
theorem ct_X12_init {p : Program} {l : Launch} {e : Env} {s : State} {m : MethodId} {args : Array Value} {below : List Frame} {meth : Method} {c : Code} {D : va_G} {tc : Nat → ClassId} {aK aV : Nat → Nat} {A : Nat → Prop} {ad0 : Nat → Nat} {v0 : XM} (X : Cx p s m args meth c cX12_init 1 none RX12 D tc aK aV A [(shModel, ad0)]) {o : XM} (h : f_X12_init v0 = some o) : bW p l e (x_RmN 1 19 3542) s m args below meth c D tc A 1 [(shModel, ad0)] 19 3542 (MQ below (x_Q none True D tc [(shModel, ad0)] [o] A) args s 19 3542 A) 175 [(0, .ref (ad0 0))] [] [v0] := by
  unfold f_X12_init at h
  refine a_aload_n (pc := 175) X 0 dX12_init_175 rfl rfl ?_
  refine a_getR (pc := 176) X 0 2 2 fl_RX12_98 rfl rfl rfl rfl rfl dX12_init_176 ?_
  refine a_iconst (pc := 179) X dX12_init_179 q_ic_4 ?_
  refine a_bipush (pc := 180) X dX12_init_180 q_bp_12 ?_
  refine a_iast (pc := 182) X 0 rfl rfl rfl (x_inl (by decide)) dX12_init_182 ?_
  obtain ⟨m1, e_m1, h⟩ := x_lt_elim h
  refine a_nm (vs2 := [m1]) (congrArg (fun q : XM => [q]) e_m1) ?_
  refine a_aload_n (pc := 183) X 0 dX12_init_183 rfl rfl ?_
  obtain ⟨y2, e_y2, h⟩ := x_bo_elim h
  refine a_callV (pc := 184) (st2 := []) (vs2 := [y2]) X [(0, 0, 20)] [some y2] 0 0 12 [] [] cv_RX12_163 (c_X12_startSo (ad0 := ad0)  e_y2) rfl rfl rfl rfl rfl rfl rfl rfl rfl rfl rfl rfl rfl rfl rfl (Nat.le_of_ble_eq_true rfl) ⟨Nat.le_of_ble_eq_true rfl, Nat.le_of_ble_eq_true rfl⟩ dX12_init_184 (fun _ => ?_) ⟨Nat.le_of_ble_eq_true rfl, Nat.le_of_ble_eq_true rfl⟩
  have h := Option.some.inj h; subst h
  exact a_vret (pc := 187) X trivial dX12_init_187
def z_X12_init : XM := match f_X12_init z_X12_init_21 with
  | some o => o
  | none => x_z
set_option maxRecDepth 100000 in
set_option maxHeartbeats 4000000 in
theorem hz_X12_init : f_X12_init z_X12_init_21 = some z_X12_init := by
  have h : (f_X12_init z_X12_init_21).isSome = true := by decide +kernel
  unfold z_X12_init
  cases hq : f_X12_init z_X12_init_21 with
  | some o => rfl
  | none => rw [hq] at h; cases h
set_option maxRecDepth 100000 in
set_option maxHeartbeats 4000000 in
theorem cn_X12_init {l : Launch} : CN l yX12_init cX12_init 1 1 19 3542 (.inl (12, [0, 2, 0, 0, 0, 0, 0, 0, 0, 0, 0, 0, 1, 0, 2, 2, 2, 2, 2, 2, 2, 2, 2, 0, 0, 2, 2, 0, 2, 2, 2, 0, 0, 0, 0, 2, 0, 0, 2, 2, 0, 0, 2, 0, 0, 0, 0])) shModel z_X12_init [] := by
  refine CN_of (by decide) rfl (fun _ => Nat.le_of_ble_eq_true rfl) ?_
  intro p e s m args below meth c D tc aK aV a X ha hNn hin
  have X : Cx p s m args meth c cX12_init 1 none RX12 D tc aK aV (fun q => a ≤ q) [([.inl (12, [0, 2, 0, 0, 0, 0, 0, 0, 0, 0, 0, 0, 1, 0, 2, 2, 2, 2, 2, 2, 2, 2, 2, 0, 0, 2, 2, 0, 2, 2, 2, 0, 0, 0, 0, 2, 0, 0, 2, 2, 0, 0, 2, 0, 0, 0, 0])], fun i => a + i)] := X
  show bW p l e (x_RmN 1 19 3542) s m args below meth c D tc (fun q => a ≤ q) 1 [([.inl (12, [0, 2, 0, 0, 0, 0, 0, 0, 0, 0, 0, 0, 1, 0, 2, 2, 2, 2, 2, 2, 2, 2, 2, 0, 0, 2, 2, 0, 2, 2, 2, 0, 0, 0, 0, 2, 0, 0, 2, 2, 0, 0, 2, 0, 0, 0, 0])], fun i => a + i)] 0 0 (MQ below (x_Q none True D tc [(shModel, fun i => a + i)] [z_X12_init] (fun q => a ≤ q)) args s 19 3542 (fun q => a ≤ q)) 0 [(0, .ref (a + 0))] [] [x_z]
  refine a_aload_n (pc := 0) X 0 dX12_init_0 rfl rfl ?_
  refine a_obj (pc := 1) X ko_RX12 dX12_init_1 (Nat.le_of_ble_eq_true rfl) (Nat.le_of_ble_eq_true rfl) ?_
  refine a_aload_n (pc := 4) X 0 dX12_init_4 rfl rfl ?_
  refine a_sipush (pc := 5) X dX12_init_5 q_sp_940 ?_
  refine a_newarrI (pc := 8) (kc := 0) (ks := 0) (cur := (.inl (12, [0, 2, 0, 0, 0, 0, 0, 0, 0, 0, 0, 0, 1, 0, 2, 2, 2, 2, 2, 2, 2, 2, 2, 0, 0, 2, 2, 0, 2, 2, 2, 0, 0, 0, 0, 2, 0, 0, 2, 2, 0, 0, 2, 0, 0, 0, 0]) :: [])) (N := 940) X ha (by decide +kernel) (by decide) (by decide) ka_int dX12_init_8 (by decide) ⟨Nat.le_of_ble_eq_true rfl, Nat.le_of_ble_eq_true rfl⟩ ?_
  have X := x_re X (.inl (12, [0, 2, 0, 0, 0, 0, 0, 0, 0, 0, 0, 0, 1, 0, 2, 2, 2, 2, 2, 2, 2, 2, 2, 0, 0, 2, 2, 0, 2, 2, 2, 0, 0, 0, 0, 2, 0, 0, 2, 2, 0, 0, 2, 0, 0, 0, 0]) :: xA 0 940)
  show bW p l e _ s m args below meth c D tc (fun q => a ≤ q) 1 [((.inl (12, [0, 2, 0, 0, 0, 0, 0, 0, 0, 0, 0, 0, 1, 0, 2, 2, 2, 2, 2, 2, 2, 2, 2, 0, 0, 2, 2, 0, 2, 2, 2, 0, 0, 0, 0, 2, 0, 0, 2, 2, 0, 0, 2, 0, 0, 0, 0]) :: xA 0 940), fun i => a + i)] 1 940 _ 10 [(0, .ref (a + 0))] [.ref (a + 1), .ref (a + 0)] [z_X12_init_0]
  refine a_putR (pc := 10) (kc := 1) (ks := 940) (tl := xA 0 940) (ci := 12) (kds := [0, 2, 0, 0, 0, 0, 0, 0, 0, 0, 0, 0, 1, 0, 2, 2, 2, 2, 2, 2, 2, 2, 2, 0, 0, 2, 2, 0, 2, 2, 2, 0, 0, 0, 0, 2, 0, 0, 2, 2, 0, 0, 2, 0, 0, 0, 0]) (o := 1) X hin fl_RX12_7 (fun _ _ _ h => by cases h; exact ⟨rfl, rfl⟩) rfl (by decide) rfl rfl dX12_init_10 ?_
  have X := x_re X (.inl (12, [0, 3, 0, 0, 0, 0, 0, 0, 0, 0, 0, 0, 1, 0, 2, 2, 2, 2, 2, 2, 2, 2, 2, 0, 0, 2, 2, 0, 2, 2, 2, 0, 0, 0, 0, 2, 0, 0, 2, 2, 0, 0, 2, 0, 0, 0, 0]) :: xA 0 940)
  show bW p l e _ s m args below meth c D tc (fun q => a ≤ q) 1 [((.inl (12, [0, 3, 0, 0, 0, 0, 0, 0, 0, 0, 0, 0, 1, 0, 2, 2, 2, 2, 2, 2, 2, 2, 2, 0, 0, 2, 2, 0, 2, 2, 2, 0, 0, 0, 0, 2, 0, 0, 2, 2, 0, 0, 2, 0, 0, 0, 0]) :: xA 0 940), fun i => a + i)] 1 940 _ 13 [(0, .ref (a + 0))] [] [z_X12_init_0]
  refine a_aload_n (pc := 13) X 0 dX12_init_13 rfl rfl ?_
  refine a_sipush (pc := 14) X dX12_init_14 q_sp_353 ?_
  refine a_newarrI (pc := 17) (kc := 1) (ks := 940) (cur := (.inl (12, [0, 3, 0, 0, 0, 0, 0, 0, 0, 0, 0, 0, 1, 0, 2, 2, 2, 2, 2, 2, 2, 2, 2, 0, 0, 2, 2, 0, 2, 2, 2, 0, 0, 0, 0, 2, 0, 0, 2, 2, 0, 0, 2, 0, 0, 0, 0]) :: xA 0 940)) (N := 353) X ha (by decide +kernel) (by decide) (by decide) ka_int dX12_init_17 (by decide) ⟨Nat.le_of_ble_eq_true rfl, Nat.le_of_ble_eq_true rfl⟩ ?_
  have X := x_re X (.inl (12, [0, 3, 0, 0, 0, 0, 0, 0, 0, 0, 0, 0, 1, 0, 2, 2, 2, 2, 2, 2, 2, 2, 2, 0, 0, 2, 2, 0, 2, 2, 2, 0, 0, 0, 0, 2, 0, 0, 2, 2, 0, 0, 2, 0, 0, 0, 0]) :: (xA 0 940 ++ xA 0 353))
  show bW p l e _ s m args below meth c D tc (fun q => a ≤ q) 1 [((.inl (12, [0, 3, 0, 0, 0, 0, 0, 0, 0, 0, 0, 0, 1, 0, 2, 2, 2, 2, 2, 2, 2, 2, 2, 0, 0, 2, 2, 0, 2, 2, 2, 0, 0, 0, 0, 2, 0, 0, 2, 2, 0, 0, 2, 0, 0, 0, 0]) :: (xA 0 940 ++ xA 0 353)), fun i => a + i)] 2 1293 _ 19 [(0, .ref (a + 0))] [.ref (a + 2), .ref (a + 0)] [z_X12_init_1]
  refine a_putR (pc := 19) (kc := 2) (ks := 1293) (tl := (xA 0 940 ++ xA 0 353)) (ci := 12) (kds := [0, 3, 0, 0, 0, 0, 0, 0, 0, 0, 0, 0, 1, 0, 2, 2, 2, 2, 2, 2, 2, 2, 2, 0, 0, 2, 2, 0, 2, 2, 2, 0, 0, 0, 0, 2, 0, 0, 2, 2, 0, 0, 2, 0, 0, 0, 0]) (o := 2) X hin fl_RX12_98 (fun _ _ _ h => by cases h; exact ⟨rfl, rfl⟩) rfl (by decide) rfl rfl dX12_init_19 ?_
  have X := x_re X (.inl (12, [0, 3, 0, 0, 0, 0, 0, 0, 0, 0, 0, 0, 1, 0, 4, 2, 2, 2, 2, 2, 2, 2, 2, 0, 0, 2, 2, 0, 2, 2, 2, 0, 0, 0, 0, 2, 0, 0, 2, 2, 0, 0, 2, 0, 0, 0, 0]) :: (xA 0 940 ++ xA 0 353))
  show bW p l e _ s m args below meth c D tc (fun q => a ≤ q) 1 [((.inl (12, [0, 3, 0, 0, 0, 0, 0, 0, 0, 0, 0, 0, 1, 0, 4, 2, 2, 2, 2, 2, 2, 2, 2, 0, 0, 2, 2, 0, 2, 2, 2, 0, 0, 0, 0, 2, 0, 0, 2, 2, 0, 0, 2, 0, 0, 0, 0]) :: (xA 0 940 ++ xA 0 353)), fun i => a + i)] 2 1293 _ 22 [(0, .ref (a + 0))] [] [z_X12_init_1]
  refine a_aload_n (pc := 22) X 0 dX12_init_22 rfl rfl ?_
  refine a_bipush (pc := 23) X dX12_init_23 q_bp_70 ?_
  refine a_newarrI (pc := 25) (kc := 2) (ks := 1293) (cur := (.inl (12, [0, 3, 0, 0, 0, 0, 0, 0, 0, 0, 0, 0, 1, 0, 4, 2, 2, 2, 2, 2, 2, 2, 2, 0, 0, 2, 2, 0, 2, 2, 2, 0, 0, 0, 0, 2, 0, 0, 2, 2, 0, 0, 2, 0, 0, 0, 0]) :: (xA 0 940 ++ xA 0 353))) (N := 70) X ha (by decide +kernel) (by decide) (by decide) ka_int dX12_init_25 (by decide) ⟨Nat.le_of_ble_eq_true rfl, Nat.le_of_ble_eq_true rfl⟩ ?_
  have X := x_re X (.inl (12, [0, 3, 0, 0, 0, 0, 0, 0, 0, 0, 0, 0, 1, 0, 4, 2, 2, 2, 2, 2, 2, 2, 2, 0, 0, 2, 2, 0, 2, 2, 2, 0, 0, 0, 0, 2, 0, 0, 2, 2, 0, 0, 2, 0, 0, 0, 0]) :: ((xA 0 940 ++ xA 0 353) ++ xA 0 70))
  show bW p l e _ s m args below meth c D tc (fun q => a ≤ q) 1 [((.inl (12, [0, 3, 0, 0, 0, 0, 0, 0, 0, 0, 0, 0, 1, 0, 4, 2, 2, 2, 2, 2, 2, 2, 2, 0, 0, 2, 2, 0, 2, 2, 2, 0, 0, 0, 0, 2, 0, 0, 2, 2, 0, 0, 2, 0, 0, 0, 0]) :: ((xA 0 940 ++ xA 0 353) ++ xA 0 70)), fun i => a + i)] 3 1363 _ 27 [(0, .ref (a + 0))] [.ref (a + 3), .ref (a + 0)] [z_X12_init_2]
  refine a_putR (pc := 27) (kc := 3) (ks := 1363) (tl := ((xA 0 940 ++ xA 0 353) ++ xA 0 70)) (ci := 12) (kds := [0, 3, 0, 0, 0, 0, 0, 0, 0, 0, 0, 0, 1, 0, 4, 2, 2, 2, 2, 2, 2, 2, 2, 0, 0, 2, 2, 0, 2, 2, 2, 0, 0, 0, 0, 2, 0, 0, 2, 2, 0, 0, 2, 0, 0, 0, 0]) (o := 3) X hin fl_RX12_101 (fun _ _ _ h => by cases h; exact ⟨rfl, rfl⟩) rfl (by decide) rfl rfl dX12_init_27 ?_
  have X := x_re X (.inl (12, [0, 3, 0, 0, 0, 0, 0, 0, 0, 0, 0, 0, 1, 0, 4, 5, 2, 2, 2, 2, 2, 2, 2, 0, 0, 2, 2, 0, 2, 2, 2, 0, 0, 0, 0, 2, 0, 0, 2, 2, 0, 0, 2, 0, 0, 0, 0]) :: ((xA 0 940 ++ xA 0 353) ++ xA 0 70))
  show bW p l e _ s m args below meth c D tc (fun q => a ≤ q) 1 [((.inl (12, [0, 3, 0, 0, 0, 0, 0, 0, 0, 0, 0, 0, 1, 0, 4, 5, 2, 2, 2, 2, 2, 2, 2, 0, 0, 2, 2, 0, 2, 2, 2, 0, 0, 0, 0, 2, 0, 0, 2, 2, 0, 0, 2, 0, 0, 0, 0]) :: ((xA 0 940 ++ xA 0 353) ++ xA 0 70)), fun i => a + i)] 3 1363 _ 30 [(0, .ref (a + 0))] [] [z_X12_init_2]
  refine a_aload_n (pc := 30) X 0 dX12_init_30 rfl rfl ?_
  refine a_sipush (pc := 31) X dX12_init_31 q_sp_706 ?_
  refine a_newarrI (pc := 34) (kc := 3) (ks := 1363) (cur := (.inl (12, [0, 3, 0, 0, 0, 0, 0, 0, 0, 0, 0, 0, 1, 0, 4, 5, 2, 2, 2, 2, 2, 2, 2, 0, 0, 2, 2, 0, 2, 2, 2, 0, 0, 0, 0, 2, 0, 0, 2, 2, 0, 0, 2, 0, 0, 0, 0]) :: ((xA 0 940 ++ xA 0 353) ++ xA 0 70))) (N := 706) X ha (by decide +kernel) (by decide) (by decide) ka_int dX12_init_34 (by decide) ⟨Nat.le_of_ble_eq_true rfl, Nat.le_of_ble_eq_true rfl⟩ ?_
  have X := x_re X (.inl (12, [0, 3, 0, 0, 0, 0, 0, 0, 0, 0, 0, 0, 1, 0, 4, 5, 2, 2, 2, 2, 2, 2, 2, 0, 0, 2, 2, 0, 2, 2, 2, 0, 0, 0, 0, 2, 0, 0, 2, 2, 0, 0, 2, 0, 0, 0, 0]) :: (((xA 0 940 ++ xA 0 353) ++ xA 0 70) ++ xA 0 706))
  show bW p l e _ s m args below meth c D tc (fun q => a ≤ q) 1 [((.inl (12, [0, 3, 0, 0, 0, 0, 0, 0, 0, 0, 0, 0, 1, 0, 4, 5, 2, 2, 2, 2, 2, 2, 2, 0, 0, 2, 2, 0, 2, 2, 2, 0, 0, 0, 0, 2, 0, 0, 2, 2, 0, 0, 2, 0, 0, 0, 0]) :: (((xA 0 940 ++ xA 0 353) ++ xA 0 70) ++ xA 0 706)), fun i => a + i)] 4 2069 _ 36 [(0, .ref (a + 0))] [.ref (a + 4), .ref (a + 0)] [z_X12_init_3]
  refine a_putR (pc := 36) (kc := 4) (ks := 2069) (tl := (((xA 0 940 ++ xA 0 353) ++ xA 0 70) ++ xA 0 706)) (ci := 12) (kds := [0, 3, 0, 0, 0, 0, 0, 0, 0, 0, 0, 0, 1, 0, 4, 5, 2, 2, 2, 2, 2, 2, 2, 0, 0, 2, 2, 0, 2, 2, 2, 0, 0, 0, 0, 2, 0, 0, 2, 2, 0, 0, 2, 0, 0, 0, 0]) (o := 4) X hin fl_RX12_104 (fun _ _ _ h => by cases h; exact ⟨rfl, rfl⟩) rfl (by decide) rfl rfl dX12_init_36 ?_
  have X := x_re X (.inl (12, [0, 3, 0, 0, 0, 0, 0, 0, 0, 0, 0, 0, 1, 0, 4, 5, 6, 2, 2, 2, 2, 2, 2, 0, 0, 2, 2, 0, 2, 2, 2, 0, 0, 0, 0, 2, 0, 0, 2, 2, 0, 0, 2, 0, 0, 0, 0]) :: (((xA 0 940 ++ xA 0 353) ++ xA 0 70) ++ xA 0 706))
  show bW p l e _ s m args below meth c D tc (fun q => a ≤ q) 1 [((.inl (12, [0, 3, 0, 0, 0, 0, 0, 0, 0, 0, 0, 0, 1, 0, 4, 5, 6, 2, 2, 2, 2, 2, 2, 0, 0, 2, 2, 0, 2, 2, 2, 0, 0, 0, 0, 2, 0, 0, 2, 2, 0, 0, 2, 0, 0, 0, 0]) :: (((xA 0 940 ++ xA 0 353) ++ xA 0 70) ++ xA 0 706)), fun i => a + i)] 4 2069 _ 39 [(0, .ref (a + 0))] [] [z_X12_init_3]
  refine a_aload_n (pc := 39) X 0 dX12_init_39 rfl rfl ?_
  refine a_sipush (pc := 40) X dX12_init_40 q_sp_328 ?_
  refine a_newarrI (pc := 43) (kc := 4) (ks := 2069) (cur := (.inl (12, [0, 3, 0, 0, 0, 0, 0, 0, 0, 0, 0, 0, 1, 0, 4, 5, 6, 2, 2, 2, 2, 2, 2, 0, 0, 2, 2, 0, 2, 2, 2, 0, 0, 0, 0, 2, 0, 0, 2, 2, 0, 0, 2, 0, 0, 0, 0]) :: (((xA 0 940 ++ xA 0 353) ++ xA 0 70) ++ xA 0 706))) (N := 328) X ha (by decide +kernel) (by decide) (by decide) ka_int dX12_init_43 (by decide) ⟨Nat.le_of_ble_eq_true rfl, Nat.le_of_ble_eq_true rfl⟩ ?_
  have X := x_re X (.inl (12, [0, 3, 0, 0, 0, 0, 0, 0, 0, 0, 0, 0, 1, 0, 4, 5, 6, 2, 2, 2, 2, 2, 2, 0, 0, 2, 2, 0, 2, 2, 2, 0, 0, 0, 0, 2, 0, 0, 2, 2, 0, 0, 2, 0, 0, 0, 0]) :: ((((xA 0 940 ++ xA 0 353) ++ xA 0 70) ++ xA 0 706) ++ xA 0 328))
  show bW p l e _ s m args below meth c D tc (fun q => a ≤ q) 1 [((.inl (12, [0, 3, 0, 0, 0, 0, 0, 0, 0, 0, 0, 0, 1, 0, 4, 5, 6, 2, 2, 2, 2, 2, 2, 0, 0, 2, 2, 0, 2, 2, 2, 0, 0, 0, 0, 2, 0, 0, 2, 2, 0, 0, 2, 0, 0, 0, 0]) :: ((((xA 0 940 ++ xA 0 353) ++ xA 0 70) ++ xA 0 706) ++ xA 0 328)), fun i => a + i)] 5 2397 _ 45 [(0, .ref (a + 0))] [.ref (a + 5), .ref (a + 0)] [z_X12_init_4]
  refine a_putR (pc := 45) (kc := 5) (ks := 2397) (tl := ((((xA 0 940 ++ xA 0 353) ++ xA 0 70) ++ xA 0 706) ++ xA 0 328)) (ci := 12) (kds := [0, 3, 0, 0, 0, 0, 0, 0, 0, 0, 0, 0, 1, 0, 4, 5, 6, 2, 2, 2, 2, 2, 2, 0, 0, 2, 2, 0, 2, 2, 2, 0, 0, 0, 0, 2, 0, 0, 2, 2, 0, 0, 2, 0, 0, 0, 0]) (o := 5) X hin fl_RX12_107 (fun _ _ _ h => by cases h; exact ⟨rfl, rfl⟩) rfl (by decide) rfl rfl dX12_init_45 ?_
  have X := x_re X (.inl (12, [0, 3, 0, 0, 0, 0, 0, 0, 0, 0, 0, 0, 1, 0, 4, 5, 6, 7, 2, 2, 2, 2, 2, 0, 0, 2, 2, 0, 2, 2, 2, 0, 0, 0, 0, 2, 0, 0, 2, 2, 0, 0, 2, 0, 0, 0, 0]) :: ((((xA 0 940 ++ xA 0 353) ++ xA 0 70) ++ xA 0 706) ++ xA 0 328))
  show bW p l e _ s m args below meth c D tc (fun q => a ≤ q) 1 [((.inl (12, [0, 3, 0, 0, 0, 0, 0, 0, 0, 0, 0, 0, 1, 0, 4, 5, 6, 7, 2, 2, 2, 2, 2, 0, 0, 2, 2, 0, 2, 2, 2, 0, 0, 0, 0, 2, 0, 0, 2, 2, 0, 0, 2, 0, 0, 0, 0]) :: ((((xA 0 940 ++ xA 0 353) ++ xA 0 70) ++ xA 0 706) ++ xA 0 328)), fun i => a + i)] 5 2397 _ 48 [(0, .ref (a + 0))] [] [z_X12_init_4]
  refine a_aload_n (pc := 48) X 0 dX12_init_48 rfl rfl ?_
  refine a_bipush (pc := 49) X dX12_init_49 q_bp_41 ?_
  refine a_newarrI (pc := 51) (kc := 5) (ks := 2397) (cur := (.inl (12, [0, 3, 0, 0, 0, 0, 0, 0, 0, 0, 0, 0, 1, 0, 4, 5, 6, 7, 2, 2, 2, 2, 2, 0, 0, 2, 2, 0, 2, 2, 2, 0, 0, 0, 0, 2, 0, 0, 2, 2, 0, 0, 2, 0, 0, 0, 0]) :: ((((xA 0 940 ++ xA 0 353) ++ xA 0 70) ++ xA 0 706) ++ xA 0 328))) (N := 41) X ha (by decide +kernel) (by decide) (by decide) ka_int dX12_init_51 (by decide) ⟨Nat.le_of_ble_eq_true rfl, Nat.le_of_ble_eq_true rfl⟩ ?_
  have X := x_re X (.inl (12, [0, 3, 0, 0, 0, 0, 0, 0, 0, 0, 0, 0, 1, 0, 4, 5, 6, 7, 2, 2, 2, 2, 2, 0, 0, 2, 2, 0, 2, 2, 2, 0, 0, 0, 0, 2, 0, 0, 2, 2, 0, 0, 2, 0, 0, 0, 0]) :: (((((xA 0 940 ++ xA 0 353) ++ xA 0 70) ++ xA 0 706) ++ xA 0 328) ++ xA 0 41))
  show bW p l e _ s m args below meth c D tc (fun q => a ≤ q) 1 [((.inl (12, [0, 3, 0, 0, 0, 0, 0, 0, 0, 0, 0, 0, 1, 0, 4, 5, 6, 7, 2, 2, 2, 2, 2, 0, 0, 2, 2, 0, 2, 2, 2, 0, 0, 0, 0, 2, 0, 0, 2, 2, 0, 0, 2, 0, 0, 0, 0]) :: (((((xA 0 940 ++ xA 0 353) ++ xA 0 70) ++ xA 0 706) ++ xA 0 328) ++ xA 0 41)), fun i => a + i)] 6 2438 _ 53 [(0, .ref (a + 0))] [.ref (a + 6), .ref (a + 0)] [z_X12_init_5]
  refine a_putR (pc := 53) (kc := 6) (ks := 2438) (tl := (((((xA 0 940 ++ xA 0 353) ++ xA 0 70) ++ xA 0 706) ++ xA 0 328) ++ xA 0 41)) (ci := 12) (kds := [0, 3, 0, 0, 0, 0, 0, 0, 0, 0, 0, 0, 1, 0, 4, 5, 6, 7, 2, 2, 2, 2, 2, 0, 0, 2, 2, 0, 2, 2, 2, 0, 0, 0, 0, 2, 0, 0, 2, 2, 0, 0, 2, 0, 0, 0, 0]) (o := 6) X hin fl_RX12_110 (fun _ _ _ h => by cases h; exact ⟨rfl, rfl⟩) rfl (by decide) rfl rfl dX12_init_53 ?_
  have X := x_re X (.inl (12, [0, 3, 0, 0, 0, 0, 0, 0, 0, 0, 0, 0, 1, 0, 4, 5, 6, 7, 8, 2, 2, 2, 2, 0, 0, 2, 2, 0, 2, 2, 2, 0, 0, 0, 0, 2, 0, 0, 2, 2, 0, 0, 2, 0, 0, 0, 0]) :: (((((xA 0 940 ++ xA 0 353) ++ xA 0 70) ++ xA 0 706) ++ xA 0 328) ++ xA 0 41))
  show bW p l e _ s m args below meth c D tc (fun q => a ≤ q) 1 [((.inl (12, [0, 3, 0, 0, 0, 0, 0, 0, 0, 0, 0, 0, 1, 0, 4, 5, 6, 7, 8, 2, 2, 2, 2, 0, 0, 2, 2, 0, 2, 2, 2, 0, 0, 0, 0, 2, 0, 0, 2, 2, 0, 0, 2, 0, 0, 0, 0]) :: (((((xA 0 940 ++ xA 0 353) ++ xA 0 70) ++ xA 0 706) ++ xA 0 328) ++ xA 0 41)), fun i => a + i)] 6 2438 _ 56 [(0, .ref (a + 0))] [] [z_X12_init_5]
  refine a_aload_n (pc := 56) X 0 dX12_init_56 rfl rfl ?_
  refine a_bipush (pc := 57) X dX12_init_57 q_bp_19 ?_
  refine a_newarrL (pc := 59) (kc := 6) (ks := 2438) (cur := (.inl (12, [0, 3, 0, 0, 0, 0, 0, 0, 0, 0, 0, 0, 1, 0, 4, 5, 6, 7, 8, 2, 2, 2, 2, 0, 0, 2, 2, 0, 2, 2, 2, 0, 0, 0, 0, 2, 0, 0, 2, 2, 0, 0, 2, 0, 0, 0, 0]) :: (((((xA 0 940 ++ xA 0 353) ++ xA 0 70) ++ xA 0 706) ++ xA 0 328) ++ xA 0 41))) (N := 19) X ha (by decide +kernel) (by decide) (by decide) ka_long dX12_init_59 (by decide) ⟨Nat.le_of_ble_eq_true rfl, Nat.le_of_ble_eq_true rfl⟩ ?_
  have X := x_re X (.inl (12, [0, 3, 0, 0, 0, 0, 0, 0, 0, 0, 0, 0, 1, 0, 4, 5, 6, 7, 8, 2, 2, 2, 2, 0, 0, 2, 2, 0, 2, 2, 2, 0, 0, 0, 0, 2, 0, 0, 2, 2, 0, 0, 2, 0, 0, 0, 0]) :: ((((((xA 0 940 ++ xA 0 353) ++ xA 0 70) ++ xA 0 706) ++ xA 0 328) ++ xA 0 41) ++ xA 1 19))
  show bW p l e _ s m args below meth c D tc (fun q => a ≤ q) 1 [((.inl (12, [0, 3, 0, 0, 0, 0, 0, 0, 0, 0, 0, 0, 1, 0, 4, 5, 6, 7, 8, 2, 2, 2, 2, 0, 0, 2, 2, 0, 2, 2, 2, 0, 0, 0, 0, 2, 0, 0, 2, 2, 0, 0, 2, 0, 0, 0, 0]) :: ((((((xA 0 940 ++ xA 0 353) ++ xA 0 70) ++ xA 0 706) ++ xA 0 328) ++ xA 0 41) ++ xA 1 19)), fun i => a + i)] 7 2457 _ 61 [(0, .ref (a + 0))] [.ref (a + 7), .ref (a + 0)] [z_X12_init_6]
  refine a_putR (pc := 61) (kc := 7) (ks := 2457) (tl := ((((((xA 0 940 ++ xA 0 353) ++ xA 0 70) ++ xA 0 706) ++ xA 0 328) ++ xA 0 41) ++ xA 1 19)) (ci := 12) (kds := [0, 3, 0, 0, 0, 0, 0, 0, 0, 0, 0, 0, 1, 0, 4, 5, 6, 7, 8, 2, 2, 2, 2, 0, 0, 2, 2, 0, 2, 2, 2, 0, 0, 0, 0, 2, 0, 0, 2, 2, 0, 0, 2, 0, 0, 0, 0]) (o := 7) X hin fl_RX12_113 (fun _ _ _ h => by cases h; exact ⟨rfl, rfl⟩) rfl (by decide) rfl rfl dX12_init_61 ?_
  have X := x_re X (.inl (12, [0, 3, 0, 0, 0, 0, 0, 0, 0, 0, 0, 0, 1, 0, 4, 5, 6, 7, 8, 9, 2, 2, 2, 0, 0, 2, 2, 0, 2, 2, 2, 0, 0, 0, 0, 2, 0, 0, 2, 2, 0, 0, 2, 0, 0, 0, 0]) :: ((((((xA 0 940 ++ xA 0 353) ++ xA 0 70) ++ xA 0 706) ++ xA 0 328) ++ xA 0 41) ++ xA 1 19))
  show bW p l e _ s m args below meth c D tc (fun q => a ≤ q) 1 [((.inl (12, [0, 3, 0, 0, 0, 0, 0, 0, 0, 0, 0, 0, 1, 0, 4, 5, 6, 7, 8, 9, 2, 2, 2, 0, 0, 2, 2, 0, 2, 2, 2, 0, 0, 0, 0, 2, 0, 0, 2, 2, 0, 0, 2, 0, 0, 0, 0]) :: ((((((xA 0 940 ++ xA 0 353) ++ xA 0 70) ++ xA 0 706) ++ xA 0 328) ++ xA 0 41) ++ xA 1 19)), fun i => a + i)] 7 2457 _ 64 [(0, .ref (a + 0))] [] [z_X12_init_6]
  refine a_aload_n (pc := 64) X 0 dX12_init_64 rfl rfl ?_
  refine a_bipush (pc := 65) X dX12_init_65 q_bp_19 ?_
  refine a_newarrL (pc := 67) (kc := 7) (ks := 2457) (cur := (.inl (12, [0, 3, 0, 0, 0, 0, 0, 0, 0, 0, 0, 0, 1, 0, 4, 5, 6, 7, 8, 9, 2, 2, 2, 0, 0, 2, 2, 0, 2, 2, 2, 0, 0, 0, 0, 2, 0, 0, 2, 2, 0, 0, 2, 0, 0, 0, 0]) :: ((((((xA 0 940 ++ xA 0 353) ++ xA 0 70) ++ xA 0 706) ++ xA 0 328) ++ xA 0 41) ++ xA 1 19))) (N := 19) X ha (by decide +kernel) (by decide) (by decide) ka_long dX12_init_67 (by decide) ⟨Nat.le_of_ble_eq_true rfl, Nat.le_of_ble_eq_true rfl⟩ ?_
  have X := x_re X (.inl (12, [0, 3, 0, 0, 0, 0, 0, 0, 0, 0, 0, 0, 1, 0, 4, 5, 6, 7, 8, 9, 2, 2, 2, 0, 0, 2, 2, 0, 2, 2, 2, 0, 0, 0, 0, 2, 0, 0, 2, 2, 0, 0, 2, 0, 0, 0, 0]) :: (((((((xA 0 940 ++ xA 0 353) ++ xA 0 70) ++ xA 0 706) ++ xA 0 328) ++ xA 0 41) ++ xA 1 19) ++ xA 1 19))
  show bW p l e _ s m args below meth c D tc (fun q => a ≤ q) 1 [((.inl (12, [0, 3, 0, 0, 0, 0, 0, 0, 0, 0, 0, 0, 1, 0, 4, 5, 6, 7, 8, 9, 2, 2, 2, 0, 0, 2, 2, 0, 2, 2, 2, 0, 0, 0, 0, 2, 0, 0, 2, 2, 0, 0, 2, 0, 0, 0, 0]) :: (((((((xA 0 940 ++ xA 0 353) ++ xA 0 70) ++ xA 0 706) ++ xA 0 328) ++ xA 0 41) ++ xA 1 19) ++ xA 1 19)), fun i => a + i)] 8 2476 _ 69 [(0, .ref (a + 0))] [.ref (a + 8), .ref (a + 0)] [z_X12_init_7]
  refine a_putR (pc := 69) (kc := 8) (ks := 2476) (tl := (((((((xA 0 940 ++ xA 0 353) ++ xA 0 70) ++ xA 0 706) ++ xA 0 328) ++ xA 0 41) ++ xA 1 19) ++ xA 1 19)) (ci := 12) (kds := [0, 3, 0, 0, 0, 0, 0, 0, 0, 0, 0, 0, 1, 0, 4, 5, 6, 7, 8, 9, 2, 2, 2, 0, 0, 2, 2, 0, 2, 2, 2, 0, 0, 0, 0, 2, 0, 0, 2, 2, 0, 0, 2, 0, 0, 0, 0]) (o := 8) X hin fl_RX12_117 (fun _ _ _ h => by cases h; exact ⟨rfl, rfl⟩) rfl (by decide) rfl rfl dX12_init_69 ?_
  have X := x_re X (.inl (12, [0, 3, 0, 0, 0, 0, 0, 0, 0, 0, 0, 0, 1, 0, 4, 5, 6, 7, 8, 9, 10, 2, 2, 0, 0, 2, 2, 0, 2, 2, 2, 0, 0, 0, 0, 2, 0, 0, 2, 2, 0, 0, 2, 0, 0, 0, 0]) :: (((((((xA 0 940 ++ xA 0 353) ++ xA 0 70) ++ xA 0 706) ++ xA 0 328) ++ xA 0 41) ++ xA 1 19) ++ xA 1 19))
  show bW p l e _ s m args below meth c D tc (fun q => a ≤ q) 1 [((.inl (12, [0, 3, 0, 0, 0, 0, 0, 0, 0, 0, 0, 0, 1, 0, 4, 5, 6, 7, 8, 9, 10, 2, 2, 0, 0, 2, 2, 0, 2, 2, 2, 0, 0, 0, 0, 2, 0, 0, 2, 2, 0, 0, 2, 0, 0, 0, 0]) :: (((((((xA 0 940 ++ xA 0 353) ++ xA 0 70) ++ xA 0 706) ++ xA 0 328) ++ xA 0 41) ++ xA 1 19) ++ xA 1 19)), fun i => a + i)] 8 2476 _ 72 [(0, .ref (a + 0))] [] [z_X12_init_7]
  refine a_aload_n (pc := 72) X 0 dX12_init_72 rfl rfl ?_
  refine a_bipush (pc := 73) X dX12_init_73 q_bp_38 ?_
  refine a_newarrL (pc := 75) (kc := 8) (ks := 2476) (cur := (.inl (12, [0, 3, 0, 0, 0, 0, 0, 0, 0, 0, 0, 0, 1, 0, 4, 5, 6, 7, 8, 9, 10, 2, 2, 0, 0, 2, 2, 0, 2, 2, 2, 0, 0, 0, 0, 2, 0, 0, 2, 2, 0, 0, 2, 0, 0, 0, 0]) :: (((((((xA 0 940 ++ xA 0 353) ++ xA 0 70) ++ xA 0 706) ++ xA 0 328) ++ xA 0 41) ++ xA 1 19) ++ xA 1 19))) (N := 38) X ha (by decide +kernel) (by decide) (by decide) ka_long dX12_init_75 (by decide) ⟨Nat.le_of_ble_eq_true rfl, Nat.le_of_ble_eq_true rfl⟩ ?_
  have X := x_re X (.inl (12, [0, 3, 0, 0, 0, 0, 0, 0, 0, 0, 0, 0, 1, 0, 4, 5, 6, 7, 8, 9, 10, 2, 2, 0, 0, 2, 2, 0, 2, 2, 2, 0, 0, 0, 0, 2, 0, 0, 2, 2, 0, 0, 2, 0, 0, 0, 0]) :: ((((((((xA 0 940 ++ xA 0 353) ++ xA 0 70) ++ xA 0 706) ++ xA 0 328) ++ xA 0 41) ++ xA 1 19) ++ xA 1 19) ++ xA 1 38))
  show bW p l e _ s m args below meth c D tc (fun q => a ≤ q) 1 [((.inl (12, [0, 3, 0, 0, 0, 0, 0, 0, 0, 0, 0, 0, 1, 0, 4, 5, 6, 7, 8, 9, 10, 2, 2, 0, 0, 2, 2, 0, 2, 2, 2, 0, 0, 0, 0, 2, 0, 0, 2, 2, 0, 0, 2, 0, 0, 0, 0]) :: ((((((((xA 0 940 ++ xA 0 353) ++ xA 0 70) ++ xA 0 706) ++ xA 0 328) ++ xA 0 41) ++ xA 1 19) ++ xA 1 19) ++ xA 1 38)), fun i => a + i)] 9 2514 _ 77 [(0, .ref (a + 0))] [.ref (a + 9), .ref (a + 0)] [z_X12_init_8]
  refine a_putR (pc := 77) (kc := 9) (ks := 2514) (tl := ((((((((xA 0 940 ++ xA 0 353) ++ xA 0 70) ++ xA 0 706) ++ xA 0 328) ++ xA 0 41) ++ xA 1 19) ++ xA 1 19) ++ xA 1 38)) (ci := 12) (kds := [0, 3, 0, 0, 0, 0, 0, 0, 0, 0, 0, 0, 1, 0, 4, 5, 6, 7, 8, 9, 10, 2, 2, 0, 0, 2, 2, 0, 2, 2, 2, 0, 0, 0, 0, 2, 0, 0, 2, 2, 0, 0, 2, 0, 0, 0, 0]) (o := 9) X hin fl_RX12_120 (fun _ _ _ h => by cases h; exact ⟨rfl, rfl⟩) rfl (by decide) rfl rfl dX12_init_77 ?_
  have X := x_re X (.inl (12, [0, 3, 0, 0, 0, 0, 0, 0, 0, 0, 0, 0, 1, 0, 4, 5, 6, 7, 8, 9, 10, 11, 2, 0, 0, 2, 2, 0, 2, 2, 2, 0, 0, 0, 0, 2, 0, 0, 2, 2, 0, 0, 2, 0, 0, 0, 0]) :: ((((((((xA 0 940 ++ xA 0 353) ++ xA 0 70) ++ xA 0 706) ++ xA 0 328) ++ xA 0 41) ++ xA 1 19) ++ xA 1 19) ++ xA 1 38))
  show bW p l e _ s m args below meth c D tc (fun q => a ≤ q) 1 [((.inl (12, [0, 3, 0, 0, 0, 0, 0, 0, 0, 0, 0, 0, 1, 0, 4, 5, 6, 7, 8, 9, 10, 11, 2, 0, 0, 2, 2, 0, 2, 2, 2, 0, 0, 0, 0, 2, 0, 0, 2, 2, 0, 0, 2, 0, 0, 0, 0]) :: ((((((((xA 0 940 ++ xA 0 353) ++ xA 0 70) ++ xA 0 706) ++ xA 0 328) ++ xA 0 41) ++ xA 1 19) ++ xA 1 19) ++ xA 1 38)), fun i => a + i)] 9 2514 _ 80 [(0, .ref (a + 0))] [] [z_X12_init_8]
  refine a_aload_n (pc := 80) X 0 dX12_init_80 rfl rfl ?_
  refine a_iconst (pc := 81) X dX12_init_81 q_ic_2 ?_
  refine a_newarrZ (pc := 82) (kc := 9) (ks := 2514) (cur := (.inl (12, [0, 3, 0, 0, 0, 0, 0, 0, 0, 0, 0, 0, 1, 0, 4, 5, 6, 7, 8, 9, 10, 11, 2, 0, 0, 2, 2, 0, 2, 2, 2, 0, 0, 0, 0, 2, 0, 0, 2, 2, 0, 0, 2, 0, 0, 0, 0]) :: ((((((((xA 0 940 ++ xA 0 353) ++ xA 0 70) ++ xA 0 706) ++ xA 0 328) ++ xA 0 41) ++ xA 1 19) ++ xA 1 19) ++ xA 1 38))) (N := 2) X ha (by decide +kernel) (by decide) (by decide) ka_bool dX12_init_82 (by decide) ⟨Nat.le_of_ble_eq_true rfl, Nat.le_of_ble_eq_true rfl⟩ ?_
  have X := x_re X (.inl (12, [0, 3, 0, 0, 0, 0, 0, 0, 0, 0, 0, 0, 1, 0, 4, 5, 6, 7, 8, 9, 10, 11, 2, 0, 0, 2, 2, 0, 2, 2, 2, 0, 0, 0, 0, 2, 0, 0, 2, 2, 0, 0, 2, 0, 0, 0, 0]) :: (((((((((xA 0 940 ++ xA 0 353) ++ xA 0 70) ++ xA 0 706) ++ xA 0 328) ++ xA 0 41) ++ xA 1 19) ++ xA 1 19) ++ xA 1 38) ++ xA 2 2))
  show bW p l e _ s m args below meth c D tc (fun q => a ≤ q) 1 [((.inl (12, [0, 3, 0, 0, 0, 0, 0, 0, 0, 0, 0, 0, 1, 0, 4, 5, 6, 7, 8, 9, 10, 11, 2, 0, 0, 2, 2, 0, 2, 2, 2, 0, 0, 0, 0, 2, 0, 0, 2, 2, 0, 0, 2, 0, 0, 0, 0]) :: (((((((((xA 0 940 ++ xA 0 353) ++ xA 0 70) ++ xA 0 706) ++ xA 0 328) ++ xA 0 41) ++ xA 1 19) ++ xA 1 19) ++ xA 1 38) ++ xA 2 2)), fun i => a + i)] 10 2516 _ 84 [(0, .ref (a + 0))] [.ref (a + 10), .ref (a + 0)] [z_X12_init_9]
  refine a_putR (pc := 84) (kc := 10) (ks := 2516) (tl := (((((((((xA 0 940 ++ xA 0 353) ++ xA 0 70) ++ xA 0 706) ++ xA 0 328) ++ xA 0 41) ++ xA 1 19) ++ xA 1 19) ++ xA 1 38) ++ xA 2 2)) (ci := 12) (kds := [0, 3, 0, 0, 0, 0, 0, 0, 0, 0, 0, 0, 1, 0, 4, 5, 6, 7, 8, 9, 10, 11, 2, 0, 0, 2, 2, 0, 2, 2, 2, 0, 0, 0, 0, 2, 0, 0, 2, 2, 0, 0, 2, 0, 0, 0, 0]) (o := 10) X hin fl_RX12_123 (fun _ _ _ h => by cases h; exact ⟨rfl, rfl⟩) rfl (by decide) rfl rfl dX12_init_84 ?_
  have X := x_re X (.inl (12, [0, 3, 0, 0, 0, 0, 0, 0, 0, 0, 0, 0, 1, 0, 4, 5, 6, 7, 8, 9, 10, 11, 12, 0, 0, 2, 2, 0, 2, 2, 2, 0, 0, 0, 0, 2, 0, 0, 2, 2, 0, 0, 2, 0, 0, 0, 0]) :: (((((((((xA 0 940 ++ xA 0 353) ++ xA 0 70) ++ xA 0 706) ++ xA 0 328) ++ xA 0 41) ++ xA 1 19) ++ xA 1 19) ++ xA 1 38) ++ xA 2 2))
  show bW p l e _ s m args below meth c D tc (fun q => a ≤ q) 1 [((.inl (12, [0, 3, 0, 0, 0, 0, 0, 0, 0, 0, 0, 0, 1, 0, 4, 5, 6, 7, 8, 9, 10, 11, 12, 0, 0, 2, 2, 0, 2, 2, 2, 0, 0, 0, 0, 2, 0, 0, 2, 2, 0, 0, 2, 0, 0, 0, 0]) :: (((((((((xA 0 940 ++ xA 0 353) ++ xA 0 70) ++ xA 0 706) ++ xA 0 328) ++ xA 0 41) ++ xA 1 19) ++ xA 1 19) ++ xA 1 38) ++ xA 2 2)), fun i => a + i)] 10 2516 _ 87 [(0, .ref (a + 0))] [] [z_X12_init_9]
  refine a_aload_n (pc := 87) X 0 dX12_init_87 rfl rfl ?_
  refine a_bipush (pc := 88) X dX12_init_88 q_bp_8 ?_
  refine a_newarrI (pc := 90) (kc := 10) (ks := 2516) (cur := (.inl (12, [0, 3, 0, 0, 0, 0, 0, 0, 0, 0, 0, 0, 1, 0, 4, 5, 6, 7, 8, 9, 10, 11, 12, 0, 0, 2, 2, 0, 2, 2, 2, 0, 0, 0, 0, 2, 0, 0, 2, 2, 0, 0, 2, 0, 0, 0, 0]) :: (((((((((xA 0 940 ++ xA 0 353) ++ xA 0 70) ++ xA 0 706) ++ xA 0 328) ++ xA 0 41) ++ xA 1 19) ++ xA 1 19) ++ xA 1 38) ++ xA 2 2))) (N := 8) X ha (by decide +kernel) (by decide) (by decide) ka_int dX12_init_90 (by decide) ⟨Nat.le_of_ble_eq_true rfl, Nat.le_of_ble_eq_true rfl⟩ ?_
  have X := x_re X (.inl (12, [0, 3, 0, 0, 0, 0, 0, 0, 0, 0, 0, 0, 1, 0, 4, 5, 6, 7, 8, 9, 10, 11, 12, 0, 0, 2, 2, 0, 2, 2, 2, 0, 0, 0, 0, 2, 0, 0, 2, 2, 0, 0, 2, 0, 0, 0, 0]) :: ((((((((((xA 0 940 ++ xA 0 353) ++ xA 0 70) ++ xA 0 706) ++ xA 0 328) ++ xA 0 41) ++ xA 1 19) ++ xA 1 19) ++ xA 1 38) ++ xA 2 2) ++ xA 0 8))
  show bW p l e _ s m args below meth c D tc (fun q => a ≤ q) 1 [((.inl (12, [0, 3, 0, 0, 0, 0, 0, 0, 0, 0, 0, 0, 1, 0, 4, 5, 6, 7, 8, 9, 10, 11, 12, 0, 0, 2, 2, 0, 2, 2, 2, 0, 0, 0, 0, 2, 0, 0, 2, 2, 0, 0, 2, 0, 0, 0, 0]) :: ((((((((((xA 0 940 ++ xA 0 353) ++ xA 0 70) ++ xA 0 706) ++ xA 0 328) ++ xA 0 41) ++ xA 1 19) ++ xA 1 19) ++ xA 1 38) ++ xA 2 2) ++ xA 0 8)), fun i => a + i)] 11 2524 _ 92 [(0, .ref (a + 0))] [.ref (a + 11), .ref (a + 0)] [z_X12_init_10]
  refine a_putR (pc := 92) (kc := 11) (ks := 2524) (tl := ((((((((((xA 0 940 ++ xA 0 353) ++ xA 0 70) ++ xA 0 706) ++ xA 0 328) ++ xA 0 41) ++ xA 1 19) ++ xA 1 19) ++ xA 1 38) ++ xA 2 2) ++ xA 0 8)) (ci := 12) (kds := [0, 3, 0, 0, 0, 0, 0, 0, 0, 0, 0, 0, 1, 0, 4, 5, 6, 7, 8, 9, 10, 11, 12, 0, 0, 2, 2, 0, 2, 2, 2, 0, 0, 0, 0, 2, 0, 0, 2, 2, 0, 0, 2, 0, 0, 0, 0]) (o := 11) X hin fl_RX12_127 (fun _ _ _ h => by cases h; exact ⟨rfl, rfl⟩) rfl (by decide) rfl rfl dX12_init_92 ?_
  have X := x_re X (.inl (12, [0, 3, 0, 0, 0, 0, 0, 0, 0, 0, 0, 0, 1, 0, 4, 5, 6, 7, 8, 9, 10, 11, 12, 0, 0, 13, 2, 0, 2, 2, 2, 0, 0, 0, 0, 2, 0, 0, 2, 2, 0, 0, 2, 0, 0, 0, 0]) :: ((((((((((xA 0 940 ++ xA 0 353) ++ xA 0 70) ++ xA 0 706) ++ xA 0 328) ++ xA 0 41) ++ xA 1 19) ++ xA 1 19) ++ xA 1 38) ++ xA 2 2) ++ xA 0 8))
  show bW p l e _ s m args below meth c D tc (fun q => a ≤ q) 1 [((.inl (12, [0, 3, 0, 0, 0, 0, 0, 0, 0, 0, 0, 0, 1, 0, 4, 5, 6, 7, 8, 9, 10, 11, 12, 0, 0, 13, 2, 0, 2, 2, 2, 0, 0, 0, 0, 2, 0, 0, 2, 2, 0, 0, 2, 0, 0, 0, 0]) :: ((((((((((xA 0 940 ++ xA 0 353) ++ xA 0 70) ++ xA 0 706) ++ xA 0 328) ++ xA 0 41) ++ xA 1 19) ++ xA 1 19) ++ xA 1 38) ++ xA 2 2) ++ xA 0 8)), fun i => a + i)] 11 2524 _ 95 [(0, .ref (a + 0))] [] [z_X12_init_10]
  refine a_aload_n (pc := 95) X 0 dX12_init_95 rfl rfl ?_
  refine a_bipush (pc := 96) X dX12_init_96 q_bp_8 ?_
  refine a_newarrI (pc := 98) (kc := 11) (ks := 2524) (cur := (.inl (12, [0, 3, 0, 0, 0, 0, 0, 0, 0, 0, 0, 0, 1, 0, 4, 5, 6, 7, 8, 9, 10, 11, 12, 0, 0, 13, 2, 0, 2, 2, 2, 0, 0, 0, 0, 2, 0, 0, 2, 2, 0, 0, 2, 0, 0, 0, 0]) :: ((((((((((xA 0 940 ++ xA 0 353) ++ xA 0 70) ++ xA 0 706) ++ xA 0 328) ++ xA 0 41) ++ xA 1 19) ++ xA 1 19) ++ xA 1 38) ++ xA 2 2) ++ xA 0 8))) (N := 8) X ha (by decide +kernel) (by decide) (by decide) ka_int dX12_init_98 (by decide) ⟨Nat.le_of_ble_eq_true rfl, Nat.le_of_ble_eq_true rfl⟩ ?_
  have X := x_re X (.inl (12, [0, 3, 0, 0, 0, 0, 0, 0, 0, 0, 0, 0, 1, 0, 4, 5, 6, 7, 8, 9, 10, 11, 12, 0, 0, 13, 2, 0, 2, 2, 2, 0, 0, 0, 0, 2, 0, 0, 2, 2, 0, 0, 2, 0, 0, 0, 0]) :: (((((((((((xA 0 940 ++ xA 0 353) ++ xA 0 70) ++ xA 0 706) ++ xA 0 328) ++ xA 0 41) ++ xA 1 19) ++ xA 1 19) ++ xA 1 38) ++ xA 2 2) ++ xA 0 8) ++ xA 0 8))
  show bW p l e _ s m args below meth c D tc (fun q => a ≤ q) 1 [((.inl (12, [0, 3, 0, 0, 0, 0, 0, 0, 0, 0, 0, 0, 1, 0, 4, 5, 6, 7, 8, 9, 10, 11, 12, 0, 0, 13, 2, 0, 2, 2, 2, 0, 0, 0, 0, 2, 0, 0, 2, 2, 0, 0, 2, 0, 0, 0, 0]) :: (((((((((((xA 0 940 ++ xA 0 353) ++ xA 0 70) ++ xA 0 706) ++ xA 0 328) ++ xA 0 41) ++ xA 1 19) ++ xA 1 19) ++ xA 1 38) ++ xA 2 2) ++ xA 0 8) ++ xA 0 8)), fun i => a + i)] 12 2532 _ 100 [(0, .ref (a + 0))] [.ref (a + 12), .ref (a + 0)] [z_X12_init_11]
  refine a_putR (pc := 100) (kc := 12) (ks := 2532) (tl := (((((((((((xA 0 940 ++ xA 0 353) ++ xA 0 70) ++ xA 0 706) ++ xA 0 328) ++ xA 0 41) ++ xA 1 19) ++ xA 1 19) ++ xA 1 38) ++ xA 2 2) ++ xA 0 8) ++ xA 0 8)) (ci := 12) (kds := [0, 3, 0, 0, 0, 0, 0, 0, 0, 0, 0, 0, 1, 0, 4, 5, 6, 7, 8, 9, 10, 11, 12, 0, 0, 13, 2, 0, 2, 2, 2, 0, 0, 0, 0, 2, 0, 0, 2, 2, 0, 0, 2, 0, 0, 0, 0]) (o := 12) X hin fl_RX12_130 (fun _ _ _ h => by cases h; exact ⟨rfl, rfl⟩) rfl (by decide) rfl rfl dX12_init_100 ?_
  have X := x_re X (.inl (12, [0, 3, 0, 0, 0, 0, 0, 0, 0, 0, 0, 0, 1, 0, 4, 5, 6, 7, 8, 9, 10, 11, 12, 0, 0, 13, 14, 0, 2, 2, 2, 0, 0, 0, 0, 2, 0, 0, 2, 2, 0, 0, 2, 0, 0, 0, 0]) :: (((((((((((xA 0 940 ++ xA 0 353) ++ xA 0 70) ++ xA 0 706) ++ xA 0 328) ++ xA 0 41) ++ xA 1 19) ++ xA 1 19) ++ xA 1 38) ++ xA 2 2) ++ xA 0 8) ++ xA 0 8))
  show bW p l e _ s m args below meth c D tc (fun q => a ≤ q) 1 [((.inl (12, [0, 3, 0, 0, 0, 0, 0, 0, 0, 0, 0, 0, 1, 0, 4, 5, 6, 7, 8, 9, 10, 11, 12, 0, 0, 13, 14, 0, 2, 2, 2, 0, 0, 0, 0, 2, 0, 0, 2, 2, 0, 0, 2, 0, 0, 0, 0]) :: (((((((((((xA 0 940 ++ xA 0 353) ++ xA 0 70) ++ xA 0 706) ++ xA 0 328) ++ xA 0 41) ++ xA 1 19) ++ xA 1 19) ++ xA 1 38) ++ xA 2 2) ++ xA 0 8) ++ xA 0 8)), fun i => a + i)] 12 2532 _ 103 [(0, .ref (a + 0))] [] [z_X12_init_11]
  refine a_aload_n (pc := 103) X 0 dX12_init_103 rfl rfl ?_
  refine a_bipush (pc := 104) X dX12_init_104 q_bp_64 ?_
  refine a_newarrI (pc := 106) (kc := 12) (ks := 2532) (cur := (.inl (12, [0, 3, 0, 0, 0, 0, 0, 0, 0, 0, 0, 0, 1, 0, 4, 5, 6, 7, 8, 9, 10, 11, 12, 0, 0, 13, 14, 0, 2, 2, 2, 0, 0, 0, 0, 2, 0, 0, 2, 2, 0, 0, 2, 0, 0, 0, 0]) :: (((((((((((xA 0 940 ++ xA 0 353) ++ xA 0 70) ++ xA 0 706) ++ xA 0 328) ++ xA 0 41) ++ xA 1 19) ++ xA 1 19) ++ xA 1 38) ++ xA 2 2) ++ xA 0 8) ++ xA 0 8))) (N := 64) X ha (by decide +kernel) (by decide) (by decide) ka_int dX12_init_106 (by decide) ⟨Nat.le_of_ble_eq_true rfl, Nat.le_of_ble_eq_true rfl⟩ ?_
  have X := x_re X (.inl (12, [0, 3, 0, 0, 0, 0, 0, 0, 0, 0, 0, 0, 1, 0, 4, 5, 6, 7, 8, 9, 10, 11, 12, 0, 0, 13, 14, 0, 2, 2, 2, 0, 0, 0, 0, 2, 0, 0, 2, 2, 0, 0, 2, 0, 0, 0, 0]) :: ((((((((((((xA 0 940 ++ xA 0 353) ++ xA 0 70) ++ xA 0 706) ++ xA 0 328) ++ xA 0 41) ++ xA 1 19) ++ xA 1 19) ++ xA 1 38) ++ xA 2 2) ++ xA 0 8) ++ xA 0 8) ++ xA 0 64))
  show bW p l e _ s m args below meth c D tc (fun q => a ≤ q) 1 [((.inl (12, [0, 3, 0, 0, 0, 0, 0, 0, 0, 0, 0, 0, 1, 0, 4, 5, 6, 7, 8, 9, 10, 11, 12, 0, 0, 13, 14, 0, 2, 2, 2, 0, 0, 0, 0, 2, 0, 0, 2, 2, 0, 0, 2, 0, 0, 0, 0]) :: ((((((((((((xA 0 940 ++ xA 0 353) ++ xA 0 70) ++ xA 0 706) ++ xA 0 328) ++ xA 0 41) ++ xA 1 19) ++ xA 1 19) ++ xA 1 38) ++ xA 2 2) ++ xA 0 8) ++ xA 0 8) ++ xA 0 64)), fun i => a + i)] 13 2596 _ 108 [(0, .ref (a + 0))] [.ref (a + 13), .ref (a + 0)] [z_X12_init_12]
  refine a_putR (pc := 108) (kc := 13) (ks := 2596) (tl := ((((((((((((xA 0 940 ++ xA 0 353) ++ xA 0 70) ++ xA 0 706) ++ xA 0 328) ++ xA 0 41) ++ xA 1 19) ++ xA 1 19) ++ xA 1 38) ++ xA 2 2) ++ xA 0 8) ++ xA 0 8) ++ xA 0 64)) (ci := 12) (kds := [0, 3, 0, 0, 0, 0, 0, 0, 0, 0, 0, 0, 1, 0, 4, 5, 6, 7, 8, 9, 10, 11, 12, 0, 0, 13, 14, 0, 2, 2, 2, 0, 0, 0, 0, 2, 0, 0, 2, 2, 0, 0, 2, 0, 0, 0, 0]) (o := 13) X hin fl_RX12_133 (fun _ _ _ h => by cases h; exact ⟨rfl, rfl⟩) rfl (by decide) rfl rfl dX12_init_108 ?_
  have X := x_re X (.inl (12, [0, 3, 0, 0, 0, 0, 0, 0, 0, 0, 0, 0, 1, 0, 4, 5, 6, 7, 8, 9, 10, 11, 12, 0, 0, 13, 14, 0, 15, 2, 2, 0, 0, 0, 0, 2, 0, 0, 2, 2, 0, 0, 2, 0, 0, 0, 0]) :: ((((((((((((xA 0 940 ++ xA 0 353) ++ xA 0 70) ++ xA 0 706) ++ xA 0 328) ++ xA 0 41) ++ xA 1 19) ++ xA 1 19) ++ xA 1 38) ++ xA 2 2) ++ xA 0 8) ++ xA 0 8) ++ xA 0 64))
  show bW p l e _ s m args below meth c D tc (fun q => a ≤ q) 1 [((.inl (12, [0, 3, 0, 0, 0, 0, 0, 0, 0, 0, 0, 0, 1, 0, 4, 5, 6, 7, 8, 9, 10, 11, 12, 0, 0, 13, 14, 0, 15, 2, 2, 0, 0, 0, 0, 2, 0, 0, 2, 2, 0, 0, 2, 0, 0, 0, 0]) :: ((((((((((((xA 0 940 ++ xA 0 353) ++ xA 0 70) ++ xA 0 706) ++ xA 0 328) ++ xA 0 41) ++ xA 1 19) ++ xA 1 19) ++ xA 1 38) ++ xA 2 2) ++ xA 0 8) ++ xA 0 8) ++ xA 0 64)), fun i => a + i)] 13 2596 _ 111 [(0, .ref (a + 0))] [] [z_X12_init_12]
  refine a_aload_n (pc := 111) X 0 dX12_init_111 rfl rfl ?_
  refine a_sipush (pc := 112) X dX12_init_112 q_sp_512 ?_
  refine a_newarrI (pc := 115) (kc := 13) (ks := 2596) (cur := (.inl (12, [0, 3, 0, 0, 0, 0, 0, 0, 0, 0, 0, 0, 1, 0, 4, 5, 6, 7, 8, 9, 10, 11, 12, 0, 0, 13, 14, 0, 15, 2, 2, 0, 0, 0, 0, 2, 0, 0, 2, 2, 0, 0, 2, 0, 0, 0, 0]) :: ((((((((((((xA 0 940 ++ xA 0 353) ++ xA 0 70) ++ xA 0 706) ++ xA 0 328) ++ xA 0 41) ++ xA 1 19) ++ xA 1 19) ++ xA 1 38) ++ xA 2 2) ++ xA 0 8) ++ xA 0 8) ++ xA 0 64))) (N := 512) X ha (by decide +kernel) (by decide) (by decide) ka_int dX12_init_115 (by decide) ⟨Nat.le_of_ble_eq_true rfl, Nat.le_of_ble_eq_true rfl⟩ ?_
  have X := x_re X (.inl (12, [0, 3, 0, 0, 0, 0, 0, 0, 0, 0, 0, 0, 1, 0, 4, 5, 6, 7, 8, 9, 10, 11, 12, 0, 0, 13, 14, 0, 15, 2, 2, 0, 0, 0, 0, 2, 0, 0, 2, 2, 0, 0, 2, 0, 0, 0, 0]) :: (((((((((((((xA 0 940 ++ xA 0 353) ++ xA 0 70) ++ xA 0 706) ++ xA 0 328) ++ xA 0 41) ++ xA 1 19) ++ xA 1 19) ++ xA 1 38) ++ xA 2 2) ++ xA 0 8) ++ xA 0 8) ++ xA 0 64) ++ xA 0 512))
  show bW p l e _ s m args below meth c D tc (fun q => a ≤ q) 1 [((.inl (12, [0, 3, 0, 0, 0, 0, 0, 0, 0, 0, 0, 0, 1, 0, 4, 5, 6, 7, 8, 9, 10, 11, 12, 0, 0, 13, 14, 0, 15, 2, 2, 0, 0, 0, 0, 2, 0, 0, 2, 2, 0, 0, 2, 0, 0, 0, 0]) :: (((((((((((((xA 0 940 ++ xA 0 353) ++ xA 0 70) ++ xA 0 706) ++ xA 0 328) ++ xA 0 41) ++ xA 1 19) ++ xA 1 19) ++ xA 1 38) ++ xA 2 2) ++ xA 0 8) ++ xA 0 8) ++ xA 0 64) ++ xA 0 512)), fun i => a + i)] 14 3108 _ 117 [(0, .ref (a + 0))] [.ref (a + 14), .ref (a + 0)] [z_X12_init_13]
  refine a_putR (pc := 117) (kc := 14) (ks := 3108) (tl := (((((((((((((xA 0 940 ++ xA 0 353) ++ xA 0 70) ++ xA 0 706) ++ xA 0 328) ++ xA 0 41) ++ xA 1 19) ++ xA 1 19) ++ xA 1 38) ++ xA 2 2) ++ xA 0 8) ++ xA 0 8) ++ xA 0 64) ++ xA 0 512)) (ci := 12) (kds := [0, 3, 0, 0, 0, 0, 0, 0, 0, 0, 0, 0, 1, 0, 4, 5, 6, 7, 8, 9, 10, 11, 12, 0, 0, 13, 14, 0, 15, 2, 2, 0, 0, 0, 0, 2, 0, 0, 2, 2, 0, 0, 2, 0, 0, 0, 0]) (o := 14) X hin fl_RX12_136 (fun _ _ _ h => by cases h; exact ⟨rfl, rfl⟩) rfl (by decide) rfl rfl dX12_init_117 ?_
  have X := x_re X (.inl (12, [0, 3, 0, 0, 0, 0, 0, 0, 0, 0, 0, 0, 1, 0, 4, 5, 6, 7, 8, 9, 10, 11, 12, 0, 0, 13, 14, 0, 15, 16, 2, 0, 0, 0, 0, 2, 0, 0, 2, 2, 0, 0, 2, 0, 0, 0, 0]) :: (((((((((((((xA 0 940 ++ xA 0 353) ++ xA 0 70) ++ xA 0 706) ++ xA 0 328) ++ xA 0 41) ++ xA 1 19) ++ xA 1 19) ++ xA 1 38) ++ xA 2 2) ++ xA 0 8) ++ xA 0 8) ++ xA 0 64) ++ xA 0 512))
  show bW p l e _ s m args below meth c D tc (fun q => a ≤ q) 1 [((.inl (12, [0, 3, 0, 0, 0, 0, 0, 0, 0, 0, 0, 0, 1, 0, 4, 5, 6, 7, 8, 9, 10, 11, 12, 0, 0, 13, 14, 0, 15, 16, 2, 0, 0, 0, 0, 2, 0, 0, 2, 2, 0, 0, 2, 0, 0, 0, 0]) :: (((((((((((((xA 0 940 ++ xA 0 353) ++ xA 0 70) ++ xA 0 706) ++ xA 0 328) ++ xA 0 41) ++ xA 1 19) ++ xA 1 19) ++ xA 1 38) ++ xA 2 2) ++ xA 0 8) ++ xA 0 8) ++ xA 0 64) ++ xA 0 512)), fun i => a + i)] 14 3108 _ 120 [(0, .ref (a + 0))] [] [z_X12_init_13]
  refine a_aload_n (pc := 120) X 0 dX12_init_120 rfl rfl ?_
  refine a_bipush (pc := 121) X dX12_init_121 q_bp_6 ?_
  refine a_newarrI (pc := 123) (kc := 14) (ks := 3108) (cur := (.inl (12, [0, 3, 0, 0, 0, 0, 0, 0, 0, 0, 0, 0, 1, 0, 4, 5, 6, 7, 8, 9, 10, 11, 12, 0, 0, 13, 14, 0, 15, 16, 2, 0, 0, 0, 0, 2, 0, 0, 2, 2, 0, 0, 2, 0, 0, 0, 0]) :: (((((((((((((xA 0 940 ++ xA 0 353) ++ xA 0 70) ++ xA 0 706) ++ xA 0 328) ++ xA 0 41) ++ xA 1 19) ++ xA 1 19) ++ xA 1 38) ++ xA 2 2) ++ xA 0 8) ++ xA 0 8) ++ xA 0 64) ++ xA 0 512))) (N := 6) X ha (by decide +kernel) (by decide) (by decide) ka_int dX12_init_123 (by decide) ⟨Nat.le_of_ble_eq_true rfl, Nat.le_of_ble_eq_true rfl⟩ ?_
  have X := x_re X (.inl (12, [0, 3, 0, 0, 0, 0, 0, 0, 0, 0, 0, 0, 1, 0, 4, 5, 6, 7, 8, 9, 10, 11, 12, 0, 0, 13, 14, 0, 15, 16, 2, 0, 0, 0, 0, 2, 0, 0, 2, 2, 0, 0, 2, 0, 0, 0, 0]) :: ((((((((((((((xA 0 940 ++ xA 0 353) ++ xA 0 70) ++ xA 0 706) ++ xA 0 328) ++ xA 0 41) ++ xA 1 19) ++ xA 1 19) ++ xA 1 38) ++ xA 2 2) ++ xA 0 8) ++ xA 0 8) ++ xA 0 64) ++ xA 0 512) ++ xA 0 6))
  show bW p l e _ s m args below meth c D tc (fun q => a ≤ q) 1 [((.inl (12, [0, 3, 0, 0, 0, 0, 0, 0, 0, 0, 0, 0, 1, 0, 4, 5, 6, 7, 8, 9, 10, 11, 12, 0, 0, 13, 14, 0, 15, 16, 2, 0, 0, 0, 0, 2, 0, 0, 2, 2, 0, 0, 2, 0, 0, 0, 0]) :: ((((((((((((((xA 0 940 ++ xA 0 353) ++ xA 0 70) ++ xA 0 706) ++ xA 0 328) ++ xA 0 41) ++ xA 1 19) ++ xA 1 19) ++ xA 1 38) ++ xA 2 2) ++ xA 0 8) ++ xA 0 8) ++ xA 0 64) ++ xA 0 512) ++ xA 0 6)), fun i => a + i)] 15 3114 _ 125 [(0, .ref (a + 0))] [.ref (a + 15), .ref (a + 0)] [z_X12_init_14]
  refine a_putR (pc := 125) (kc := 15) (ks := 3114) (tl := ((((((((((((((xA 0 940 ++ xA 0 353) ++ xA 0 70) ++ xA 0 706) ++ xA 0 328) ++ xA 0 41) ++ xA 1 19) ++ xA 1 19) ++ xA 1 38) ++ xA 2 2) ++ xA 0 8) ++ xA 0 8) ++ xA 0 64) ++ xA 0 512) ++ xA 0 6)) (ci := 12) (kds := [0, 3, 0, 0, 0, 0, 0, 0, 0, 0, 0, 0, 1, 0, 4, 5, 6, 7, 8, 9, 10, 11, 12, 0, 0, 13, 14, 0, 15, 16, 2, 0, 0, 0, 0, 2, 0, 0, 2, 2, 0, 0, 2, 0, 0, 0, 0]) (o := 15) X hin fl_RX12_139 (fun _ _ _ h => by cases h; exact ⟨rfl, rfl⟩) rfl (by decide) rfl rfl dX12_init_125 ?_
  have X := x_re X (.inl (12, [0, 3, 0, 0, 0, 0, 0, 0, 0, 0, 0, 0, 1, 0, 4, 5, 6, 7, 8, 9, 10, 11, 12, 0, 0, 13, 14, 0, 15, 16, 17, 0, 0, 0, 0, 2, 0, 0, 2, 2, 0, 0, 2, 0, 0, 0, 0]) :: ((((((((((((((xA 0 940 ++ xA 0 353) ++ xA 0 70) ++ xA 0 706) ++ xA 0 328) ++ xA 0 41) ++ xA 1 19) ++ xA 1 19) ++ xA 1 38) ++ xA 2 2) ++ xA 0 8) ++ xA 0 8) ++ xA 0 64) ++ xA 0 512) ++ xA 0 6))
  show bW p l e _ s m args below meth c D tc (fun q => a ≤ q) 1 [((.inl (12, [0, 3, 0, 0, 0, 0, 0, 0, 0, 0, 0, 0, 1, 0, 4, 5, 6, 7, 8, 9, 10, 11, 12, 0, 0, 13, 14, 0, 15, 16, 17, 0, 0, 0, 0, 2, 0, 0, 2, 2, 0, 0, 2, 0, 0, 0, 0]) :: ((((((((((((((xA 0 940 ++ xA 0 353) ++ xA 0 70) ++ xA 0 706) ++ xA 0 328) ++ xA 0 41) ++ xA 1 19) ++ xA 1 19) ++ xA 1 38) ++ xA 2 2) ++ xA 0 8) ++ xA 0 8) ++ xA 0 64) ++ xA 0 512) ++ xA 0 6)), fun i => a + i)] 15 3114 _ 128 [(0, .ref (a + 0))] [] [z_X12_init_14]
  refine a_aload_n (pc := 128) X 0 dX12_init_128 rfl rfl ?_
  refine a_iconst (pc := 129) X dX12_init_129 q_ic_m1 ?_
  refine a_putI (pc := 130) (id := 0) (sh := (.inl (12, [0, 3, 0, 0, 0, 0, 0, 0, 0, 0, 0, 0, 1, 0, 4, 5, 6, 7, 8, 9, 10, 11, 12, 0, 0, 13, 14, 0, 15, 16, 17, 0, 0, 0, 0, 2, 0, 0, 2, 2, 0, 0, 2, 0, 0, 0, 0]) :: ((((((((((((((xA 0 940 ++ xA 0 353) ++ xA 0 70) ++ xA 0 706) ++ xA 0 328) ++ xA 0 41) ++ xA 1 19) ++ xA 1 19) ++ xA 1 38) ++ xA 2 2) ++ xA 0 8) ++ xA 0 8) ++ xA 0 64) ++ xA 0 512) ++ xA 0 6))) (ad := fun i => a + i) X 0 fl_RX12_142 rfl rfl rfl rfl dX12_init_130 ?_
  show bW p l e _ s m args below meth c D tc (fun q => a ≤ q) 1 [((.inl (12, [0, 3, 0, 0, 0, 0, 0, 0, 0, 0, 0, 0, 1, 0, 4, 5, 6, 7, 8, 9, 10, 11, 12, 0, 0, 13, 14, 0, 15, 16, 17, 0, 0, 0, 0, 2, 0, 0, 2, 2, 0, 0, 2, 0, 0, 0, 0]) :: ((((((((((((((xA 0 940 ++ xA 0 353) ++ xA 0 70) ++ xA 0 706) ++ xA 0 328) ++ xA 0 41) ++ xA 1 19) ++ xA 1 19) ++ xA 1 38) ++ xA 2 2) ++ xA 0 8) ++ xA 0 8) ++ xA 0 64) ++ xA 0 512) ++ xA 0 6)), fun i => a + i)] 15 3114 _ 133 [(0, .ref (a + 0))] [] [z_X12_init_15]
  refine a_aload_n (pc := 133) X 0 dX12_init_133 rfl rfl ?_
  refine a_iconst (pc := 134) X dX12_init_134 q_ic_m1 ?_
  refine a_putI (pc := 135) (id := 0) (sh := (.inl (12, [0, 3, 0, 0, 0, 0, 0, 0, 0, 0, 0, 0, 1, 0, 4, 5, 6, 7, 8, 9, 10, 11, 12, 0, 0, 13, 14, 0, 15, 16, 17, 0, 0, 0, 0, 2, 0, 0, 2, 2, 0, 0, 2, 0, 0, 0, 0]) :: ((((((((((((((xA 0 940 ++ xA 0 353) ++ xA 0 70) ++ xA 0 706) ++ xA 0 328) ++ xA 0 41) ++ xA 1 19) ++ xA 1 19) ++ xA 1 38) ++ xA 2 2) ++ xA 0 8) ++ xA 0 8) ++ xA 0 64) ++ xA 0 512) ++ xA 0 6))) (ad := fun i => a + i) X 0 fl_RX12_145 rfl rfl rfl rfl dX12_init_135 ?_
  show bW p l e _ s m args below meth c D tc (fun q => a ≤ q) 1 [((.inl (12, [0, 3, 0, 0, 0, 0, 0, 0, 0, 0, 0, 0, 1, 0, 4, 5, 6, 7, 8, 9, 10, 11, 12, 0, 0, 13, 14, 0, 15, 16, 17, 0, 0, 0, 0, 2, 0, 0, 2, 2, 0, 0, 2, 0, 0, 0, 0]) :: ((((((((((((((xA 0 940 ++ xA 0 353) ++ xA 0 70) ++ xA 0 706) ++ xA 0 328) ++ xA 0 41) ++ xA 1 19) ++ xA 1 19) ++ xA 1 38) ++ xA 2 2) ++ xA 0 8) ++ xA 0 8) ++ xA 0 64) ++ xA 0 512) ++ xA 0 6)), fun i => a + i)] 15 3114 _ 138 [(0, .ref (a + 0))] [] [z_X12_init_16]
  refine a_aload_n (pc := 138) X 0 dX12_init_138 rfl rfl ?_
  refine a_iconst (pc := 139) X dX12_init_139 q_ic_m1 ?_
  refine a_putI (pc := 140) (id := 0) (sh := (.inl (12, [0, 3, 0, 0, 0, 0, 0, 0, 0, 0, 0, 0, 1, 0, 4, 5, 6, 7, 8, 9, 10, 11, 12, 0, 0, 13, 14, 0, 15, 16, 17, 0, 0, 0, 0, 2, 0, 0, 2, 2, 0, 0, 2, 0, 0, 0, 0]) :: ((((((((((((((xA 0 940 ++ xA 0 353) ++ xA 0 70) ++ xA 0 706) ++ xA 0 328) ++ xA 0 41) ++ xA 1 19) ++ xA 1 19) ++ xA 1 38) ++ xA 2 2) ++ xA 0 8) ++ xA 0 8) ++ xA 0 64) ++ xA 0 512) ++ xA 0 6))) (ad := fun i => a + i) X 0 fl_RX12_148 rfl rfl rfl rfl dX12_init_140 ?_
  show bW p l e _ s m args below meth c D tc (fun q => a ≤ q) 1 [((.inl (12, [0, 3, 0, 0, 0, 0, 0, 0, 0, 0, 0, 0, 1, 0, 4, 5, 6, 7, 8, 9, 10, 11, 12, 0, 0, 13, 14, 0, 15, 16, 17, 0, 0, 0, 0, 2, 0, 0, 2, 2, 0, 0, 2, 0, 0, 0, 0]) :: ((((((((((((((xA 0 940 ++ xA 0 353) ++ xA 0 70) ++ xA 0 706) ++ xA 0 328) ++ xA 0 41) ++ xA 1 19) ++ xA 1 19) ++ xA 1 38) ++ xA 2 2) ++ xA 0 8) ++ xA 0 8) ++ xA 0 64) ++ xA 0 512) ++ xA 0 6)), fun i => a + i)] 15 3114 _ 143 [(0, .ref (a + 0))] [] [z_X12_init_17]
  refine a_aload_n (pc := 143) X 0 dX12_init_143 rfl rfl ?_
  refine a_bipush (pc := 144) X dX12_init_144 q_bp_64 ?_
  refine a_newarrI (pc := 146) (kc := 15) (ks := 3114) (cur := (.inl (12, [0, 3, 0, 0, 0, 0, 0, 0, 0, 0, 0, 0, 1, 0, 4, 5, 6, 7, 8, 9, 10, 11, 12, 0, 0, 13, 14, 0, 15, 16, 17, 0, 0, 0, 0, 2, 0, 0, 2, 2, 0, 0, 2, 0, 0, 0, 0]) :: ((((((((((((((xA 0 940 ++ xA 0 353) ++ xA 0 70) ++ xA 0 706) ++ xA 0 328) ++ xA 0 41) ++ xA 1 19) ++ xA 1 19) ++ xA 1 38) ++ xA 2 2) ++ xA 0 8) ++ xA 0 8) ++ xA 0 64) ++ xA 0 512) ++ xA 0 6))) (N := 64) X ha (by decide +kernel) (by decide) (by decide) ka_int dX12_init_146 (by decide) ⟨Nat.le_of_ble_eq_true rfl, Nat.le_of_ble_eq_true rfl⟩ ?_
  have X := x_re X (.inl (12, [0, 3, 0, 0, 0, 0, 0, 0, 0, 0, 0, 0, 1, 0, 4, 5, 6, 7, 8, 9, 10, 11, 12, 0, 0, 13, 14, 0, 15, 16, 17, 0, 0, 0, 0, 2, 0, 0, 2, 2, 0, 0, 2, 0, 0, 0, 0]) :: (((((((((((((((xA 0 940 ++ xA 0 353) ++ xA 0 70) ++ xA 0 706) ++ xA 0 328) ++ xA 0 41) ++ xA 1 19) ++ xA 1 19) ++ xA 1 38) ++ xA 2 2) ++ xA 0 8) ++ xA 0 8) ++ xA 0 64) ++ xA 0 512) ++ xA 0 6) ++ xA 0 64))
  show bW p l e _ s m args below meth c D tc (fun q => a ≤ q) 1 [((.inl (12, [0, 3, 0, 0, 0, 0, 0, 0, 0, 0, 0, 0, 1, 0, 4, 5, 6, 7, 8, 9, 10, 11, 12, 0, 0, 13, 14, 0, 15, 16, 17, 0, 0, 0, 0, 2, 0, 0, 2, 2, 0, 0, 2, 0, 0, 0, 0]) :: (((((((((((((((xA 0 940 ++ xA 0 353) ++ xA 0 70) ++ xA 0 706) ++ xA 0 328) ++ xA 0 41) ++ xA 1 19) ++ xA 1 19) ++ xA 1 38) ++ xA 2 2) ++ xA 0 8) ++ xA 0 8) ++ xA 0 64) ++ xA 0 512) ++ xA 0 6) ++ xA 0 64)), fun i => a + i)] 16 3178 _ 148 [(0, .ref (a + 0))] [.ref (a + 16), .ref (a + 0)] [z_X12_init_18]
  refine a_putR (pc := 148) (kc := 16) (ks := 3178) (tl := (((((((((((((((xA 0 940 ++ xA 0 353) ++ xA 0 70) ++ xA 0 706) ++ xA 0 328) ++ xA 0 41) ++ xA 1 19) ++ xA 1 19) ++ xA 1 38) ++ xA 2 2) ++ xA 0 8) ++ xA 0 8) ++ xA 0 64) ++ xA 0 512) ++ xA 0 6) ++ xA 0 64)) (ci := 12) (kds := [0, 3, 0, 0, 0, 0, 0, 0, 0, 0, 0, 0, 1, 0, 4, 5, 6, 7, 8, 9, 10, 11, 12, 0, 0, 13, 14, 0, 15, 16, 17, 0, 0, 0, 0, 2, 0, 0, 2, 2, 0, 0, 2, 0, 0, 0, 0]) (o := 16) X hin fl_RX12_151 (fun _ _ _ h => by cases h; exact ⟨rfl, rfl⟩) rfl (by decide) rfl rfl dX12_init_148 ?_
  have X := x_re X (.inl (12, [0, 3, 0, 0, 0, 0, 0, 0, 0, 0, 0, 0, 1, 0, 4, 5, 6, 7, 8, 9, 10, 11, 12, 0, 0, 13, 14, 0, 15, 16, 17, 0, 0, 0, 0, 18, 0, 0, 2, 2, 0, 0, 2, 0, 0, 0, 0]) :: (((((((((((((((xA 0 940 ++ xA 0 353) ++ xA 0 70) ++ xA 0 706) ++ xA 0 328) ++ xA 0 41) ++ xA 1 19) ++ xA 1 19) ++ xA 1 38) ++ xA 2 2) ++ xA 0 8) ++ xA 0 8) ++ xA 0 64) ++ xA 0 512) ++ xA 0 6) ++ xA 0 64))
  show bW p l e _ s m args below meth c D tc (fun q => a ≤ q) 1 [((.inl (12, [0, 3, 0, 0, 0, 0, 0, 0, 0, 0, 0, 0, 1, 0, 4, 5, 6, 7, 8, 9, 10, 11, 12, 0, 0, 13, 14, 0, 15, 16, 17, 0, 0, 0, 0, 18, 0, 0, 2, 2, 0, 0, 2, 0, 0, 0, 0]) :: (((((((((((((((xA 0 940 ++ xA 0 353) ++ xA 0 70) ++ xA 0 706) ++ xA 0 328) ++ xA 0 41) ++ xA 1 19) ++ xA 1 19) ++ xA 1 38) ++ xA 2 2) ++ xA 0 8) ++ xA 0 8) ++ xA 0 64) ++ xA 0 512) ++ xA 0 6) ++ xA 0 64)), fun i => a + i)] 16 3178 _ 151 [(0, .ref (a + 0))] [] [z_X12_init_18]
  refine a_aload_n (pc := 151) X 0 dX12_init_151 rfl rfl ?_
  refine a_bipush (pc := 152) X dX12_init_152 q_bp_120 ?_
  refine a_newarrI (pc := 154) (kc := 16) (ks := 3178) (cur := (.inl (12, [0, 3, 0, 0, 0, 0, 0, 0, 0, 0, 0, 0, 1, 0, 4, 5, 6, 7, 8, 9, 10, 11, 12, 0, 0, 13, 14, 0, 15, 16, 17, 0, 0, 0, 0, 18, 0, 0, 2, 2, 0, 0, 2, 0, 0, 0, 0]) :: (((((((((((((((xA 0 940 ++ xA 0 353) ++ xA 0 70) ++ xA 0 706) ++ xA 0 328) ++ xA 0 41) ++ xA 1 19) ++ xA 1 19) ++ xA 1 38) ++ xA 2 2) ++ xA 0 8) ++ xA 0 8) ++ xA 0 64) ++ xA 0 512) ++ xA 0 6) ++ xA 0 64))) (N := 120) X ha (by decide +kernel) (by decide) (by decide) ka_int dX12_init_154 (by decide) ⟨Nat.le_of_ble_eq_true rfl, Nat.le_of_ble_eq_true rfl⟩ ?_
  have X := x_re X (.inl (12, [0, 3, 0, 0, 0, 0, 0, 0, 0, 0, 0, 0, 1, 0, 4, 5, 6, 7, 8, 9, 10, 11, 12, 0, 0, 13, 14, 0, 15, 16, 17, 0, 0, 0, 0, 18, 0, 0, 2, 2, 0, 0, 2, 0, 0, 0, 0]) :: ((((((((((((((((xA 0 940 ++ xA 0 353) ++ xA 0 70) ++ xA 0 706) ++ xA 0 328) ++ xA 0 41) ++ xA 1 19) ++ xA 1 19) ++ xA 1 38) ++ xA 2 2) ++ xA 0 8) ++ xA 0 8) ++ xA 0 64) ++ xA 0 512) ++ xA 0 6) ++ xA 0 64) ++ xA 0 120))
  show bW p l e _ s m args below meth c D tc (fun q => a ≤ q) 1 [((.inl (12, [0, 3, 0, 0, 0, 0, 0, 0, 0, 0, 0, 0, 1, 0, 4, 5, 6, 7, 8, 9, 10, 11, 12, 0, 0, 13, 14, 0, 15, 16, 17, 0, 0, 0, 0, 18, 0, 0, 2, 2, 0, 0, 2, 0, 0, 0, 0]) :: ((((((((((((((((xA 0 940 ++ xA 0 353) ++ xA 0 70) ++ xA 0 706) ++ xA 0 328) ++ xA 0 41) ++ xA 1 19) ++ xA 1 19) ++ xA 1 38) ++ xA 2 2) ++ xA 0 8) ++ xA 0 8) ++ xA 0 64) ++ xA 0 512) ++ xA 0 6) ++ xA 0 64) ++ xA 0 120)), fun i => a + i)] 17 3298 _ 156 [(0, .ref (a + 0))] [.ref (a + 17), .ref (a + 0)] [z_X12_init_19]
  refine a_putR (pc := 156) (kc := 17) (ks := 3298) (tl := ((((((((((((((((xA 0 940 ++ xA 0 353) ++ xA 0 70) ++ xA 0 706) ++ xA 0 328) ++ xA 0 41) ++ xA 1 19) ++ xA 1 19) ++ xA 1 38) ++ xA 2 2) ++ xA 0 8) ++ xA 0 8) ++ xA 0 64) ++ xA 0 512) ++ xA 0 6) ++ xA 0 64) ++ xA 0 120)) (ci := 12) (kds := [0, 3, 0, 0, 0, 0, 0, 0, 0, 0, 0, 0, 1, 0, 4, 5, 6, 7, 8, 9, 10, 11, 12, 0, 0, 13, 14, 0, 15, 16, 17, 0, 0, 0, 0, 18, 0, 0, 2, 2, 0, 0, 2, 0, 0, 0, 0]) (o := 17) X hin fl_RX12_154 (fun _ _ _ h => by cases h; exact ⟨rfl, rfl⟩) rfl (by decide) rfl rfl dX12_init_156 ?_
  have X := x_re X (.inl (12, [0, 3, 0, 0, 0, 0, 0, 0, 0, 0, 0, 0, 1, 0, 4, 5, 6, 7, 8, 9, 10, 11, 12, 0, 0, 13, 14, 0, 15, 16, 17, 0, 0, 0, 0, 18, 0, 0, 19, 2, 0, 0, 2, 0, 0, 0, 0]) :: ((((((((((((((((xA 0 940 ++ xA 0 353) ++ xA 0 70) ++ xA 0 706) ++ xA 0 328) ++ xA 0 41) ++ xA 1 19) ++ xA 1 19) ++ xA 1 38) ++ xA 2 2) ++ xA 0 8) ++ xA 0 8) ++ xA 0 64) ++ xA 0 512) ++ xA 0 6) ++ xA 0 64) ++ xA 0 120))
  show bW p l e _ s m args below meth c D tc (fun q => a ≤ q) 1 [((.inl (12, [0, 3, 0, 0, 0, 0, 0, 0, 0, 0, 0, 0, 1, 0, 4, 5, 6, 7, 8, 9, 10, 11, 12, 0, 0, 13, 14, 0, 15, 16, 17, 0, 0, 0, 0, 18, 0, 0, 19, 2, 0, 0, 2, 0, 0, 0, 0]) :: ((((((((((((((((xA 0 940 ++ xA 0 353) ++ xA 0 70) ++ xA 0 706) ++ xA 0 328) ++ xA 0 41) ++ xA 1 19) ++ xA 1 19) ++ xA 1 38) ++ xA 2 2) ++ xA 0 8) ++ xA 0 8) ++ xA 0 64) ++ xA 0 512) ++ xA 0 6) ++ xA 0 64) ++ xA 0 120)), fun i => a + i)] 17 3298 _ 159 [(0, .ref (a + 0))] [] [z_X12_init_19]
  refine a_aload_n (pc := 159) X 0 dX12_init_159 rfl rfl ?_
  refine a_iconst (pc := 160) X dX12_init_160 q_ic_4 ?_
  refine a_newarrI (pc := 161) (kc := 17) (ks := 3298) (cur := (.inl (12, [0, 3, 0, 0, 0, 0, 0, 0, 0, 0, 0, 0, 1, 0, 4, 5, 6, 7, 8, 9, 10, 11, 12, 0, 0, 13, 14, 0, 15, 16, 17, 0, 0, 0, 0, 18, 0, 0, 19, 2, 0, 0, 2, 0, 0, 0, 0]) :: ((((((((((((((((xA 0 940 ++ xA 0 353) ++ xA 0 70) ++ xA 0 706) ++ xA 0 328) ++ xA 0 41) ++ xA 1 19) ++ xA 1 19) ++ xA 1 38) ++ xA 2 2) ++ xA 0 8) ++ xA 0 8) ++ xA 0 64) ++ xA 0 512) ++ xA 0 6) ++ xA 0 64) ++ xA 0 120))) (N := 4) X ha (by decide +kernel) (by decide) (by decide) ka_int dX12_init_161 (by decide) ⟨Nat.le_of_ble_eq_true rfl, Nat.le_of_ble_eq_true rfl⟩ ?_
  have X := x_re X (.inl (12, [0, 3, 0, 0, 0, 0, 0, 0, 0, 0, 0, 0, 1, 0, 4, 5, 6, 7, 8, 9, 10, 11, 12, 0, 0, 13, 14, 0, 15, 16, 17, 0, 0, 0, 0, 18, 0, 0, 19, 2, 0, 0, 2, 0, 0, 0, 0]) :: (((((((((((((((((xA 0 940 ++ xA 0 353) ++ xA 0 70) ++ xA 0 706) ++ xA 0 328) ++ xA 0 41) ++ xA 1 19) ++ xA 1 19) ++ xA 1 38) ++ xA 2 2) ++ xA 0 8) ++ xA 0 8) ++ xA 0 64) ++ xA 0 512) ++ xA 0 6) ++ xA 0 64) ++ xA 0 120) ++ xA 0 4))
  show bW p l e _ s m args below meth c D tc (fun q => a ≤ q) 1 [((.inl (12, [0, 3, 0, 0, 0, 0, 0, 0, 0, 0, 0, 0, 1, 0, 4, 5, 6, 7, 8, 9, 10, 11, 12, 0, 0, 13, 14, 0, 15, 16, 17, 0, 0, 0, 0, 18, 0, 0, 19, 2, 0, 0, 2, 0, 0, 0, 0]) :: (((((((((((((((((xA 0 940 ++ xA 0 353) ++ xA 0 70) ++ xA 0 706) ++ xA 0 328) ++ xA 0 41) ++ xA 1 19) ++ xA 1 19) ++ xA 1 38) ++ xA 2 2) ++ xA 0 8) ++ xA 0 8) ++ xA 0 64) ++ xA 0 512) ++ xA 0 6) ++ xA 0 64) ++ xA 0 120) ++ xA 0 4)), fun i => a + i)] 18 3302 _ 163 [(0, .ref (a + 0))] [.ref (a + 18), .ref (a + 0)] [z_X12_init_20]
  refine a_putR (pc := 163) (kc := 18) (ks := 3302) (tl := (((((((((((((((((xA 0 940 ++ xA 0 353) ++ xA 0 70) ++ xA 0 706) ++ xA 0 328) ++ xA 0 41) ++ xA 1 19) ++ xA 1 19) ++ xA 1 38) ++ xA 2 2) ++ xA 0 8) ++ xA 0 8) ++ xA 0 64) ++ xA 0 512) ++ xA 0 6) ++ xA 0 64) ++ xA 0 120) ++ xA 0 4)) (ci := 12) (kds := [0, 3, 0, 0, 0, 0, 0, 0, 0, 0, 0, 0, 1, 0, 4, 5, 6, 7, 8, 9, 10, 11, 12, 0, 0, 13, 14, 0, 15, 16, 17, 0, 0, 0, 0, 18, 0, 0, 19, 2, 0, 0, 2, 0, 0, 0, 0]) (o := 18) X hin fl_RX12_157 (fun _ _ _ h => by cases h; exact ⟨rfl, rfl⟩) rfl (by decide) rfl rfl dX12_init_163 ?_
  have X := x_re X (.inl (12, [0, 3, 0, 0, 0, 0, 0, 0, 0, 0, 0, 0, 1, 0, 4, 5, 6, 7, 8, 9, 10, 11, 12, 0, 0, 13, 14, 0, 15, 16, 17, 0, 0, 0, 0, 18, 0, 0, 19, 20, 0, 0, 2, 0, 0, 0, 0]) :: (((((((((((((((((xA 0 940 ++ xA 0 353) ++ xA 0 70) ++ xA 0 706) ++ xA 0 328) ++ xA 0 41) ++ xA 1 19) ++ xA 1 19) ++ xA 1 38) ++ xA 2 2) ++ xA 0 8) ++ xA 0 8) ++ xA 0 64) ++ xA 0 512) ++ xA 0 6) ++ xA 0 64) ++ xA 0 120) ++ xA 0 4))
  show bW p l e _ s m args below meth c D tc (fun q => a ≤ q) 1 [((.inl (12, [0, 3, 0, 0, 0, 0, 0, 0, 0, 0, 0, 0, 1, 0, 4, 5, 6, 7, 8, 9, 10, 11, 12, 0, 0, 13, 14, 0, 15, 16, 17, 0, 0, 0, 0, 18, 0, 0, 19, 20, 0, 0, 2, 0, 0, 0, 0]) :: (((((((((((((((((xA 0 940 ++ xA 0 353) ++ xA 0 70) ++ xA 0 706) ++ xA 0 328) ++ xA 0 41) ++ xA 1 19) ++ xA 1 19) ++ xA 1 38) ++ xA 2 2) ++ xA 0 8) ++ xA 0 8) ++ xA 0 64) ++ xA 0 512) ++ xA 0 6) ++ xA 0 64) ++ xA 0 120) ++ xA 0 4)), fun i => a + i)] 18 3302 _ 166 [(0, .ref (a + 0))] [] [z_X12_init_20]
  refine a_aload_n (pc := 166) X 0 dX12_init_166 rfl rfl ?_
  refine a_sipush (pc := 167) X dX12_init_167 q_sp_240 ?_
  refine a_newarrI (pc := 170) (kc := 18) (ks := 3302) (cur := (.inl (12, [0, 3, 0, 0, 0, 0, 0, 0, 0, 0, 0, 0, 1, 0, 4, 5, 6, 7, 8, 9, 10, 11, 12, 0, 0, 13, 14, 0, 15, 16, 17, 0, 0, 0, 0, 18, 0, 0, 19, 20, 0, 0, 2, 0, 0, 0, 0]) :: (((((((((((((((((xA 0 940 ++ xA 0 353) ++ xA 0 70) ++ xA 0 706) ++ xA 0 328) ++ xA 0 41) ++ xA 1 19) ++ xA 1 19) ++ xA 1 38) ++ xA 2 2) ++ xA 0 8) ++ xA 0 8) ++ xA 0 64) ++ xA 0 512) ++ xA 0 6) ++ xA 0 64) ++ xA 0 120) ++ xA 0 4))) (N := 240) X ha (by decide +kernel) (by decide) (by decide) ka_int dX12_init_170 (by decide) ⟨Nat.le_of_ble_eq_true rfl, Nat.le_of_ble_eq_true rfl⟩ ?_
  have X := x_re X (.inl (12, [0, 3, 0, 0, 0, 0, 0, 0, 0, 0, 0, 0, 1, 0, 4, 5, 6, 7, 8, 9, 10, 11, 12, 0, 0, 13, 14, 0, 15, 16, 17, 0, 0, 0, 0, 18, 0, 0, 19, 20, 0, 0, 2, 0, 0, 0, 0]) :: ((((((((((((((((((xA 0 940 ++ xA 0 353) ++ xA 0 70) ++ xA 0 706) ++ xA 0 328) ++ xA 0 41) ++ xA 1 19) ++ xA 1 19) ++ xA 1 38) ++ xA 2 2) ++ xA 0 8) ++ xA 0 8) ++ xA 0 64) ++ xA 0 512) ++ xA 0 6) ++ xA 0 64) ++ xA 0 120) ++ xA 0 4) ++ xA 0 240))
  show bW p l e _ s m args below meth c D tc (fun q => a ≤ q) 1 [((.inl (12, [0, 3, 0, 0, 0, 0, 0, 0, 0, 0, 0, 0, 1, 0, 4, 5, 6, 7, 8, 9, 10, 11, 12, 0, 0, 13, 14, 0, 15, 16, 17, 0, 0, 0, 0, 18, 0, 0, 19, 20, 0, 0, 2, 0, 0, 0, 0]) :: ((((((((((((((((((xA 0 940 ++ xA 0 353) ++ xA 0 70) ++ xA 0 706) ++ xA 0 328) ++ xA 0 41) ++ xA 1 19) ++ xA 1 19) ++ xA 1 38) ++ xA 2 2) ++ xA 0 8) ++ xA 0 8) ++ xA 0 64) ++ xA 0 512) ++ xA 0 6) ++ xA 0 64) ++ xA 0 120) ++ xA 0 4) ++ xA 0 240)), fun i => a + i)] 19 3542 _ 172 [(0, .ref (a + 0))] [.ref (a + 19), .ref (a + 0)] [z_X12_init_21]
  refine a_putR (pc := 172) (kc := 19) (ks := 3542) (tl := ((((((((((((((((((xA 0 940 ++ xA 0 353) ++ xA 0 70) ++ xA 0 706) ++ xA 0 328) ++ xA 0 41) ++ xA 1 19) ++ xA 1 19) ++ xA 1 38) ++ xA 2 2) ++ xA 0 8) ++ xA 0 8) ++ xA 0 64) ++ xA 0 512) ++ xA 0 6) ++ xA 0 64) ++ xA 0 120) ++ xA 0 4) ++ xA 0 240)) (ci := 12) (kds := [0, 3, 0, 0, 0, 0, 0, 0, 0, 0, 0, 0, 1, 0, 4, 5, 6, 7, 8, 9, 10, 11, 12, 0, 0, 13, 14, 0, 15, 16, 17, 0, 0, 0, 0, 18, 0, 0, 19, 20, 0, 0, 2, 0, 0, 0, 0]) (o := 19) X hin fl_RX12_160 (fun _ _ _ h => by cases h; exact ⟨rfl, rfl⟩) rfl (by decide) rfl rfl dX12_init_172 ?_
  have X := x_re X (.inl (12, [0, 3, 0, 0, 0, 0, 0, 0, 0, 0, 0, 0, 1, 0, 4, 5, 6, 7, 8, 9, 10, 11, 12, 0, 0, 13, 14, 0, 15, 16, 17, 0, 0, 0, 0, 18, 0, 0, 19, 20, 0, 0, 21, 0, 0, 0, 0]) :: ((((((((((((((((((xA 0 940 ++ xA 0 353) ++ xA 0 70) ++ xA 0 706) ++ xA 0 328) ++ xA 0 41) ++ xA 1 19) ++ xA 1 19) ++ xA 1 38) ++ xA 2 2) ++ xA 0 8) ++ xA 0 8) ++ xA 0 64) ++ xA 0 512) ++ xA 0 6) ++ xA 0 64) ++ xA 0 120) ++ xA 0 4) ++ xA 0 240))
  show bW p l e _ s m args below meth c D tc (fun q => a ≤ q) 1 [((.inl (12, [0, 3, 0, 0, 0, 0, 0, 0, 0, 0, 0, 0, 1, 0, 4, 5, 6, 7, 8, 9, 10, 11, 12, 0, 0, 13, 14, 0, 15, 16, 17, 0, 0, 0, 0, 18, 0, 0, 19, 20, 0, 0, 21, 0, 0, 0, 0]) :: ((((((((((((((((((xA 0 940 ++ xA 0 353) ++ xA 0 70) ++ xA 0 706) ++ xA 0 328) ++ xA 0 41) ++ xA 1 19) ++ xA 1 19) ++ xA 1 38) ++ xA 2 2) ++ xA 0 8) ++ xA 0 8) ++ xA 0 64) ++ xA 0 512) ++ xA 0 6) ++ xA 0 64) ++ xA 0 120) ++ xA 0 4) ++ xA 0 240)), fun i => a + i)] 19 3542 _ 175 [(0, .ref (a + 0))] [] [z_X12_init_21]
  have X := x_re X shModel
  exact ct_X12_init (ad0 := fun i => a + i) X hz_X12_init
