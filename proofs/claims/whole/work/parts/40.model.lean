-- model: functional forms and contracts, written by wip/whole/gen.py out of the bytecode.
theorem dX12_thrown_0 : decode cX12_thrown 0 = .ok (.aload_n 0, 1) := by decide +kernel
theorem dX12_thrown_1 : decode cX12_thrown 1 = .ok (.getfield 1, 3) := by decide +kernel
theorem dX12_thrown_4 : decode cX12_thrown 4 = .ok (.ireturn, 1) := by decide +kernel
def f_X12_thrown (v0 : XM) : Int32 :=
  (v0.1 0 0 : Int32)
set_option maxRecDepth 100000 in
set_option maxHeartbeats 4000000 in
theorem c_X12_thrown {l : Launch}  {ad0 : Nat → Nat} {v0 : XM}   {o : Int32} (h : f_X12_thrown v0 = o) : CT l yX12_thrown cX12_thrown 1 (some .int) 0 [(shModel, ad0)] [v0] (fun aK => [.ref (ad0 0)]) (some (.int o)) True [v0] := by
  refine CT_of (by decide) (fun _ => Nat.le_of_ble_eq_true rfl) ?_
  intro p e s m args below meth c D tc aK aV A X
  have X : Cx p s m args meth c cX12_thrown 1 (some .int) RX12 D tc aK aV A [(shModel, ad0)] := X
  show aW p l e (x_Rm 0) s m args below meth c D tc A 1 [(shModel, ad0)] (some (.int o)) True [v0] 0 [(0, .ref (ad0 0))] [] [v0]
  unfold f_X12_thrown at h
  refine a_aload_n (pc := 0) X 0 dX12_thrown_0 rfl rfl ?_
  refine a_getI (pc := 1) X 0 fl_RX12_1 rfl rfl rfl rfl dX12_thrown_1 ?_
  subst h
  exact a_iret (pc := 4) X trivial dX12_thrown_4
theorem dX12_refuse_0 : decode cX12_refuse 0 = .ok (.aload_n 0, 1) := by decide +kernel
theorem dX12_refuse_1 : decode cX12_refuse 1 = .ok (.iconst 1, 1) := by decide +kernel
theorem dX12_refuse_2 : decode cX12_refuse 2 = .ok (.putfield 1, 3) := by decide +kernel
theorem dX12_refuse_5 : decode cX12_refuse 5 = .ok (.iconst 0, 1) := by decide +kernel
theorem dX12_refuse_6 : decode cX12_refuse 6 = .ok (.ireturn, 1) := by decide +kernel
def f_X12_refuse (v0 : XM) : Int32 × XM :=
  x_lt (x_si v0 0 0 (1 : Int32)) (fun m1 =>
  ((0 : Int32), m1))
set_option maxRecDepth 100000 in
set_option maxHeartbeats 4000000 in
theorem c_X12_refuse {l : Launch}  {ad0 : Nat → Nat} {v0 : XM}   {o : Int32 × XM} (h : f_X12_refuse v0 = o) : CT l yX12_refuse cX12_refuse 1 (some .int) 0 [(shModel, ad0)] [v0] (fun aK => [.ref (ad0 0)]) (some (.int o.1)) True [o.2] := by
  refine CT_of (by decide) (fun _ => Nat.le_of_ble_eq_true rfl) ?_
  intro p e s m args below meth c D tc aK aV A X
  have X : Cx p s m args meth c cX12_refuse 1 (some .int) RX12 D tc aK aV A [(shModel, ad0)] := X
  show aW p l e (x_Rm 0) s m args below meth c D tc A 1 [(shModel, ad0)] (some (.int o.1)) True [o.2] 0 [(0, .ref (ad0 0))] [] [v0]
  unfold f_X12_refuse at h
  refine a_aload_n (pc := 0) X 0 dX12_refuse_0 rfl rfl ?_
  refine a_iconst (pc := 1) X dX12_refuse_1 q_ic_1 ?_
  refine a_putI (pc := 2) X 0 fl_RX12_1 rfl rfl rfl rfl dX12_refuse_2 ?_
  obtain ⟨m1, e_m1, h⟩ := x_lt_elim h
  refine a_nm (vs2 := [m1]) (congrArg (fun q : XM => [q]) e_m1) ?_
  refine a_iconst (pc := 5) X dX12_refuse_5 q_ic_0 ?_
  subst h
  exact a_iret (pc := 6) X trivial dX12_refuse_6
theorem dX12_come_0 : decode cX12_come 0 = .ok (.bipush 24, 2) := by decide +kernel
theorem dX12_come_2 : decode cX12_come 2 = .ok (.istore_n 2, 1) := by decide +kernel
theorem dX12_come_3 : decode cX12_come 3 = .ok (.iload_n 2, 1) := by decide +kernel
theorem dX12_come_4 : decode cX12_come 4 = .ok (.ifCond .lt 35, 3) := by decide +kernel
theorem dX12_come_7 : decode cX12_come 7 = .ok (.aload_n 0, 1) := by decide +kernel
theorem dX12_come_8 : decode cX12_come 8 = .ok (.getfield 7, 3) := by decide +kernel
theorem dX12_come_11 : decode cX12_come 11 = .ok (.aload_n 0, 1) := by decide +kernel
theorem dX12_come_12 : decode cX12_come 12 = .ok (.getfield 11, 3) := by decide +kernel
theorem dX12_come_15 : decode cX12_come 15 = .ok (.iload_n 1, 1) := by decide +kernel
theorem dX12_come_16 : decode cX12_come 16 = .ok (.iload_n 2, 1) := by decide +kernel
theorem dX12_come_17 : decode cX12_come 17 = .ok (.iushr, 1) := by decide +kernel
theorem dX12_come_18 : decode cX12_come 18 = .ok (.sipush 255, 3) := by decide +kernel
theorem dX12_come_21 : decode cX12_come 21 = .ok (.iand, 1) := by decide +kernel
theorem dX12_come_22 : decode cX12_come 22 = .ok (.iastore, 1) := by decide +kernel
theorem dX12_come_23 : decode cX12_come 23 = .ok (.aload_n 0, 1) := by decide +kernel
theorem dX12_come_24 : decode cX12_come 24 = .ok (.dup, 1) := by decide +kernel
theorem dX12_come_25 : decode cX12_come 25 = .ok (.getfield 11, 3) := by decide +kernel
theorem dX12_come_28 : decode cX12_come 28 = .ok (.iconst 1, 1) := by decide +kernel
theorem dX12_come_29 : decode cX12_come 29 = .ok (.iadd, 1) := by decide +kernel
theorem dX12_come_30 : decode cX12_come 30 = .ok (.putfield 11, 3) := by decide +kernel
theorem dX12_come_33 : decode cX12_come 33 = .ok (.iinc 2 (-8), 3) := by decide +kernel
theorem dX12_come_36 : decode cX12_come 36 = .ok (.goto (-33), 3) := by decide +kernel
theorem dX12_come_39 : decode cX12_come 39 = .ok (.return_, 1) := by decide +kernel
def f_X12_come_3 (k3 : XM → Int32 → Int32 → Option (XM)) (w0 : XM) (l1 : Int32) (l2 : Int32) : Option (XM) :=
  if l2 < (0 : Int32) then
  (some w0)
  else (x_lt (((l1 : Int32).toUInt32 >>> ((l2 : Int32).toUInt32 &&& Int32.toUInt32 31)).toInt32) (fun y1 =>
  x_ck (w0.1 0 2) 940 (
  x_lt (x_pa w0 1 (w0.1 0 2) (y1 &&& (255 : Int32))) (fun m2 =>
  x_lt (x_si m2 0 2 ((m2.1 0 2) + (1 : Int32))) (fun m3 =>
  k3 m3 l1 (l2 + (-8)))))))
def f_X12_come (v0 : XM) (x0 : Int32) : Option (XM) :=
  x_lp (φ := XM → Int32 → Int32 → Option (XM)) (fun _ _ _ => none) (f_X12_come_3  ) x_NN v0 x0 (24 : Int32)
set_option maxRecDepth 100000 in
set_option maxHeartbeats 4000000 in
theorem w_X12_come_3 {p : Program} {l : Launch} {e : Env} {s : State} {m : MethodId} {args : Array Value} {below : List Frame} {meth : Method} {c : Code} {D : va_G} {tc : Nat → ClassId} {aK aV : Nat → Nat} {A : Nat → Prop} {ad0 : Nat → Nat}  (X : Cx p s m args meth c cX12_come 3 none RX12 D tc aK aV A [(shModel, ad0)])  {o : XM}  : ∀ (n : Nat), ∀ (w0 : XM) (l1 : Int32) (l2 : Int32), x_lp (φ := XM → Int32 → Int32 → Option (XM)) (fun _ _ _ => none) (f_X12_come_3  ) n w0 l1 l2 = some o → aW p l e (x_Rm 0) s m args below meth c D tc A 3 [(shModel, ad0)] none True [o] 3 [(0, .ref (ad0 0)), (1, .int l1), (2, .int l2)] [] [w0] := by
  intro n
  induction n with
  | zero => intro w0 l1 l2 h; exact absurd h (fun q => by cases q)
  | succ n ih =>
    intro w0 l1 l2 h
    have h : f_X12_come_3   (x_lp (φ := XM → Int32 → Int32 → Option (XM)) (fun _ _ _ => none) (f_X12_come_3  ) n) w0 l1 l2 = some o := h
    generalize x_lp (φ := XM → Int32 → Int32 → Option (XM)) (fun _ _ _ => none) (f_X12_come_3  ) n = k3 at h ih
    have hk3 := ih
    unfold f_X12_come_3 at h
    refine a_iload_n (pc := 3) X 2 dX12_come_3 rfl rfl ?_
    refine a_if_lt (pc := 4) X 39 dX12_come_4 rfl (fun c_4 => ?_) (fun c_4 => ?_)
    · have h := x_ifp c_4 h
      have h := Option.some.inj h; subst h
      exact a_vret (pc := 39) X trivial dX12_come_39
    · have h := x_ifn c_4 h
      refine a_aload_n (pc := 7) X 0 dX12_come_7 rfl rfl ?_
      refine a_getR (pc := 8) X 0 1 1 fl_RX12_7 rfl rfl rfl rfl rfl dX12_come_8 ?_
      refine a_aload_n (pc := 11) X 0 dX12_come_11 rfl rfl ?_
      refine a_getI (pc := 12) X 0 fl_RX12_11 rfl rfl rfl rfl dX12_come_12 ?_
      refine a_iload_n (pc := 15) X 1 dX12_come_15 rfl rfl ?_
      refine a_iload_n (pc := 16) X 2 dX12_come_16 rfl rfl ?_
      refine a_iushr (pc := 17) X dX12_come_17 ?_
      obtain ⟨y1, e_y1, h⟩ := x_lt_elim h
      refine a_ni e_y1 ?_
      refine a_sipush (pc := 18) X dX12_come_18 q_sp_255 ?_
      refine a_iand (pc := 21) X dX12_come_21 ?_
      obtain ⟨c_22, h⟩ := x_ck_elim h
      refine a_iast (pc := 22) X 0 rfl rfl rfl c_22 dX12_come_22 ?_
      obtain ⟨m2, e_m2, h⟩ := x_lt_elim h
      refine a_nm (vs2 := [m2]) (congrArg (fun q : XM => [q]) e_m2) ?_
      refine a_aload_n (pc := 23) X 0 dX12_come_23 rfl rfl ?_
      refine a_dup (pc := 24) X dX12_come_24 rfl ?_
      refine a_getI (pc := 25) X 0 fl_RX12_11 rfl rfl rfl rfl dX12_come_25 ?_
      refine a_iconst (pc := 28) X dX12_come_28 q_ic_1 ?_
      refine a_iadd (pc := 29) X dX12_come_29 ?_
      refine a_putI (pc := 30) X 0 fl_RX12_11 rfl rfl rfl rfl dX12_come_30 ?_
      obtain ⟨m3, e_m3, h⟩ := x_lt_elim h
      refine a_nm (vs2 := [m3]) (congrArg (fun q : XM => [q]) e_m3) ?_
      refine a_iinc (pc := 33) X 2 [(2, .int (l2 + (-8))), (0, .ref (ad0 0)), (1, .int l1)] dX12_come_33 rfl (congrArg (HAdd.hAdd l2) q_ic_m8) (by decide) rfl ?_
      refine a_goto (pc := 36) X 3 dX12_come_36 rfl ?_
      refine a_sub [1, 2, 0] rfl ?_
      exact hk3 _ _ _ h
set_option maxRecDepth 100000 in
set_option maxHeartbeats 4000000 in
theorem c_X12_come {l : Launch}  {ad0 : Nat → Nat} {v0 : XM} {x0 : Int32}  {o : XM} (h : f_X12_come v0 x0 = some o) : CT l yX12_come cX12_come 3 none 0 [(shModel, ad0)] [v0] (fun aK => [.ref (ad0 0), .int x0]) none True [o] := by
  refine CT_of (by decide) (fun _ => Nat.le_of_ble_eq_true rfl) ?_
  intro p e s m args below meth c D tc aK aV A X
  have X : Cx p s m args meth c cX12_come 3 none RX12 D tc aK aV A [(shModel, ad0)] := X
  show aW p l e (x_Rm 0) s m args below meth c D tc A 3 [(shModel, ad0)] none True [o] 0 [(0, .ref (ad0 0)), (1, .int x0)] [] [v0]
  unfold f_X12_come at h
  refine a_bipush (pc := 0) X dX12_come_0 q_bp_24 ?_
  refine a_istore_n (pc := 2) X [(2, .int (24 : Int32)), (0, .ref (ad0 0)), (1, .int x0)] dX12_come_2 rfl (by decide) rfl ?_
  refine a_sub [1, 2, 0] rfl ?_
  exact w_X12_come_3 X    x_NN _ _ _ h
theorem dX12_feed_0 : decode cX12_feed 0 = .ok (.aload_n 0, 1) := by decide +kernel
theorem dX12_feed_1 : decode cX12_feed 1 = .ok (.iconst 0, 1) := by decide +kernel
theorem dX12_feed_2 : decode cX12_feed 2 = .ok (.putfield 1, 3) := by decide +kernel
theorem dX12_feed_5 : decode cX12_feed 5 = .ok (.aload_n 0, 1) := by decide +kernel
theorem dX12_feed_6 : decode cX12_feed 6 = .ok (.getfield 11, 3) := by decide +kernel
theorem dX12_feed_9 : decode cX12_feed 9 = .ok (.bipush 20, 2) := by decide +kernel
theorem dX12_feed_11 : decode cX12_feed 11 = .ok (.iadd, 1) := by decide +kernel
theorem dX12_feed_12 : decode cX12_feed 12 = .ok (.sipush 940, 3) := by decide +kernel
theorem dX12_feed_15 : decode cX12_feed 15 = .ok (.if_icmp .le 5, 3) := by decide +kernel
theorem dX12_feed_18 : decode cX12_feed 18 = .ok (.iconst (-1), 1) := by decide +kernel
theorem dX12_feed_19 : decode cX12_feed 19 = .ok (.ireturn, 1) := by decide +kernel
theorem dX12_feed_20 : decode cX12_feed 20 = .ok (.aload_n 0, 1) := by decide +kernel
theorem dX12_feed_21 : decode cX12_feed 21 = .ok (.iload_n 1, 1) := by decide +kernel
theorem dX12_feed_22 : decode cX12_feed 22 = .ok (.invokevirtual 14, 3) := by decide +kernel
theorem dX12_feed_25 : decode cX12_feed 25 = .ok (.aload_n 0, 1) := by decide +kernel
theorem dX12_feed_26 : decode cX12_feed 26 = .ok (.iload_n 2, 1) := by decide +kernel
theorem dX12_feed_27 : decode cX12_feed 27 = .ok (.invokevirtual 14, 3) := by decide +kernel
theorem dX12_feed_30 : decode cX12_feed 30 = .ok (.aload_n 0, 1) := by decide +kernel
theorem dX12_feed_31 : decode cX12_feed 31 = .ok (.iload_n 3, 1) := by decide +kernel
theorem dX12_feed_32 : decode cX12_feed 32 = .ok (.invokevirtual 14, 3) := by decide +kernel
theorem dX12_feed_35 : decode cX12_feed 35 = .ok (.aload_n 0, 1) := by decide +kernel
theorem dX12_feed_36 : decode cX12_feed 36 = .ok (.iload 4, 2) := by decide +kernel
theorem dX12_feed_38 : decode cX12_feed 38 = .ok (.invokevirtual 14, 3) := by decide +kernel
theorem dX12_feed_41 : decode cX12_feed 41 = .ok (.aload_n 0, 1) := by decide +kernel
theorem dX12_feed_42 : decode cX12_feed 42 = .ok (.iload 5, 2) := by decide +kernel
theorem dX12_feed_44 : decode cX12_feed 44 = .ok (.invokevirtual 14, 3) := by decide +kernel
theorem dX12_feed_47 : decode cX12_feed 47 = .ok (.aload_n 0, 1) := by decide +kernel
theorem dX12_feed_48 : decode cX12_feed 48 = .ok (.getfield 11, 3) := by decide +kernel
theorem dX12_feed_51 : decode cX12_feed 51 = .ok (.ireturn, 1) := by decide +kernel
def f_X12_feed (v0 : XM) (x0 : Int32) (x1 : Int32) (x2 : Int32) (x3 : Int32) (x4 : Int32) : Option (Int32 × XM) :=
  x_lt (x_si v0 0 0 (0 : Int32)) (fun m1 =>
  if (((m1.1 0 2) + (20 : Int32)) : Int32) ≤ (940 : Int32) then
  (x_bo (f_X12_come m1 x0) (fun y2 =>
  x_bo (f_X12_come y2 x1) (fun y3 =>
  x_bo (f_X12_come y3 x2) (fun y4 =>
  x_bo (f_X12_come y4 x3) (fun y5 =>
  x_bo (f_X12_come y5 x4) (fun y6 =>
  some (y6.1 0 2, y6)))))))
  else (some ((-1 : Int32), m1)))
set_option maxRecDepth 100000 in
set_option maxHeartbeats 4000000 in
theorem c_X12_feed {l : Launch}  {ad0 : Nat → Nat} {v0 : XM} {x0 : Int32} {x1 : Int32} {x2 : Int32} {x3 : Int32} {x4 : Int32}  {o : Int32 × XM} (h : f_X12_feed v0 x0 x1 x2 x3 x4 = some o) : CT l yX12_feed cX12_feed 6 (some .int) 1 [(shModel, ad0)] [v0] (fun aK => [.ref (ad0 0), .int x0, .int x1, .int x2, .int x3, .int x4]) (some (.int o.1)) True [o.2] := by
  refine CT_of (by decide) (fun _ => Nat.le_of_ble_eq_true rfl) ?_
  intro p e s m args below meth c D tc aK aV A X
  have X : Cx p s m args meth c cX12_feed 6 (some .int) RX12 D tc aK aV A [(shModel, ad0)] := X
  show aW p l e (x_Rm 1) s m args below meth c D tc A 6 [(shModel, ad0)] (some (.int o.1)) True [o.2] 0 [(0, .ref (ad0 0)), (1, .int x0), (2, .int x1), (3, .int x2), (4, .int x3), (5, .int x4)] [] [v0]
  unfold f_X12_feed at h
  refine a_aload_n (pc := 0) X 0 dX12_feed_0 rfl rfl ?_
  refine a_iconst (pc := 1) X dX12_feed_1 q_ic_0 ?_
  refine a_putI (pc := 2) X 0 fl_RX12_1 rfl rfl rfl rfl dX12_feed_2 ?_
  obtain ⟨m1, e_m1, h⟩ := x_lt_elim h
  refine a_nm (vs2 := [m1]) (congrArg (fun q : XM => [q]) e_m1) ?_
  refine a_aload_n (pc := 5) X 0 dX12_feed_5 rfl rfl ?_
  refine a_getI (pc := 6) X 0 fl_RX12_11 rfl rfl rfl rfl dX12_feed_6 ?_
  refine a_bipush (pc := 9) X dX12_feed_9 q_bp_20 ?_
  refine a_iadd (pc := 11) X dX12_feed_11 ?_
  refine a_sipush (pc := 12) X dX12_feed_12 q_sp_940 ?_
  refine a_icmp_le (pc := 15) X 20 dX12_feed_15 rfl (fun c_15 => ?_) (fun c_15 => ?_)
  · have h := x_ifp c_15 h
    refine a_aload_n (pc := 20) X 0 dX12_feed_20 rfl rfl ?_
    refine a_iload_n (pc := 21) X 1 dX12_feed_21 rfl rfl ?_
    obtain ⟨y2, e_y2, h⟩ := x_bo_elim h
    refine a_callV (pc := 22) (st2 := []) (vs2 := [y2]) X [(0, 0, 20)] [some y2] 0 0 12 [.int x0] [] cv_RX12_14 (c_X12_come (ad0 := ad0)  e_y2) rfl rfl rfl rfl rfl rfl rfl rfl rfl rfl rfl rfl rfl rfl rfl (Nat.le_of_ble_eq_true rfl) ⟨Nat.le_of_ble_eq_true rfl, Nat.le_of_ble_eq_true rfl⟩ dX12_feed_22 (fun _ => ?_)
    refine a_aload_n (pc := 25) X 0 dX12_feed_25 rfl rfl ?_
    refine a_iload_n (pc := 26) X 2 dX12_feed_26 rfl rfl ?_
    obtain ⟨y3, e_y3, h⟩ := x_bo_elim h
    refine a_callV (pc := 27) (st2 := []) (vs2 := [y3]) X [(0, 0, 20)] [some y3] 0 0 12 [.int x1] [] cv_RX12_14 (c_X12_come (ad0 := ad0)  e_y3) rfl rfl rfl rfl rfl rfl rfl rfl rfl rfl rfl rfl rfl rfl rfl (Nat.le_of_ble_eq_true rfl) ⟨Nat.le_of_ble_eq_true rfl, Nat.le_of_ble_eq_true rfl⟩ dX12_feed_27 (fun _ => ?_)
    refine a_aload_n (pc := 30) X 0 dX12_feed_30 rfl rfl ?_
    refine a_iload_n (pc := 31) X 3 dX12_feed_31 rfl rfl ?_
    obtain ⟨y4, e_y4, h⟩ := x_bo_elim h
    refine a_callV (pc := 32) (st2 := []) (vs2 := [y4]) X [(0, 0, 20)] [some y4] 0 0 12 [.int x2] [] cv_RX12_14 (c_X12_come (ad0 := ad0)  e_y4) rfl rfl rfl rfl rfl rfl rfl rfl rfl rfl rfl rfl rfl rfl rfl (Nat.le_of_ble_eq_true rfl) ⟨Nat.le_of_ble_eq_true rfl, Nat.le_of_ble_eq_true rfl⟩ dX12_feed_32 (fun _ => ?_)
    refine a_aload_n (pc := 35) X 0 dX12_feed_35 rfl rfl ?_
    refine a_iload (pc := 36) X 4 dX12_feed_36 rfl ?_
    obtain ⟨y5, e_y5, h⟩ := x_bo_elim h
    refine a_callV (pc := 38) (st2 := []) (vs2 := [y5]) X [(0, 0, 20)] [some y5] 0 0 12 [.int x3] [] cv_RX12_14 (c_X12_come (ad0 := ad0)  e_y5) rfl rfl rfl rfl rfl rfl rfl rfl rfl rfl rfl rfl rfl rfl rfl (Nat.le_of_ble_eq_true rfl) ⟨Nat.le_of_ble_eq_true rfl, Nat.le_of_ble_eq_true rfl⟩ dX12_feed_38 (fun _ => ?_)
    refine a_aload_n (pc := 41) X 0 dX12_feed_41 rfl rfl ?_
    refine a_iload (pc := 42) X 5 dX12_feed_42 rfl ?_
    obtain ⟨y6, e_y6, h⟩ := x_bo_elim h
    refine a_callV (pc := 44) (st2 := []) (vs2 := [y6]) X [(0, 0, 20)] [some y6] 0 0 12 [.int x4] [] cv_RX12_14 (c_X12_come (ad0 := ad0)  e_y6) rfl rfl rfl rfl rfl rfl rfl rfl rfl rfl rfl rfl rfl rfl rfl (Nat.le_of_ble_eq_true rfl) ⟨Nat.le_of_ble_eq_true rfl, Nat.le_of_ble_eq_true rfl⟩ dX12_feed_44 (fun _ => ?_)
    refine a_aload_n (pc := 47) X 0 dX12_feed_47 rfl rfl ?_
    refine a_getI (pc := 48) X 0 fl_RX12_11 rfl rfl rfl rfl dX12_feed_48 ?_
    have h := Option.some.inj h; subst h
    exact a_iret (pc := 51) X trivial dX12_feed_51
  · have h := x_ifn c_15 h
    refine a_iconst (pc := 18) X dX12_feed_18 q_ic_m1 ?_
    have h := Option.some.inj h; subst h
    exact a_iret (pc := 19) X trivial dX12_feed_19
theorem dX12_end_0 : decode cX12_end 0 = .ok (.aload_n 0, 1) := by decide +kernel
theorem dX12_end_1 : decode cX12_end 1 = .ok (.iconst 0, 1) := by decide +kernel
theorem dX12_end_2 : decode cX12_end 2 = .ok (.putfield 1, 3) := by decide +kernel
theorem dX12_end_5 : decode cX12_end 5 = .ok (.iload_n 1, 1) := by decide +kernel
theorem dX12_end_6 : decode cX12_end 6 = .ok (.ifCond .lt 11, 3) := by decide +kernel
theorem dX12_end_9 : decode cX12_end 9 = .ok (.iload_n 1, 1) := by decide +kernel
theorem dX12_end_10 : decode cX12_end 10 = .ok (.aload_n 0, 1) := by decide +kernel
theorem dX12_end_11 : decode cX12_end 11 = .ok (.getfield 11, 3) := by decide +kernel
theorem dX12_end_14 : decode cX12_end 14 = .ok (.if_icmp .le 5, 3) := by decide +kernel
theorem dX12_end_17 : decode cX12_end 17 = .ok (.iconst 0, 1) := by decide +kernel
theorem dX12_end_18 : decode cX12_end 18 = .ok (.ireturn, 1) := by decide +kernel
theorem dX12_end_19 : decode cX12_end 19 = .ok (.aload_n 0, 1) := by decide +kernel
theorem dX12_end_20 : decode cX12_end 20 = .ok (.iload_n 1, 1) := by decide +kernel
theorem dX12_end_21 : decode cX12_end 21 = .ok (.putfield 11, 3) := by decide +kernel
theorem dX12_end_24 : decode cX12_end 24 = .ok (.iconst 1, 1) := by decide +kernel
theorem dX12_end_25 : decode cX12_end 25 = .ok (.ireturn, 1) := by decide +kernel
def f_X12_end (v0 : XM) (x0 : Int32) : Int32 × XM :=
  x_lt (x_si v0 0 0 (0 : Int32)) (fun m1 =>
  if x0 < (0 : Int32) then
  (((0 : Int32), m1))
  else (if (x0 : Int32) ≤ (m1.1 0 2) then
  (x_lt (x_si m1 0 2 x0) (fun m2 =>
  ((1 : Int32), m2)))
  else (((0 : Int32), m1))))
set_option maxRecDepth 100000 in
set_option maxHeartbeats 4000000 in
theorem c_X12_end {l : Launch}  {ad0 : Nat → Nat} {v0 : XM} {x0 : Int32}  {o : Int32 × XM} (h : f_X12_end v0 x0 = o) : CT l yX12_end cX12_end 2 (some .boolean) 0 [(shModel, ad0)] [v0] (fun aK => [.ref (ad0 0), .int x0]) (some (.int o.1)) (x_Z o.1) [o.2] := by
  refine CT_of (by decide) (fun _ => Nat.le_of_ble_eq_true rfl) ?_
  intro p e s m args below meth c D tc aK aV A X
  have X : Cx p s m args meth c cX12_end 2 (some .boolean) RX12 D tc aK aV A [(shModel, ad0)] := X
  show aW p l e (x_Rm 0) s m args below meth c D tc A 2 [(shModel, ad0)] (some (.int o.1)) (x_Z o.1) [o.2] 0 [(0, .ref (ad0 0)), (1, .int x0)] [] [v0]
  unfold f_X12_end at h
  refine a_aload_n (pc := 0) X 0 dX12_end_0 rfl rfl ?_
  refine a_iconst (pc := 1) X dX12_end_1 q_ic_0 ?_
  refine a_putI (pc := 2) X 0 fl_RX12_1 rfl rfl rfl rfl dX12_end_2 ?_
  obtain ⟨m1, e_m1, h⟩ := x_lt_elim h
  refine a_nm (vs2 := [m1]) (congrArg (fun q : XM => [q]) e_m1) ?_
  refine a_iload_n (pc := 5) X 1 dX12_end_5 rfl rfl ?_
  refine a_if_lt (pc := 6) X 17 dX12_end_6 rfl (fun c_6 => ?_) (fun c_6 => ?_)
  · have h := x_ifp c_6 h
    refine a_iconst (pc := 17) X dX12_end_17 q_ic_0 ?_
    subst h
    exact a_zret (pc := 18) X x_Z0 x_Z0 dX12_end_18
  · have h := x_ifn c_6 h
    refine a_iload_n (pc := 9) X 1 dX12_end_9 rfl rfl ?_
    refine a_aload_n (pc := 10) X 0 dX12_end_10 rfl rfl ?_
    refine a_getI (pc := 11) X 0 fl_RX12_11 rfl rfl rfl rfl dX12_end_11 ?_
    refine a_icmp_le (pc := 14) X 19 dX12_end_14 rfl (fun c_14 => ?_) (fun c_14 => ?_)
    · have h := x_ifp c_14 h
      refine a_aload_n (pc := 19) X 0 dX12_end_19 rfl rfl ?_
      refine a_iload_n (pc := 20) X 1 dX12_end_20 rfl rfl ?_
      refine a_putI (pc := 21) X 0 fl_RX12_11 rfl rfl rfl rfl dX12_end_21 ?_
      obtain ⟨m2, e_m2, h⟩ := x_lt_elim h
      refine a_nm (vs2 := [m2]) (congrArg (fun q : XM => [q]) e_m2) ?_
      refine a_iconst (pc := 24) X dX12_end_24 q_ic_1 ?_
      subst h
      exact a_zret (pc := 25) X x_Z1 x_Z1 dX12_end_25
    · have h := x_ifn c_14 h
      refine a_iconst (pc := 17) X dX12_end_17 q_ic_0 ?_
      subst h
      exact a_zret (pc := 18) X x_Z0 x_Z0 dX12_end_18
theorem dX12_take_0 : decode cX12_take 0 = .ok (.aload_n 0, 1) := by decide +kernel
theorem dX12_take_1 : decode cX12_take 1 = .ok (.getfield 11, 3) := by decide +kernel
theorem dX12_take_4 : decode cX12_take 4 = .ok (.istore_n 1, 1) := by decide +kernel
theorem dX12_take_5 : decode cX12_take 5 = .ok (.aload_n 0, 1) := by decide +kernel
theorem dX12_take_6 : decode cX12_take 6 = .ok (.iconst 0, 1) := by decide +kernel
theorem dX12_take_7 : decode cX12_take 7 = .ok (.putfield 11, 3) := by decide +kernel
theorem dX12_take_10 : decode cX12_take 10 = .ok (.iload_n 1, 1) := by decide +kernel
theorem dX12_take_11 : decode cX12_take 11 = .ok (.ireturn, 1) := by decide +kernel
def f_X12_take (v0 : XM) : Int32 × XM :=
  x_lt (x_si v0 0 2 (0 : Int32)) (fun m1 =>
  (v0.1 0 2, m1))
set_option maxRecDepth 100000 in
set_option maxHeartbeats 4000000 in
theorem c_X12_take {l : Launch}  {ad0 : Nat → Nat} {v0 : XM}   {o : Int32 × XM} (h : f_X12_take v0 = o) : CT l yX12_take cX12_take 2 (some .int) 0 [(shModel, ad0)] [v0] (fun aK => [.ref (ad0 0)]) (some (.int o.1)) True [o.2] := by
  refine CT_of (by decide) (fun _ => Nat.le_of_ble_eq_true rfl) ?_
  intro p e s m args below meth c D tc aK aV A X
  have X : Cx p s m args meth c cX12_take 2 (some .int) RX12 D tc aK aV A [(shModel, ad0)] := X
  show aW p l e (x_Rm 0) s m args below meth c D tc A 2 [(shModel, ad0)] (some (.int o.1)) True [o.2] 0 [(0, .ref (ad0 0))] [] [v0]
  unfold f_X12_take at h
  refine a_aload_n (pc := 0) X 0 dX12_take_0 rfl rfl ?_
  refine a_getI (pc := 1) X 0 fl_RX12_11 rfl rfl rfl rfl dX12_take_1 ?_
  refine a_istore_n (pc := 4) X [(1, .int (v0.1 0 2)), (0, .ref (ad0 0))] dX12_take_4 rfl (by decide) rfl ?_
  refine a_aload_n (pc := 5) X 1 dX12_take_5 rfl rfl ?_
  refine a_iconst (pc := 6) X dX12_take_6 q_ic_0 ?_
  refine a_putI (pc := 7) X 0 fl_RX12_11 rfl rfl rfl rfl dX12_take_7 ?_
  obtain ⟨m1, e_m1, h⟩ := x_lt_elim h
  refine a_nm (vs2 := [m1]) (congrArg (fun q : XM => [q]) e_m1) ?_
  refine a_iload_n (pc := 10) X 0 dX12_take_10 rfl rfl ?_
  subst h
  exact a_iret (pc := 11) X trivial dX12_take_11
theorem dX12_isIn_0 : decode cX12_isIn 0 = .ok (.iload_n 0, 1) := by decide +kernel
theorem dX12_isIn_1 : decode cX12_isIn 1 = .ok (.iload_n 1, 1) := by decide +kernel
theorem dX12_isIn_2 : decode cX12_isIn 2 = .ok (.if_icmp .lt 12, 3) := by decide +kernel
theorem dX12_isIn_5 : decode cX12_isIn 5 = .ok (.iload_n 0, 1) := by decide +kernel
theorem dX12_isIn_6 : decode cX12_isIn 6 = .ok (.iload_n 2, 1) := by decide +kernel
theorem dX12_isIn_7 : decode cX12_isIn 7 = .ok (.if_icmp .gt 7, 3) := by decide +kernel
theorem dX12_isIn_10 : decode cX12_isIn 10 = .ok (.iconst 1, 1) := by decide +kernel
theorem dX12_isIn_11 : decode cX12_isIn 11 = .ok (.goto 4, 3) := by decide +kernel
theorem dX12_isIn_14 : decode cX12_isIn 14 = .ok (.iconst 0, 1) := by decide +kernel
theorem dX12_isIn_15 : decode cX12_isIn 15 = .ok (.ireturn, 1) := by decide +kernel
def f_X12_isIn (x0 : Int32) (x1 : Int32) (x2 : Int32) : Int32 :=
  if (x0 : Int32) < x1 then
  (((0 : Int32) : Int32))
  else (if (x2 : Int32) < x0 then
  (((0 : Int32) : Int32))
  else (((1 : Int32) : Int32)))
set_option maxRecDepth 100000 in
set_option maxHeartbeats 4000000 in
theorem c_X12_isIn {l : Launch}   {x0 : Int32} {x1 : Int32} {x2 : Int32}  {o : Int32} (h : f_X12_isIn x0 x1 x2 = o) : CT l yX12_isIn cX12_isIn 3 (some .boolean) 0 [] [] (fun aK => [.int x0, .int x1, .int x2]) (some (.int o)) (x_Z o) [] := by
  refine CT_of (by decide) (fun _ => Nat.le_of_ble_eq_true rfl) ?_
  intro p e s m args below meth c D tc aK aV A X
  have X : Cx p s m args meth c cX12_isIn 3 (some .boolean) RX12 D tc aK aV A [] := X
  show aW p l e (x_Rm 0) s m args below meth c D tc A 3 [] (some (.int o)) (x_Z o) [] 0 [(0, .int x0), (1, .int x1), (2, .int x2)] [] []
  unfold f_X12_isIn at h
  refine a_iload_n (pc := 0) X 0 dX12_isIn_0 rfl rfl ?_
  refine a_iload_n (pc := 1) X 1 dX12_isIn_1 rfl rfl ?_
  refine a_icmp_lt (pc := 2) X 14 dX12_isIn_2 rfl (fun c_2 => ?_) (fun c_2 => ?_)
  · have h := x_ifp c_2 h
    refine a_iconst (pc := 14) X dX12_isIn_14 q_ic_0 ?_
    subst h
    exact a_zret (pc := 15) X x_Z0 x_Z0 dX12_isIn_15
  · have h := x_ifn c_2 h
    refine a_iload_n (pc := 5) X 0 dX12_isIn_5 rfl rfl ?_
    refine a_iload_n (pc := 6) X 2 dX12_isIn_6 rfl rfl ?_
    refine a_icmp_gt (pc := 7) X 14 dX12_isIn_7 rfl (fun c_7 => ?_) (fun c_7 => ?_)
    · have h := x_ifp c_7 h
      refine a_iconst (pc := 14) X dX12_isIn_14 q_ic_0 ?_
      subst h
      exact a_zret (pc := 15) X x_Z0 x_Z0 dX12_isIn_15
    · have h := x_ifn c_7 h
      refine a_iconst (pc := 10) X dX12_isIn_10 q_ic_1 ?_
      refine a_goto (pc := 11) X 15 dX12_isIn_11 rfl ?_
      subst h
      exact a_zret (pc := 15) X x_Z1 x_Z1 dX12_isIn_15
theorem dX12_has_0 : decode cX12_has 0 = .ok (.iload_n 0, 1) := by decide +kernel
theorem dX12_has_1 : decode cX12_has 1 = .ok (.iload_n 1, 1) := by decide +kernel
theorem dX12_has_2 : decode cX12_has 2 = .ok (.ishr, 1) := by decide +kernel
theorem dX12_has_3 : decode cX12_has 3 = .ok (.iconst 1, 1) := by decide +kernel
theorem dX12_has_4 : decode cX12_has 4 = .ok (.iand, 1) := by decide +kernel
theorem dX12_has_5 : decode cX12_has 5 = .ok (.iconst 1, 1) := by decide +kernel
theorem dX12_has_6 : decode cX12_has 6 = .ok (.if_icmp .ne 7, 3) := by decide +kernel
theorem dX12_has_9 : decode cX12_has 9 = .ok (.iconst 1, 1) := by decide +kernel
theorem dX12_has_10 : decode cX12_has 10 = .ok (.goto 4, 3) := by decide +kernel
theorem dX12_has_13 : decode cX12_has 13 = .ok (.iconst 0, 1) := by decide +kernel
theorem dX12_has_14 : decode cX12_has 14 = .ok (.ireturn, 1) := by decide +kernel
def f_X12_has (x0 : Int32) (x1 : Int32) : Int32 :=
  if (((x0 >>> (x1 &&& 31)) &&& (1 : Int32)) : Int32) = (1 : Int32) then
  (((1 : Int32) : Int32))
  else (((0 : Int32) : Int32))
set_option maxRecDepth 100000 in
set_option maxHeartbeats 4000000 in
theorem c_X12_has {l : Launch}   {x0 : Int32} {x1 : Int32}  {o : Int32} (h : f_X12_has x0 x1 = o) : CT l yX12_has cX12_has 2 (some .boolean) 0 [] [] (fun aK => [.int x0, .int x1]) (some (.int o)) (x_Z o) [] := by
  refine CT_of (by decide) (fun _ => Nat.le_of_ble_eq_true rfl) ?_
  intro p e s m args below meth c D tc aK aV A X
  have X : Cx p s m args meth c cX12_has 2 (some .boolean) RX12 D tc aK aV A [] := X
  show aW p l e (x_Rm 0) s m args below meth c D tc A 2 [] (some (.int o)) (x_Z o) [] 0 [(0, .int x0), (1, .int x1)] [] []
  unfold f_X12_has at h
  refine a_iload_n (pc := 0) X 0 dX12_has_0 rfl rfl ?_
  refine a_iload_n (pc := 1) X 1 dX12_has_1 rfl rfl ?_
  refine a_ishr (pc := 2) X dX12_has_2 ?_
  refine a_iconst (pc := 3) X dX12_has_3 q_ic_1 ?_
  refine a_iand (pc := 4) X dX12_has_4 ?_
  refine a_iconst (pc := 5) X dX12_has_5 q_ic_1 ?_
  refine a_icmp_ne (pc := 6) X 13 dX12_has_6 rfl (fun c_6 => ?_) (fun c_6 => ?_)
  · have h := x_ifn c_6 h
    refine a_iconst (pc := 13) X dX12_has_13 q_ic_0 ?_
    subst h
    exact a_zret (pc := 14) X x_Z0 x_Z0 dX12_has_14
  · have h := x_ifp c_6 h
    refine a_iconst (pc := 9) X dX12_has_9 q_ic_1 ?_
    refine a_goto (pc := 10) X 14 dX12_has_10 rfl ?_
    subst h
    exact a_zret (pc := 14) X x_Z1 x_Z1 dX12_has_14
theorem dX12_bits_0 : decode cX12_bits 0 = .ok (.iconst 0, 1) := by decide +kernel
theorem dX12_bits_1 : decode cX12_bits 1 = .ok (.istore_n 1, 1) := by decide +kernel
theorem dX12_bits_2 : decode cX12_bits 2 = .ok (.iload_n 0, 1) := by decide +kernel
theorem dX12_bits_3 : decode cX12_bits 3 = .ok (.istore_n 2, 1) := by decide +kernel
theorem dX12_bits_4 : decode cX12_bits 4 = .ok (.iload_n 2, 1) := by decide +kernel
theorem dX12_bits_5 : decode cX12_bits 5 = .ok (.ifCond .eq 15, 3) := by decide +kernel
theorem dX12_bits_8 : decode cX12_bits 8 = .ok (.iinc 1 1, 3) := by decide +kernel
theorem dX12_bits_11 : decode cX12_bits 11 = .ok (.iload_n 2, 1) := by decide +kernel
theorem dX12_bits_12 : decode cX12_bits 12 = .ok (.iload_n 2, 1) := by decide +kernel
theorem dX12_bits_13 : decode cX12_bits 13 = .ok (.iconst 1, 1) := by decide +kernel
theorem dX12_bits_14 : decode cX12_bits 14 = .ok (.isub, 1) := by decide +kernel
theorem dX12_bits_15 : decode cX12_bits 15 = .ok (.iand, 1) := by decide +kernel
theorem dX12_bits_16 : decode cX12_bits 16 = .ok (.istore_n 2, 1) := by decide +kernel
theorem dX12_bits_17 : decode cX12_bits 17 = .ok (.goto (-13), 3) := by decide +kernel
theorem dX12_bits_20 : decode cX12_bits 20 = .ok (.iload_n 1, 1) := by decide +kernel
theorem dX12_bits_21 : decode cX12_bits 21 = .ok (.ireturn, 1) := by decide +kernel
def f_X12_bits_4 (k4 : Int32 → Int32 → Option (Int32)) (l1 : Int32) (l2 : Int32) : Option (Int32) :=
  if l2 = (0 : Int32) then
  (some (l1 : Int32))
  else (x_lt (l2 &&& (l2 - (1 : Int32))) (fun y1 =>
  k4 (l1 + 1) y1))
def f_X12_bits (x0 : Int32) : Option (Int32) :=
  x_lp (φ := Int32 → Int32 → Option (Int32)) (fun _ _ => none) (f_X12_bits_4  ) x_NN (0 : Int32) x0
set_option maxRecDepth 100000 in
set_option maxHeartbeats 4000000 in
theorem w_X12_bits_4 {p : Program} {l : Launch} {e : Env} {s : State} {m : MethodId} {args : Array Value} {below : List Frame} {meth : Method} {c : Code} {D : va_G} {tc : Nat → ClassId} {aK aV : Nat → Nat} {A : Nat → Prop}   (X : Cx p s m args meth c cX12_bits 3 (some .int) RX12 D tc aK aV A [])  {o : Int32}  : ∀ (n : Nat), ∀ (l1 : Int32) (l2 : Int32), x_lp (φ := Int32 → Int32 → Option (Int32)) (fun _ _ => none) (f_X12_bits_4  ) n l1 l2 = some o → aW p l e (x_Rm 0) s m args below meth c D tc A 3 [] (some (.int o)) True [] 4 [(1, .int l1), (2, .int l2)] [] [] := by
  intro n
  induction n with
  | zero => intro l1 l2 h; exact absurd h (fun q => by cases q)
  | succ n ih =>
    intro l1 l2 h
    have h : f_X12_bits_4   (x_lp (φ := Int32 → Int32 → Option (Int32)) (fun _ _ => none) (f_X12_bits_4  ) n) l1 l2 = some o := h
    generalize x_lp (φ := Int32 → Int32 → Option (Int32)) (fun _ _ => none) (f_X12_bits_4  ) n = k4 at h ih
    have hk4 := ih
    unfold f_X12_bits_4 at h
    refine a_iload_n (pc := 4) X 1 dX12_bits_4 rfl rfl ?_
    refine a_if_eq (pc := 5) X 20 dX12_bits_5 rfl (fun c_5 => ?_) (fun c_5 => ?_)
    · have h := x_ifp c_5 h
      refine a_iload_n (pc := 20) X 0 dX12_bits_20 rfl rfl ?_
      have h := Option.some.inj h; subst h
      exact a_iret (pc := 21) X trivial dX12_bits_21
    · have h := x_ifn c_5 h
      refine a_iinc (pc := 8) X 0 [(1, .int (l1 + 1)), (2, .int l2)] dX12_bits_8 rfl (congrArg (HAdd.hAdd l1) q_ic_1) (by decide) rfl ?_
      refine a_iload_n (pc := 11) X 1 dX12_bits_11 rfl rfl ?_
      refine a_iload_n (pc := 12) X 1 dX12_bits_12 rfl rfl ?_
      refine a_iconst (pc := 13) X dX12_bits_13 q_ic_1 ?_
      refine a_isub (pc := 14) X dX12_bits_14 ?_
      refine a_iand (pc := 15) X dX12_bits_15 ?_
      obtain ⟨y1, e_y1, h⟩ := x_lt_elim h
      refine a_ni e_y1 ?_
      refine a_istore_n (pc := 16) X [(2, .int y1), (1, .int (l1 + 1))] dX12_bits_16 rfl (by decide) rfl ?_
      refine a_goto (pc := 17) X 4 dX12_bits_17 rfl ?_
      refine a_sub [1, 0] rfl ?_
      exact hk4 _ _ h
set_option maxRecDepth 100000 in
set_option maxHeartbeats 4000000 in
theorem c_X12_bits {l : Launch}   {x0 : Int32}  {o : Int32} (h : f_X12_bits x0 = some o) : CT l yX12_bits cX12_bits 3 (some .int) 0 [] [] (fun aK => [.int x0]) (some (.int o)) True [] := by
  refine CT_of (by decide) (fun _ => Nat.le_of_ble_eq_true rfl) ?_
  intro p e s m args below meth c D tc aK aV A X
  have X : Cx p s m args meth c cX12_bits 3 (some .int) RX12 D tc aK aV A [] := X
  show aW p l e (x_Rm 0) s m args below meth c D tc A 3 [] (some (.int o)) True [] 0 [(0, .int x0)] [] []
  unfold f_X12_bits at h
  refine a_iconst (pc := 0) X dX12_bits_0 q_ic_0 ?_
  refine a_istore_n (pc := 1) X [(1, .int (0 : Int32)), (0, .int x0)] dX12_bits_1 rfl (by decide) rfl ?_
  refine a_iload_n (pc := 2) X 1 dX12_bits_2 rfl rfl ?_
  refine a_istore_n (pc := 3) X [(2, .int x0), (1, .int (0 : Int32)), (0, .int x0)] dX12_bits_3 rfl (by decide) rfl ?_
  refine a_sub [1, 0] rfl ?_
  exact w_X12_bits_4 X    x_NN _ _ h
theorem dX12_least_0 : decode cX12_least 0 = .ok (.iload_n 0, 1) := by decide +kernel
theorem dX12_least_1 : decode cX12_least 1 = .ok (.iload_n 1, 1) := by decide +kernel
theorem dX12_least_2 : decode cX12_least 2 = .ok (.if_icmp .ge 7, 3) := by decide +kernel
theorem dX12_least_5 : decode cX12_least 5 = .ok (.iload_n 0, 1) := by decide +kernel
theorem dX12_least_6 : decode cX12_least 6 = .ok (.goto 4, 3) := by decide +kernel
theorem dX12_least_9 : decode cX12_least 9 = .ok (.iload_n 1, 1) := by decide +kernel
theorem dX12_least_10 : decode cX12_least 10 = .ok (.ireturn, 1) := by decide +kernel
def f_X12_least (x0 : Int32) (x1 : Int32) : Int32 :=
  if (x1 : Int32) ≤ x0 then
  ((x1 : Int32))
  else ((x0 : Int32))
set_option maxRecDepth 100000 in
set_option maxHeartbeats 4000000 in
theorem c_X12_least {l : Launch}   {x0 : Int32} {x1 : Int32}  {o : Int32} (h : f_X12_least x0 x1 = o) : CT l yX12_least cX12_least 2 (some .int) 0 [] [] (fun aK => [.int x0, .int x1]) (some (.int o)) True [] := by
  refine CT_of (by decide) (fun _ => Nat.le_of_ble_eq_true rfl) ?_
  intro p e s m args below meth c D tc aK aV A X
  have X : Cx p s m args meth c cX12_least 2 (some .int) RX12 D tc aK aV A [] := X
  show aW p l e (x_Rm 0) s m args below meth c D tc A 2 [] (some (.int o)) True [] 0 [(0, .int x0), (1, .int x1)] [] []
  unfold f_X12_least at h
  refine a_iload_n (pc := 0) X 0 dX12_least_0 rfl rfl ?_
  refine a_iload_n (pc := 1) X 1 dX12_least_1 rfl rfl ?_
  refine a_icmp_ge (pc := 2) X 9 dX12_least_2 rfl (fun c_2 => ?_) (fun c_2 => ?_)
  · have h := x_ifp c_2 h
    refine a_iload_n (pc := 9) X 1 dX12_least_9 rfl rfl ?_
    subst h
    exact a_iret (pc := 10) X trivial dX12_least_10
  · have h := x_ifn c_2 h
    refine a_iload_n (pc := 5) X 0 dX12_least_5 rfl rfl ?_
    refine a_goto (pc := 6) X 10 dX12_least_6 rfl ?_
    subst h
    exact a_iret (pc := 10) X trivial dX12_least_10
theorem dX12_common_0 : decode cX12_common 0 = .ok (.iload_n 0, 1) := by decide +kernel
theorem dX12_common_1 : decode cX12_common 1 = .ok (.istore_n 2, 1) := by decide +kernel
theorem dX12_common_2 : decode cX12_common 2 = .ok (.iload_n 1, 1) := by decide +kernel
theorem dX12_common_3 : decode cX12_common 3 = .ok (.istore_n 3, 1) := by decide +kernel
theorem dX12_common_4 : decode cX12_common 4 = .ok (.iload_n 3, 1) := by decide +kernel
theorem dX12_common_5 : decode cX12_common 5 = .ok (.ifCond .eq 16, 3) := by decide +kernel
theorem dX12_common_8 : decode cX12_common 8 = .ok (.iload_n 2, 1) := by decide +kernel
theorem dX12_common_9 : decode cX12_common 9 = .ok (.iload_n 3, 1) := by decide +kernel
theorem dX12_common_10 : decode cX12_common 10 = .ok (.irem, 1) := by decide +kernel
theorem dX12_common_11 : decode cX12_common 11 = .ok (.istore 4, 2) := by decide +kernel
theorem dX12_common_13 : decode cX12_common 13 = .ok (.iload_n 3, 1) := by decide +kernel
theorem dX12_common_14 : decode cX12_common 14 = .ok (.istore_n 2, 1) := by decide +kernel
theorem dX12_common_15 : decode cX12_common 15 = .ok (.iload 4, 2) := by decide +kernel
theorem dX12_common_17 : decode cX12_common 17 = .ok (.istore_n 3, 1) := by decide +kernel
theorem dX12_common_18 : decode cX12_common 18 = .ok (.goto (-14), 3) := by decide +kernel
theorem dX12_common_21 : decode cX12_common 21 = .ok (.iload_n 2, 1) := by decide +kernel
theorem dX12_common_22 : decode cX12_common 22 = .ok (.ireturn, 1) := by decide +kernel
def f_X12_common_4 (k4 : Int32 → Int32 → Option (Int32)) (l2 : Int32) (l3 : Int32) : Option (Int32) :=
  if l3 = (0 : Int32) then
  (some (l2 : Int32))
  else (x_nz l3 (
  k4 l3 (l2 - l2 / l3 * l3)))
def f_X12_common (x0 : Int32) (x1 : Int32) : Option (Int32) :=
  x_lp (φ := Int32 → Int32 → Option (Int32)) (fun _ _ => none) (f_X12_common_4  ) x_NN x0 x1
set_option maxRecDepth 100000 in
set_option maxHeartbeats 4000000 in
theorem w_X12_common_4 {p : Program} {l : Launch} {e : Env} {s : State} {m : MethodId} {args : Array Value} {below : List Frame} {meth : Method} {c : Code} {D : va_G} {tc : Nat → ClassId} {aK aV : Nat → Nat} {A : Nat → Prop}   (X : Cx p s m args meth c cX12_common 5 (some .int) RX12 D tc aK aV A [])  {o : Int32}  : ∀ (n : Nat), ∀ (l2 : Int32) (l3 : Int32), x_lp (φ := Int32 → Int32 → Option (Int32)) (fun _ _ => none) (f_X12_common_4  ) n l2 l3 = some o → aW p l e (x_Rm 0) s m args below meth c D tc A 5 [] (some (.int o)) True [] 4 [(2, .int l2), (3, .int l3)] [] [] := by
  intro n
  induction n with
  | zero => intro l2 l3 h; exact absurd h (fun q => by cases q)
  | succ n ih =>
    intro l2 l3 h
    have h : f_X12_common_4   (x_lp (φ := Int32 → Int32 → Option (Int32)) (fun _ _ => none) (f_X12_common_4  ) n) l2 l3 = some o := h
    generalize x_lp (φ := Int32 → Int32 → Option (Int32)) (fun _ _ => none) (f_X12_common_4  ) n = k4 at h ih
    have hk4 := ih
    unfold f_X12_common_4 at h
    refine a_iload_n (pc := 4) X 1 dX12_common_4 rfl rfl ?_
    refine a_if_eq (pc := 5) X 21 dX12_common_5 rfl (fun c_5 => ?_) (fun c_5 => ?_)
    · have h := x_ifp c_5 h
      refine a_iload_n (pc := 21) X 0 dX12_common_21 rfl rfl ?_
      have h := Option.some.inj h; subst h
      exact a_iret (pc := 22) X trivial dX12_common_22
    · have h := x_ifn c_5 h
      refine a_iload_n (pc := 8) X 0 dX12_common_8 rfl rfl ?_
      refine a_iload_n (pc := 9) X 1 dX12_common_9 rfl rfl ?_
      obtain ⟨c_10, h⟩ := x_nz_elim h
      refine a_irem (pc := 10) X c_10 dX12_common_10 ?_
      refine a_istore (pc := 11) X [(4, .int (l2 - l2 / l3 * l3)), (2, .int l2), (3, .int l3)] dX12_common_11 (by decide) rfl ?_
      refine a_iload_n (pc := 13) X 2 dX12_common_13 rfl rfl ?_
      refine a_istore_n (pc := 14) X [(2, .int l3), (4, .int (l2 - l2 / l3 * l3)), (3, .int l3)] dX12_common_14 rfl (by decide) rfl ?_
      refine a_iload (pc := 15) X 1 dX12_common_15 rfl ?_
      refine a_istore_n (pc := 17) X [(3, .int (l2 - l2 / l3 * l3)), (2, .int l3), (4, .int (l2 - l2 / l3 * l3))] dX12_common_17 rfl (by decide) rfl ?_
      refine a_goto (pc := 18) X 4 dX12_common_18 rfl ?_
      refine a_sub [1, 0] rfl ?_
      exact hk4 _ _ h
set_option maxRecDepth 100000 in
set_option maxHeartbeats 4000000 in
theorem c_X12_common {l : Launch}   {x0 : Int32} {x1 : Int32}  {o : Int32} (h : f_X12_common x0 x1 = some o) : CT l yX12_common cX12_common 5 (some .int) 0 [] [] (fun aK => [.int x0, .int x1]) (some (.int o)) True [] := by
  refine CT_of (by decide) (fun _ => Nat.le_of_ble_eq_true rfl) ?_
  intro p e s m args below meth c D tc aK aV A X
  have X : Cx p s m args meth c cX12_common 5 (some .int) RX12 D tc aK aV A [] := X
  show aW p l e (x_Rm 0) s m args below meth c D tc A 5 [] (some (.int o)) True [] 0 [(0, .int x0), (1, .int x1)] [] []
  unfold f_X12_common at h
  refine a_iload_n (pc := 0) X 0 dX12_common_0 rfl rfl ?_
  refine a_istore_n (pc := 1) X [(2, .int x0), (0, .int x0), (1, .int x1)] dX12_common_1 rfl (by decide) rfl ?_
  refine a_iload_n (pc := 2) X 2 dX12_common_2 rfl rfl ?_
  refine a_istore_n (pc := 3) X [(3, .int x1), (2, .int x0), (0, .int x0), (1, .int x1)] dX12_common_3 rfl (by decide) rfl ?_
  refine a_sub [1, 0] rfl ?_
  exact w_X12_common_4 X    x_NN _ _ h
theorem dX12_tapeAt_0 : decode cX12_tapeAt 0 = .ok (.iload_n 1, 1) := by decide +kernel
theorem dX12_tapeAt_1 : decode cX12_tapeAt 1 = .ok (.aload_n 0, 1) := by decide +kernel
theorem dX12_tapeAt_2 : decode cX12_tapeAt 2 = .ok (.getfield 18, 3) := by decide +kernel
theorem dX12_tapeAt_5 : decode cX12_tapeAt 5 = .ok (.if_icmp .ge 12, 3) := by decide +kernel
theorem dX12_tapeAt_8 : decode cX12_tapeAt 8 = .ok (.aload_n 0, 1) := by decide +kernel
theorem dX12_tapeAt_9 : decode cX12_tapeAt 9 = .ok (.getfield 7, 3) := by decide +kernel
theorem dX12_tapeAt_12 : decode cX12_tapeAt 12 = .ok (.iload_n 1, 1) := by decide +kernel
theorem dX12_tapeAt_13 : decode cX12_tapeAt 13 = .ok (.iaload, 1) := by decide +kernel
theorem dX12_tapeAt_14 : decode cX12_tapeAt 14 = .ok (.goto 4, 3) := by decide +kernel
theorem dX12_tapeAt_17 : decode cX12_tapeAt 17 = .ok (.iconst 0, 1) := by decide +kernel
theorem dX12_tapeAt_18 : decode cX12_tapeAt 18 = .ok (.ireturn, 1) := by decide +kernel
def f_X12_tapeAt (v0 : XM) (x0 : Int32) : Option (Int32) :=
  if ((v0.1 0 3) : Int32) ≤ x0 then
  (some ((0 : Int32) : Int32))
  else (x_ck x0 940 (
  some (x_ga v0 1 x0 : Int32)))
set_option maxRecDepth 100000 in
set_option maxHeartbeats 4000000 in
theorem c_X12_tapeAt {l : Launch}  {ad0 : Nat → Nat} {v0 : XM} {x0 : Int32}  {o : Int32} (h : f_X12_tapeAt v0 x0 = some o) : CT l yX12_tapeAt cX12_tapeAt 2 (some .int) 0 [(shModel, ad0)] [v0] (fun aK => [.ref (ad0 0), .int x0]) (some (.int o)) True [v0] := by
  refine CT_of (by decide) (fun _ => Nat.le_of_ble_eq_true rfl) ?_
  intro p e s m args below meth c D tc aK aV A X
  have X : Cx p s m args meth c cX12_tapeAt 2 (some .int) RX12 D tc aK aV A [(shModel, ad0)] := X
  show aW p l e (x_Rm 0) s m args below meth c D tc A 2 [(shModel, ad0)] (some (.int o)) True [v0] 0 [(0, .ref (ad0 0)), (1, .int x0)] [] [v0]
  unfold f_X12_tapeAt at h
  refine a_iload_n (pc := 0) X 1 dX12_tapeAt_0 rfl rfl ?_
  refine a_aload_n (pc := 1) X 0 dX12_tapeAt_1 rfl rfl ?_
  refine a_getI (pc := 2) X 0 fl_RX12_18 rfl rfl rfl rfl dX12_tapeAt_2 ?_
  refine a_icmp_ge (pc := 5) X 17 dX12_tapeAt_5 rfl (fun c_5 => ?_) (fun c_5 => ?_)
  · have h := x_ifp c_5 h
    refine a_iconst (pc := 17) X dX12_tapeAt_17 q_ic_0 ?_
    have h := Option.some.inj h; subst h
    exact a_iret (pc := 18) X trivial dX12_tapeAt_18
  · have h := x_ifn c_5 h
    refine a_aload_n (pc := 8) X 0 dX12_tapeAt_8 rfl rfl ?_
    refine a_getR (pc := 9) X 0 1 1 fl_RX12_7 rfl rfl rfl rfl rfl dX12_tapeAt_9 ?_
    refine a_iload_n (pc := 12) X 1 dX12_tapeAt_12 rfl rfl ?_
    obtain ⟨c_13, h⟩ := x_ck_elim h
    refine a_iald (pc := 13) X 0 rfl rfl rfl c_13 dX12_tapeAt_13 ?_
    refine a_goto (pc := 14) X 18 dX12_tapeAt_14 rfl ?_
    have h := Option.some.inj h; subst h
    exact a_iret (pc := 18) X trivial dX12_tapeAt_18
theorem dX12_isDigit_0 : decode cX12_isDigit 0 = .ok (.iload_n 0, 1) := by decide +kernel
theorem dX12_isDigit_1 : decode cX12_isDigit 1 = .ok (.bipush 48, 2) := by decide +kernel
theorem dX12_isDigit_3 : decode cX12_isDigit 3 = .ok (.if_icmp .lt 13, 3) := by decide +kernel
theorem dX12_isDigit_6 : decode cX12_isDigit 6 = .ok (.iload_n 0, 1) := by decide +kernel
theorem dX12_isDigit_7 : decode cX12_isDigit 7 = .ok (.bipush 57, 2) := by decide +kernel
theorem dX12_isDigit_9 : decode cX12_isDigit 9 = .ok (.if_icmp .gt 7, 3) := by decide +kernel
theorem dX12_isDigit_12 : decode cX12_isDigit 12 = .ok (.iconst 1, 1) := by decide +kernel
theorem dX12_isDigit_13 : decode cX12_isDigit 13 = .ok (.goto 4, 3) := by decide +kernel
theorem dX12_isDigit_16 : decode cX12_isDigit 16 = .ok (.iconst 0, 1) := by decide +kernel
theorem dX12_isDigit_17 : decode cX12_isDigit 17 = .ok (.ireturn, 1) := by decide +kernel
def f_X12_isDigit (x0 : Int32) : Int32 :=
  if (x0 : Int32) < (48 : Int32) then
  (((0 : Int32) : Int32))
  else (if ((57 : Int32) : Int32) < x0 then
  (((0 : Int32) : Int32))
  else (((1 : Int32) : Int32)))
set_option maxRecDepth 100000 in
set_option maxHeartbeats 4000000 in
theorem c_X12_isDigit {l : Launch}   {x0 : Int32}  {o : Int32} (h : f_X12_isDigit x0 = o) : CT l yX12_isDigit cX12_isDigit 1 (some .boolean) 0 [] [] (fun aK => [.int x0]) (some (.int o)) (x_Z o) [] := by
  refine CT_of (by decide) (fun _ => Nat.le_of_ble_eq_true rfl) ?_
  intro p e s m args below meth c D tc aK aV A X
  have X : Cx p s m args meth c cX12_isDigit 1 (some .boolean) RX12 D tc aK aV A [] := X
  show aW p l e (x_Rm 0) s m args below meth c D tc A 1 [] (some (.int o)) (x_Z o) [] 0 [(0, .int x0)] [] []
  unfold f_X12_isDigit at h
  refine a_iload_n (pc := 0) X 0 dX12_isDigit_0 rfl rfl ?_
  refine a_bipush (pc := 1) X dX12_isDigit_1 q_bp_48 ?_
  refine a_icmp_lt (pc := 3) X 16 dX12_isDigit_3 rfl (fun c_3 => ?_) (fun c_3 => ?_)
  · have h := x_ifp c_3 h
    refine a_iconst (pc := 16) X dX12_isDigit_16 q_ic_0 ?_
    subst h
    exact a_zret (pc := 17) X x_Z0 x_Z0 dX12_isDigit_17
  · have h := x_ifn c_3 h
    refine a_iload_n (pc := 6) X 0 dX12_isDigit_6 rfl rfl ?_
    refine a_bipush (pc := 7) X dX12_isDigit_7 q_bp_57 ?_
    refine a_icmp_gt (pc := 9) X 16 dX12_isDigit_9 rfl (fun c_9 => ?_) (fun c_9 => ?_)
    · have h := x_ifp c_9 h
      refine a_iconst (pc := 16) X dX12_isDigit_16 q_ic_0 ?_
      subst h
      exact a_zret (pc := 17) X x_Z0 x_Z0 dX12_isDigit_17
    · have h := x_ifn c_9 h
      refine a_iconst (pc := 12) X dX12_isDigit_12 q_ic_1 ?_
      refine a_goto (pc := 13) X 17 dX12_isDigit_13 rfl ?_
      subst h
      exact a_zret (pc := 17) X x_Z1 x_Z1 dX12_isDigit_17
theorem dX12_isLetter_0 : decode cX12_isLetter 0 = .ok (.iload_n 0, 1) := by decide +kernel
theorem dX12_isLetter_1 : decode cX12_isLetter 1 = .ok (.bipush 97, 2) := by decide +kernel
theorem dX12_isLetter_3 : decode cX12_isLetter 3 = .ok (.if_icmp .lt 13, 3) := by decide +kernel
theorem dX12_isLetter_6 : decode cX12_isLetter 6 = .ok (.iload_n 0, 1) := by decide +kernel
theorem dX12_isLetter_7 : decode cX12_isLetter 7 = .ok (.bipush 122, 2) := by decide +kernel
theorem dX12_isLetter_9 : decode cX12_isLetter 9 = .ok (.if_icmp .gt 7, 3) := by decide +kernel
theorem dX12_isLetter_12 : decode cX12_isLetter 12 = .ok (.iconst 1, 1) := by decide +kernel
theorem dX12_isLetter_13 : decode cX12_isLetter 13 = .ok (.goto 4, 3) := by decide +kernel
theorem dX12_isLetter_16 : decode cX12_isLetter 16 = .ok (.iconst 0, 1) := by decide +kernel
theorem dX12_isLetter_17 : decode cX12_isLetter 17 = .ok (.ireturn, 1) := by decide +kernel
def f_X12_isLetter (x0 : Int32) : Int32 :=
  if (x0 : Int32) < (97 : Int32) then
  (((0 : Int32) : Int32))
  else (if ((122 : Int32) : Int32) < x0 then
  (((0 : Int32) : Int32))
  else (((1 : Int32) : Int32)))
set_option maxRecDepth 100000 in
set_option maxHeartbeats 4000000 in
theorem c_X12_isLetter {l : Launch}   {x0 : Int32}  {o : Int32} (h : f_X12_isLetter x0 = o) : CT l yX12_isLetter cX12_isLetter 1 (some .boolean) 0 [] [] (fun aK => [.int x0]) (some (.int o)) (x_Z o) [] := by
  refine CT_of (by decide) (fun _ => Nat.le_of_ble_eq_true rfl) ?_
  intro p e s m args below meth c D tc aK aV A X
  have X : Cx p s m args meth c cX12_isLetter 1 (some .boolean) RX12 D tc aK aV A [] := X
  show aW p l e (x_Rm 0) s m args below meth c D tc A 1 [] (some (.int o)) (x_Z o) [] 0 [(0, .int x0)] [] []
  unfold f_X12_isLetter at h
  refine a_iload_n (pc := 0) X 0 dX12_isLetter_0 rfl rfl ?_
  refine a_bipush (pc := 1) X dX12_isLetter_1 q_bp_97 ?_
  refine a_icmp_lt (pc := 3) X 16 dX12_isLetter_3 rfl (fun c_3 => ?_) (fun c_3 => ?_)
  · have h := x_ifp c_3 h
    refine a_iconst (pc := 16) X dX12_isLetter_16 q_ic_0 ?_
    subst h
    exact a_zret (pc := 17) X x_Z0 x_Z0 dX12_isLetter_17
  · have h := x_ifn c_3 h
    refine a_iload_n (pc := 6) X 0 dX12_isLetter_6 rfl rfl ?_
    refine a_bipush (pc := 7) X dX12_isLetter_7 q_bp_122 ?_
    refine a_icmp_gt (pc := 9) X 16 dX12_isLetter_9 rfl (fun c_9 => ?_) (fun c_9 => ?_)
    · have h := x_ifp c_9 h
      refine a_iconst (pc := 16) X dX12_isLetter_16 q_ic_0 ?_
      subst h
      exact a_zret (pc := 17) X x_Z0 x_Z0 dX12_isLetter_17
    · have h := x_ifn c_9 h
      refine a_iconst (pc := 12) X dX12_isLetter_12 q_ic_1 ?_
      refine a_goto (pc := 13) X 17 dX12_isLetter_13 rfl ?_
      subst h
      exact a_zret (pc := 17) X x_Z1 x_Z1 dX12_isLetter_17
theorem dX12_go_0 : decode cX12_go 0 = .ok (.aload_n 0, 1) := by decide +kernel
theorem dX12_go_1 : decode cX12_go 1 = .ok (.getfield 21, 3) := by decide +kernel
theorem dX12_go_4 : decode cX12_go 4 = .ok (.aload_n 0, 1) := by decide +kernel
theorem dX12_go_5 : decode cX12_go 5 = .ok (.getfield 18, 3) := by decide +kernel
theorem dX12_go_8 : decode cX12_go 8 = .ok (.if_icmp .ge 44, 3) := by decide +kernel
theorem dX12_go_11 : decode cX12_go 11 = .ok (.aload_n 0, 1) := by decide +kernel
theorem dX12_go_12 : decode cX12_go 12 = .ok (.getfield 7, 3) := by decide +kernel
theorem dX12_go_15 : decode cX12_go 15 = .ok (.aload_n 0, 1) := by decide +kernel
theorem dX12_go_16 : decode cX12_go 16 = .ok (.getfield 21, 3) := by decide +kernel
theorem dX12_go_19 : decode cX12_go 19 = .ok (.iaload, 1) := by decide +kernel
theorem dX12_go_20 : decode cX12_go 20 = .ok (.bipush 32, 2) := by decide +kernel
theorem dX12_go_22 : decode cX12_go 22 = .ok (.if_icmp .eq 17, 3) := by decide +kernel
theorem dX12_go_25 : decode cX12_go 25 = .ok (.aload_n 0, 1) := by decide +kernel
theorem dX12_go_26 : decode cX12_go 26 = .ok (.getfield 7, 3) := by decide +kernel
theorem dX12_go_29 : decode cX12_go 29 = .ok (.aload_n 0, 1) := by decide +kernel
theorem dX12_go_30 : decode cX12_go 30 = .ok (.getfield 21, 3) := by decide +kernel
theorem dX12_go_33 : decode cX12_go 33 = .ok (.iaload, 1) := by decide +kernel
theorem dX12_go_34 : decode cX12_go 34 = .ok (.bipush 10, 2) := by decide +kernel
theorem dX12_go_36 : decode cX12_go 36 = .ok (.if_icmp .ne 16, 3) := by decide +kernel
theorem dX12_go_39 : decode cX12_go 39 = .ok (.aload_n 0, 1) := by decide +kernel
theorem dX12_go_40 : decode cX12_go 40 = .ok (.dup, 1) := by decide +kernel
theorem dX12_go_41 : decode cX12_go 41 = .ok (.getfield 21, 3) := by decide +kernel
theorem dX12_go_44 : decode cX12_go 44 = .ok (.iconst 1, 1) := by decide +kernel
theorem dX12_go_45 : decode cX12_go 45 = .ok (.iadd, 1) := by decide +kernel
theorem dX12_go_46 : decode cX12_go 46 = .ok (.putfield 21, 3) := by decide +kernel
theorem dX12_go_49 : decode cX12_go 49 = .ok (.goto (-49), 3) := by decide +kernel
theorem dX12_go_52 : decode cX12_go 52 = .ok (.aload_n 0, 1) := by decide +kernel
theorem dX12_go_53 : decode cX12_go 53 = .ok (.aload_n 0, 1) := by decide +kernel
theorem dX12_go_54 : decode cX12_go 54 = .ok (.getfield 21, 3) := by decide +kernel
theorem dX12_go_57 : decode cX12_go 57 = .ok (.putfield 24, 3) := by decide +kernel
theorem dX12_go_60 : decode cX12_go 60 = .ok (.aload_n 0, 1) := by decide +kernel
theorem dX12_go_61 : decode cX12_go 61 = .ok (.getfield 18, 3) := by decide +kernel
theorem dX12_go_64 : decode cX12_go 64 = .ok (.aload_n 0, 1) := by decide +kernel
theorem dX12_go_65 : decode cX12_go 65 = .ok (.getfield 27, 3) := by decide +kernel
theorem dX12_go_68 : decode cX12_go 68 = .ok (.if_icmp .le 28, 3) := by decide +kernel
theorem dX12_go_71 : decode cX12_go 71 = .ok (.aload_n 0, 1) := by decide +kernel
theorem dX12_go_72 : decode cX12_go 72 = .ok (.getfield 24, 3) := by decide +kernel
theorem dX12_go_75 : decode cX12_go 75 = .ok (.aload_n 0, 1) := by decide +kernel
theorem dX12_go_76 : decode cX12_go 76 = .ok (.getfield 27, 3) := by decide +kernel
theorem dX12_go_79 : decode cX12_go 79 = .ok (.if_icmp .lt 17, 3) := by decide +kernel
theorem dX12_go_82 : decode cX12_go 82 = .ok (.aload_n 0, 1) := by decide +kernel
theorem dX12_go_83 : decode cX12_go 83 = .ok (.aload_n 0, 1) := by decide +kernel
theorem dX12_go_84 : decode cX12_go 84 = .ok (.getfield 27, 3) := by decide +kernel
theorem dX12_go_87 : decode cX12_go 87 = .ok (.putfield 24, 3) := by decide +kernel
theorem dX12_go_90 : decode cX12_go 90 = .ok (.aload_n 0, 1) := by decide +kernel
theorem dX12_go_91 : decode cX12_go 91 = .ok (.iconst 1, 1) := by decide +kernel
theorem dX12_go_92 : decode cX12_go 92 = .ok (.putfield 30, 3) := by decide +kernel
theorem dX12_go_95 : decode cX12_go 95 = .ok (.return_, 1) := by decide +kernel
theorem dX12_go_96 : decode cX12_go 96 = .ok (.aload_n 0, 1) := by decide +kernel
theorem dX12_go_97 : decode cX12_go 97 = .ok (.getfield 21, 3) := by decide +kernel
theorem dX12_go_100 : decode cX12_go 100 = .ok (.aload_n 0, 1) := by decide +kernel
theorem dX12_go_101 : decode cX12_go 101 = .ok (.getfield 18, 3) := by decide +kernel
theorem dX12_go_104 : decode cX12_go 104 = .ok (.if_icmp .lt 9, 3) := by decide +kernel
theorem dX12_go_107 : decode cX12_go 107 = .ok (.aload_n 0, 1) := by decide +kernel
theorem dX12_go_108 : decode cX12_go 108 = .ok (.iconst 0, 1) := by decide +kernel
theorem dX12_go_109 : decode cX12_go 109 = .ok (.putfield 30, 3) := by decide +kernel
theorem dX12_go_112 : decode cX12_go 112 = .ok (.return_, 1) := by decide +kernel
theorem dX12_go_113 : decode cX12_go 113 = .ok (.aload_n 0, 1) := by decide +kernel
theorem dX12_go_114 : decode cX12_go 114 = .ok (.getfield 7, 3) := by decide +kernel
theorem dX12_go_117 : decode cX12_go 117 = .ok (.aload_n 0, 1) := by decide +kernel
theorem dX12_go_118 : decode cX12_go 118 = .ok (.getfield 21, 3) := by decide +kernel
theorem dX12_go_121 : decode cX12_go 121 = .ok (.iaload, 1) := by decide +kernel
theorem dX12_go_122 : decode cX12_go 122 = .ok (.istore_n 1, 1) := by decide +kernel
theorem dX12_go_123 : decode cX12_go 123 = .ok (.iload_n 1, 1) := by decide +kernel
theorem dX12_go_124 : decode cX12_go 124 = .ok (.invokestatic 33, 3) := by decide +kernel
theorem dX12_go_127 : decode cX12_go 127 = .ok (.ifCond .ne 71, 3) := by decide +kernel
theorem dX12_go_130 : decode cX12_go 130 = .ok (.iload_n 1, 1) := by decide +kernel
theorem dX12_go_131 : decode cX12_go 131 = .ok (.invokestatic 37, 3) := by decide +kernel
theorem dX12_go_134 : decode cX12_go 134 = .ok (.ifCond .ne 64, 3) := by decide +kernel
theorem dX12_go_137 : decode cX12_go 137 = .ok (.aload_n 0, 1) := by decide +kernel
theorem dX12_go_138 : decode cX12_go 138 = .ok (.iload_n 1, 1) := by decide +kernel
theorem dX12_go_139 : decode cX12_go 139 = .ok (.bipush 59, 2) := by decide +kernel
theorem dX12_go_141 : decode cX12_go 141 = .ok (.if_icmp .eq 33, 3) := by decide +kernel
theorem dX12_go_144 : decode cX12_go 144 = .ok (.iload_n 1, 1) := by decide +kernel
theorem dX12_go_145 : decode cX12_go 145 = .ok (.bipush 60, 2) := by decide +kernel
theorem dX12_go_147 : decode cX12_go 147 = .ok (.if_icmp .eq 27, 3) := by decide +kernel
theorem dX12_go_150 : decode cX12_go 150 = .ok (.iload_n 1, 1) := by decide +kernel
theorem dX12_go_151 : decode cX12_go 151 = .ok (.bipush 61, 2) := by decide +kernel
theorem dX12_go_153 : decode cX12_go 153 = .ok (.if_icmp .eq 21, 3) := by decide +kernel
theorem dX12_go_156 : decode cX12_go 156 = .ok (.iload_n 1, 1) := by decide +kernel
theorem dX12_go_157 : decode cX12_go 157 = .ok (.bipush 62, 2) := by decide +kernel
theorem dX12_go_159 : decode cX12_go 159 = .ok (.if_icmp .eq 15, 3) := by decide +kernel
theorem dX12_go_162 : decode cX12_go 162 = .ok (.iload_n 1, 1) := by decide +kernel
theorem dX12_go_163 : decode cX12_go 163 = .ok (.bipush 40, 2) := by decide +kernel
theorem dX12_go_165 : decode cX12_go 165 = .ok (.if_icmp .eq 9, 3) := by decide +kernel
theorem dX12_go_168 : decode cX12_go 168 = .ok (.iload_n 1, 1) := by decide +kernel
theorem dX12_go_169 : decode cX12_go 169 = .ok (.bipush 41, 2) := by decide +kernel
theorem dX12_go_171 : decode cX12_go 171 = .ok (.if_icmp .ne 7, 3) := by decide +kernel
theorem dX12_go_174 : decode cX12_go 174 = .ok (.iconst 4, 1) := by decide +kernel
theorem dX12_go_175 : decode cX12_go 175 = .ok (.goto 4, 3) := by decide +kernel
theorem dX12_go_178 : decode cX12_go 178 = .ok (.iconst 1, 1) := by decide +kernel
theorem dX12_go_179 : decode cX12_go 179 = .ok (.putfield 30, 3) := by decide +kernel
theorem dX12_go_182 : decode cX12_go 182 = .ok (.aload_n 0, 1) := by decide +kernel
theorem dX12_go_183 : decode cX12_go 183 = .ok (.iload_n 1, 1) := by decide +kernel
theorem dX12_go_184 : decode cX12_go 184 = .ok (.putfield 40, 3) := by decide +kernel
theorem dX12_go_187 : decode cX12_go 187 = .ok (.aload_n 0, 1) := by decide +kernel
theorem dX12_go_188 : decode cX12_go 188 = .ok (.dup, 1) := by decide +kernel
theorem dX12_go_189 : decode cX12_go 189 = .ok (.getfield 21, 3) := by decide +kernel
theorem dX12_go_192 : decode cX12_go 192 = .ok (.iconst 1, 1) := by decide +kernel
theorem dX12_go_193 : decode cX12_go 193 = .ok (.iadd, 1) := by decide +kernel
theorem dX12_go_194 : decode cX12_go 194 = .ok (.putfield 21, 3) := by decide +kernel
theorem dX12_go_197 : decode cX12_go 197 = .ok (.return_, 1) := by decide +kernel
theorem dX12_go_198 : decode cX12_go 198 = .ok (.iload_n 1, 1) := by decide +kernel
theorem dX12_go_199 : decode cX12_go 199 = .ok (.invokestatic 33, 3) := by decide +kernel
theorem dX12_go_202 : decode cX12_go 202 = .ok (.istore_n 2, 1) := by decide +kernel
theorem dX12_go_203 : decode cX12_go 203 = .ok (.iconst 1, 1) := by decide +kernel
theorem dX12_go_204 : decode cX12_go 204 = .ok (.istore_n 3, 1) := by decide +kernel
theorem dX12_go_205 : decode cX12_go 205 = .ok (.aload_n 0, 1) := by decide +kernel
theorem dX12_go_206 : decode cX12_go 206 = .ok (.lconst 0, 1) := by decide +kernel
theorem dX12_go_207 : decode cX12_go 207 = .ok (.putfield 43, 3) := by decide +kernel
theorem dX12_go_210 : decode cX12_go 210 = .ok (.aload_n 0, 1) := by decide +kernel
theorem dX12_go_211 : decode cX12_go 211 = .ok (.iconst 0, 1) := by decide +kernel
theorem dX12_go_212 : decode cX12_go 212 = .ok (.putfield 47, 3) := by decide +kernel
theorem dX12_go_215 : decode cX12_go 215 = .ok (.aload_n 0, 1) := by decide +kernel
theorem dX12_go_216 : decode cX12_go 216 = .ok (.aload_n 0, 1) := by decide +kernel
theorem dX12_go_217 : decode cX12_go 217 = .ok (.getfield 21, 3) := by decide +kernel
theorem dX12_go_220 : decode cX12_go 220 = .ok (.invokevirtual 50, 3) := by decide +kernel
theorem dX12_go_223 : decode cX12_go 223 = .ok (.invokestatic 33, 3) := by decide +kernel
theorem dX12_go_226 : decode cX12_go 226 = .ok (.ifCond .ne 17, 3) := by decide +kernel
theorem dX12_go_229 : decode cX12_go 229 = .ok (.aload_n 0, 1) := by decide +kernel
theorem dX12_go_230 : decode cX12_go 230 = .ok (.aload_n 0, 1) := by decide +kernel
theorem dX12_go_231 : decode cX12_go 231 = .ok (.getfield 21, 3) := by decide +kernel
theorem dX12_go_234 : decode cX12_go 234 = .ok (.invokevirtual 50, 3) := by decide +kernel
theorem dX12_go_237 : decode cX12_go 237 = .ok (.invokestatic 37, 3) := by decide +kernel
theorem dX12_go_240 : decode cX12_go 240 = .ok (.ifCond .eq 110, 3) := by decide +kernel
theorem dX12_go_243 : decode cX12_go 243 = .ok (.aload_n 0, 1) := by decide +kernel
theorem dX12_go_244 : decode cX12_go 244 = .ok (.getfield 7, 3) := by decide +kernel
theorem dX12_go_247 : decode cX12_go 247 = .ok (.aload_n 0, 1) := by decide +kernel
theorem dX12_go_248 : decode cX12_go 248 = .ok (.getfield 21, 3) := by decide +kernel
theorem dX12_go_251 : decode cX12_go 251 = .ok (.iaload, 1) := by decide +kernel
theorem dX12_go_252 : decode cX12_go 252 = .ok (.istore 4, 2) := by decide +kernel
theorem dX12_go_254 : decode cX12_go 254 = .ok (.iload_n 3, 1) := by decide +kernel
theorem dX12_go_255 : decode cX12_go 255 = .ok (.ifCond .eq 16, 3) := by decide +kernel
theorem dX12_go_258 : decode cX12_go 258 = .ok (.iload 4, 2) := by decide +kernel
theorem dX12_go_260 : decode cX12_go 260 = .ok (.invokestatic 33, 3) := by decide +kernel
theorem dX12_go_263 : decode cX12_go 263 = .ok (.iload_n 2, 1) := by decide +kernel
theorem dX12_go_264 : decode cX12_go 264 = .ok (.if_icmp .ne 7, 3) := by decide +kernel
theorem dX12_go_267 : decode cX12_go 267 = .ok (.iconst 1, 1) := by decide +kernel
theorem dX12_go_268 : decode cX12_go 268 = .ok (.goto 4, 3) := by decide +kernel
theorem dX12_go_271 : decode cX12_go 271 = .ok (.iconst 0, 1) := by decide +kernel
theorem dX12_go_272 : decode cX12_go 272 = .ok (.istore_n 3, 1) := by decide +kernel
theorem dX12_go_273 : decode cX12_go 273 = .ok (.aload_n 0, 1) := by decide +kernel
theorem dX12_go_274 : decode cX12_go 274 = .ok (.getfield 21, 3) := by decide +kernel
theorem dX12_go_277 : decode cX12_go 277 = .ok (.aload_n 0, 1) := by decide +kernel
theorem dX12_go_278 : decode cX12_go 278 = .ok (.getfield 24, 3) := by decide +kernel
theorem dX12_go_281 : decode cX12_go 281 = .ok (.isub, 1) := by decide +kernel
theorem dX12_go_282 : decode cX12_go 282 = .ok (.bipush 7, 2) := by decide +kernel
theorem dX12_go_284 : decode cX12_go 284 = .ok (.if_icmp .ge 23, 3) := by decide +kernel
theorem dX12_go_287 : decode cX12_go 287 = .ok (.aload_n 0, 1) := by decide +kernel
theorem dX12_go_288 : decode cX12_go 288 = .ok (.ldc2_w 54, 3) := by decide +kernel
theorem dX12_go_291 : decode cX12_go 291 = .ok (.aload_n 0, 1) := by decide +kernel
theorem dX12_go_292 : decode cX12_go 292 = .ok (.getfield 43, 3) := by decide +kernel
theorem dX12_go_295 : decode cX12_go 295 = .ok (.lmul, 1) := by decide +kernel
theorem dX12_go_296 : decode cX12_go 296 = .ok (.iload 4, 2) := by decide +kernel
theorem dX12_go_298 : decode cX12_go 298 = .ok (.i2l, 1) := by decide +kernel
theorem dX12_go_299 : decode cX12_go 299 = .ok (.ladd, 1) := by decide +kernel
theorem dX12_go_300 : decode cX12_go 300 = .ok (.ldc2_w 56, 3) := by decide +kernel
theorem dX12_go_303 : decode cX12_go 303 = .ok (.lsub, 1) := by decide +kernel
theorem dX12_go_304 : decode cX12_go 304 = .ok (.putfield 43, 3) := by decide +kernel
theorem dX12_go_307 : decode cX12_go 307 = .ok (.aload_n 0, 1) := by decide +kernel
theorem dX12_go_308 : decode cX12_go 308 = .ok (.getfield 21, 3) := by decide +kernel
theorem dX12_go_311 : decode cX12_go 311 = .ok (.aload_n 0, 1) := by decide +kernel
theorem dX12_go_312 : decode cX12_go 312 = .ok (.getfield 24, 3) := by decide +kernel
theorem dX12_go_315 : decode cX12_go 315 = .ok (.isub, 1) := by decide +kernel
theorem dX12_go_316 : decode cX12_go 316 = .ok (.iconst 3, 1) := by decide +kernel
theorem dX12_go_317 : decode cX12_go 317 = .ok (.if_icmp .ge 20, 3) := by decide +kernel
theorem dX12_go_320 : decode cX12_go 320 = .ok (.aload_n 0, 1) := by decide +kernel
theorem dX12_go_321 : decode cX12_go 321 = .ok (.bipush 10, 2) := by decide +kernel
theorem dX12_go_323 : decode cX12_go 323 = .ok (.aload_n 0, 1) := by decide +kernel
theorem dX12_go_324 : decode cX12_go 324 = .ok (.getfield 47, 3) := by decide +kernel
theorem dX12_go_327 : decode cX12_go 327 = .ok (.imul, 1) := by decide +kernel
theorem dX12_go_328 : decode cX12_go 328 = .ok (.iload 4, 2) := by decide +kernel
theorem dX12_go_330 : decode cX12_go 330 = .ok (.iadd, 1) := by decide +kernel
theorem dX12_go_331 : decode cX12_go 331 = .ok (.bipush 48, 2) := by decide +kernel
theorem dX12_go_333 : decode cX12_go 333 = .ok (.isub, 1) := by decide +kernel
theorem dX12_go_334 : decode cX12_go 334 = .ok (.putfield 47, 3) := by decide +kernel
theorem dX12_go_337 : decode cX12_go 337 = .ok (.aload_n 0, 1) := by decide +kernel
theorem dX12_go_338 : decode cX12_go 338 = .ok (.dup, 1) := by decide +kernel
theorem dX12_go_339 : decode cX12_go 339 = .ok (.getfield 21, 3) := by decide +kernel
theorem dX12_go_342 : decode cX12_go 342 = .ok (.iconst 1, 1) := by decide +kernel
theorem dX12_go_343 : decode cX12_go 343 = .ok (.iadd, 1) := by decide +kernel
theorem dX12_go_344 : decode cX12_go 344 = .ok (.putfield 21, 3) := by decide +kernel
theorem dX12_go_347 : decode cX12_go 347 = .ok (.goto (-132), 3) := by decide +kernel
theorem dX12_go_350 : decode cX12_go 350 = .ok (.aload_n 0, 1) := by decide +kernel
theorem dX12_go_351 : decode cX12_go 351 = .ok (.iload_n 3, 1) := by decide +kernel
theorem dX12_go_352 : decode cX12_go 352 = .ok (.ifCond .eq 25, 3) := by decide +kernel
theorem dX12_go_355 : decode cX12_go 355 = .ok (.aload_n 0, 1) := by decide +kernel
theorem dX12_go_356 : decode cX12_go 356 = .ok (.getfield 21, 3) := by decide +kernel
theorem dX12_go_359 : decode cX12_go 359 = .ok (.aload_n 0, 1) := by decide +kernel
theorem dX12_go_360 : decode cX12_go 360 = .ok (.getfield 24, 3) := by decide +kernel
theorem dX12_go_363 : decode cX12_go 363 = .ok (.isub, 1) := by decide +kernel
theorem dX12_go_364 : decode cX12_go 364 = .ok (.iload_n 2, 1) := by decide +kernel
theorem dX12_go_365 : decode cX12_go 365 = .ok (.ifCond .eq 8, 3) := by decide +kernel
theorem dX12_go_368 : decode cX12_go 368 = .ok (.bipush 7, 2) := by decide +kernel
theorem dX12_go_370 : decode cX12_go 370 = .ok (.goto 4, 3) := by decide +kernel
theorem dX12_go_373 : decode cX12_go 373 = .ok (.iconst 3, 1) := by decide +kernel
theorem dX12_go_374 : decode cX12_go 374 = .ok (.if_icmp .le 7, 3) := by decide +kernel
theorem dX12_go_377 : decode cX12_go 377 = .ok (.iconst 1, 1) := by decide +kernel
theorem dX12_go_378 : decode cX12_go 378 = .ok (.goto 12, 3) := by decide +kernel
theorem dX12_go_381 : decode cX12_go 381 = .ok (.iload_n 2, 1) := by decide +kernel
theorem dX12_go_382 : decode cX12_go 382 = .ok (.ifCond .eq 7, 3) := by decide +kernel
theorem dX12_go_385 : decode cX12_go 385 = .ok (.iconst 2, 1) := by decide +kernel
theorem dX12_go_386 : decode cX12_go 386 = .ok (.goto 4, 3) := by decide +kernel
theorem dX12_go_389 : decode cX12_go 389 = .ok (.iconst 3, 1) := by decide +kernel
theorem dX12_go_390 : decode cX12_go 390 = .ok (.putfield 30, 3) := by decide +kernel
theorem dX12_go_393 : decode cX12_go 393 = .ok (.return_, 1) := by decide +kernel
def f_X12_go_39 (k0 : XM → Option (XM)) (w0 : XM) : Option (XM) :=
  x_lt (x_si w0 0 5 ((w0.1 0 5) + (1 : Int32))) (fun m1 =>
  k0 m1)
def f_X12_go_179 (w0 : XM) (l1 : Int32) (s1 : Int32) : Option (XM) :=
  x_lt (x_si w0 0 7 s1) (fun m2 =>
  x_lt (x_si m2 0 9 l1) (fun m3 =>
  x_lt (x_si m3 0 5 ((m3.1 0 5) + (1 : Int32))) (fun m4 =>
  some m4)))
def f_X12_go_174 (w0 : XM) (l1 : Int32) : Option (XM) :=
  f_X12_go_179   w0 l1 (4 : Int32)
def f_X12_go_337 (k215 : XM → Int32 → Int32 → Option (XM)) (w0 : XM) (l2 : Int32) (l3 : Int32) : Option (XM) :=
  x_lt (x_si w0 0 5 ((w0.1 0 5) + (1 : Int32))) (fun m5 =>
  k215 m5 l2 l3)
def f_X12_go_307 (k215 : XM → Int32 → Int32 → Option (XM)) (w0 : XM) (l2 : Int32) (l3 : Int32) (l4 : Int32) : Option (XM) :=
  if ((3 : Int32) : Int32) ≤ ((w0.1 0 5) - (w0.1 0 6)) then
  (f_X12_go_337  k215 w0 l2 l3)
  else (x_lt ((((10 : Int32) * (w0.1 0 8)) + l4) - (48 : Int32)) (fun y6 =>
  x_lt (x_si w0 0 8 y6) (fun m7 =>
  f_X12_go_337  k215 m7 l2 l3)))
def f_X12_go_272 (k215 : XM → Int32 → Int32 → Option (XM)) (w0 : XM) (l2 : Int32) (l4 : Int32) (s0 : Int32) : Option (XM) :=
  if ((7 : Int32) : Int32) ≤ ((w0.1 0 5) - (w0.1 0 6)) then
  (f_X12_go_307  k215 w0 l2 s0 l4)
  else (x_lt (((27 : Int64) * (w0.2 0 12)) + ((l4 : Int32).toInt64)) (fun y8 =>
  x_lt (x_sl w0 0 12 (y8 - (96 : Int64))) (fun m9 =>
  f_X12_go_307  k215 m9 l2 s0 l4)))
def f_X12_go_271 (k215 : XM → Int32 → Int32 → Option (XM)) (w0 : XM) (l2 : Int32) (l4 : Int32) : Option (XM) :=
  f_X12_go_272  k215 w0 l2 l4 (0 : Int32)
def f_X12_go_243 (k215 : XM → Int32 → Int32 → Option (XM)) (w0 : XM) (l2 : Int32) (l3 : Int32) : Option (XM) :=
  x_ck (w0.1 0 5) 940 (
  if l3 = (0 : Int32) then
  (f_X12_go_271  k215 w0 l2 (x_ga w0 1 (w0.1 0 5)))
  else (x_lt (f_X12_isLetter (x_ga w0 1 (w0.1 0 5))) (fun y10 =>
  if (y10 : Int32) = l2 then
  (f_X12_go_272  k215 w0 l2 (x_ga w0 1 (w0.1 0 5)) (1 : Int32))
  else (f_X12_go_271  k215 w0 l2 (x_ga w0 1 (w0.1 0 5))))))
def f_X12_go_374 (w0 : XM) (l2 : Int32) (s1 : Int32) (s2 : Int32) : Option (XM) :=
  if (s1 : Int32) ≤ s2 then
  (if l2 = (0 : Int32) then
  (x_lt (x_si w0 0 7 (3 : Int32)) (fun m11 =>
  some m11))
  else (x_lt (x_si w0 0 7 (2 : Int32)) (fun m12 =>
  some m12)))
  else (x_lt (x_si w0 0 7 (1 : Int32)) (fun m13 =>
  some m13))
def f_X12_go_215 (k215 : XM → Int32 → Int32 → Option (XM)) (w0 : XM) (l2 : Int32) (l3 : Int32) : Option (XM) :=
  x_bo (f_X12_tapeAt w0 (w0.1 0 5)) (fun y14 =>
  x_lt (f_X12_isLetter y14) (fun y15 =>
  if y15 = (0 : Int32) then
  (x_bo (f_X12_tapeAt w0 (w0.1 0 5)) (fun y16 =>
  x_lt (f_X12_isDigit y16) (fun y17 =>
  if y17 = (0 : Int32) then
  (if l3 = (0 : Int32) then
  (x_lt (x_si w0 0 7 (1 : Int32)) (fun m18 =>
  some m18))
  else (if l2 = (0 : Int32) then
  (f_X12_go_374   w0 l2 ((w0.1 0 5) - (w0.1 0 6)) (3 : Int32))
  else (f_X12_go_374   w0 l2 ((w0.1 0 5) - (w0.1 0 6)) (7 : Int32))))
  else (f_X12_go_243  k215 w0 l2 l3))))
  else (f_X12_go_243  k215 w0 l2 l3)))
def f_X12_go_198 (w0 : XM) (l1 : Int32) : Option (XM) :=
  x_lt (f_X12_isLetter l1) (fun y19 =>
  x_lt (x_sl w0 0 12 (0 : Int64)) (fun m20 =>
  x_lt (x_si m20 0 8 (0 : Int32)) (fun m21 =>
  x_lp (φ := XM → Int32 → Int32 → Option (XM)) (fun _ _ _ => none) (f_X12_go_215  ) x_NN m21 y19 (1 : Int32))))
def f_X12_go_96 (w0 : XM) : Option (XM) :=
  if ((w0.1 0 5) : Int32) < (w0.1 0 3) then
  (x_ck (w0.1 0 5) 940 (
  x_lt (f_X12_isLetter (x_ga w0 1 (w0.1 0 5))) (fun y22 =>
  if y22 = (0 : Int32) then
  (x_lt (f_X12_isDigit (x_ga w0 1 (w0.1 0 5))) (fun y23 =>
  if y23 = (0 : Int32) then
  (if ((x_ga w0 1 (w0.1 0 5)) : Int32) = (59 : Int32) then
  (f_X12_go_174   w0 (x_ga w0 1 (w0.1 0 5)))
  else (if ((x_ga w0 1 (w0.1 0 5)) : Int32) = (60 : Int32) then
  (f_X12_go_174   w0 (x_ga w0 1 (w0.1 0 5)))
  else (if ((x_ga w0 1 (w0.1 0 5)) : Int32) = (61 : Int32) then
  (f_X12_go_174   w0 (x_ga w0 1 (w0.1 0 5)))
  else (if ((x_ga w0 1 (w0.1 0 5)) : Int32) = (62 : Int32) then
  (f_X12_go_174   w0 (x_ga w0 1 (w0.1 0 5)))
  else (if ((x_ga w0 1 (w0.1 0 5)) : Int32) = (40 : Int32) then
  (f_X12_go_174   w0 (x_ga w0 1 (w0.1 0 5)))
  else (if ((x_ga w0 1 (w0.1 0 5)) : Int32) = (41 : Int32) then
  (f_X12_go_174   w0 (x_ga w0 1 (w0.1 0 5)))
  else (f_X12_go_179   w0 (x_ga w0 1 (w0.1 0 5)) (1 : Int32))))))))
  else (f_X12_go_198   w0 (x_ga w0 1 (w0.1 0 5)))))
  else (f_X12_go_198   w0 (x_ga w0 1 (w0.1 0 5))))))
  else (x_lt (x_si w0 0 7 (0 : Int32)) (fun m24 =>
  some m24))
def f_X12_go_52 (w0 : XM) : Option (XM) :=
  x_lt (x_si w0 0 6 (w0.1 0 5)) (fun m25 =>
  if ((m25.1 0 3) : Int32) ≤ (m25.1 0 4) then
  (f_X12_go_96   m25)
  else (if ((m25.1 0 6) : Int32) < (m25.1 0 4) then
  (f_X12_go_96   m25)
  else (x_lt (x_si m25 0 6 (m25.1 0 4)) (fun m26 =>
  x_lt (x_si m26 0 7 (1 : Int32)) (fun m27 =>
  some m27)))))
def f_X12_go_0 (k0 : XM → Option (XM)) (w0 : XM) : Option (XM) :=
  if ((w0.1 0 3) : Int32) ≤ (w0.1 0 5) then
  (f_X12_go_52   w0)
  else (x_ck (w0.1 0 5) 940 (
  if ((x_ga w0 1 (w0.1 0 5)) : Int32) = (32 : Int32) then
  (f_X12_go_39  k0 w0)
  else (x_ck (w0.1 0 5) 940 (
  if ((x_ga w0 1 (w0.1 0 5)) : Int32) = (10 : Int32) then
  (f_X12_go_39  k0 w0)
  else (f_X12_go_52   w0)))))
def f_X12_go (v0 : XM) : Option (XM) :=
  x_lp (φ := XM → Option (XM)) (fun _ => none) (f_X12_go_0  ) x_NN v0
set_option maxRecDepth 100000 in
set_option maxHeartbeats 4000000 in
theorem w_X12_go_39 {p : Program} {l : Launch} {e : Env} {s : State} {m : MethodId} {args : Array Value} {below : List Frame} {meth : Method} {c : Code} {D : va_G} {tc : Nat → ClassId} {aK aV : Nat → Nat} {A : Nat → Prop} {ad0 : Nat → Nat}  (X : Cx p s m args meth c cX12_go 5 none RX12 D tc aK aV A [(shModel, ad0)])  {o : XM} {k0 : XM → Option (XM)} (hk0 : ∀ (w0 : XM), k0 w0 = some o → aW p l e (x_Rm 1) s m args below meth c D tc A 5 [(shModel, ad0)] none True [o] 0 [(0, .ref (ad0 0))] [] [w0]) {w0 : XM}  (h : f_X12_go_39  k0 w0 = some o) : aW p l e (x_Rm 1) s m args below meth c D tc A 5 [(shModel, ad0)] none True [o] 39 [(0, .ref (ad0 0))] [] [w0] := by
  unfold f_X12_go_39 at h
  refine a_aload_n (pc := 39) X 0 dX12_go_39 rfl rfl ?_
  refine a_dup (pc := 40) X dX12_go_40 rfl ?_
  refine a_getI (pc := 41) X 0 fl_RX12_21 rfl rfl rfl rfl dX12_go_41 ?_
  refine a_iconst (pc := 44) X dX12_go_44 q_ic_1 ?_
  refine a_iadd (pc := 45) X dX12_go_45 ?_
  refine a_putI (pc := 46) X 0 fl_RX12_21 rfl rfl rfl rfl dX12_go_46 ?_
  obtain ⟨m1, e_m1, h⟩ := x_lt_elim h
  refine a_nm (vs2 := [m1]) (congrArg (fun q : XM => [q]) e_m1) ?_
  refine a_goto (pc := 49) X 0 dX12_go_49 rfl ?_
  exact hk0 _ h
set_option maxRecDepth 100000 in
set_option maxHeartbeats 4000000 in
theorem w_X12_go_179 {p : Program} {l : Launch} {e : Env} {s : State} {m : MethodId} {args : Array Value} {below : List Frame} {meth : Method} {c : Code} {D : va_G} {tc : Nat → ClassId} {aK aV : Nat → Nat} {A : Nat → Prop} {ad0 : Nat → Nat}  (X : Cx p s m args meth c cX12_go 5 none RX12 D tc aK aV A [(shModel, ad0)])  {o : XM}  {w0 : XM} {l1 : Int32} {s1 : Int32}  (h : f_X12_go_179   w0 l1 s1 = some o) : aW p l e (x_Rm 1) s m args below meth c D tc A 5 [(shModel, ad0)] none True [o] 179 [(0, .ref (ad0 0)), (1, .int l1)] [.int s1, .ref (ad0 0)] [w0] := by
  unfold f_X12_go_179 at h
  refine a_putI (pc := 179) X 0 fl_RX12_30 rfl rfl rfl rfl dX12_go_179 ?_
  obtain ⟨m2, e_m2, h⟩ := x_lt_elim h
  refine a_nm (vs2 := [m2]) (congrArg (fun q : XM => [q]) e_m2) ?_
  refine a_aload_n (pc := 182) X 0 dX12_go_182 rfl rfl ?_
  refine a_iload_n (pc := 183) X 1 dX12_go_183 rfl rfl ?_
  refine a_putI (pc := 184) X 0 fl_RX12_40 rfl rfl rfl rfl dX12_go_184 ?_
  obtain ⟨m3, e_m3, h⟩ := x_lt_elim h
  refine a_nm (vs2 := [m3]) (congrArg (fun q : XM => [q]) e_m3) ?_
  refine a_aload_n (pc := 187) X 0 dX12_go_187 rfl rfl ?_
  refine a_dup (pc := 188) X dX12_go_188 rfl ?_
  refine a_getI (pc := 189) X 0 fl_RX12_21 rfl rfl rfl rfl dX12_go_189 ?_
  refine a_iconst (pc := 192) X dX12_go_192 q_ic_1 ?_
  refine a_iadd (pc := 193) X dX12_go_193 ?_
  refine a_putI (pc := 194) X 0 fl_RX12_21 rfl rfl rfl rfl dX12_go_194 ?_
  obtain ⟨m4, e_m4, h⟩ := x_lt_elim h
  refine a_nm (vs2 := [m4]) (congrArg (fun q : XM => [q]) e_m4) ?_
  have h := Option.some.inj h; subst h
  exact a_vret (pc := 197) X trivial dX12_go_197
set_option maxRecDepth 100000 in
set_option maxHeartbeats 4000000 in
theorem w_X12_go_174 {p : Program} {l : Launch} {e : Env} {s : State} {m : MethodId} {args : Array Value} {below : List Frame} {meth : Method} {c : Code} {D : va_G} {tc : Nat → ClassId} {aK aV : Nat → Nat} {A : Nat → Prop} {ad0 : Nat → Nat}  (X : Cx p s m args meth c cX12_go 5 none RX12 D tc aK aV A [(shModel, ad0)])  {o : XM}  {w0 : XM} {l1 : Int32}  (h : f_X12_go_174   w0 l1 = some o) : aW p l e (x_Rm 1) s m args below meth c D tc A 5 [(shModel, ad0)] none True [o] 174 [(0, .ref (ad0 0)), (1, .int l1)] [.ref (ad0 0)] [w0] := by
  unfold f_X12_go_174 at h
  refine a_iconst (pc := 174) X dX12_go_174 q_ic_4 ?_
  refine a_goto (pc := 175) X 179 dX12_go_175 rfl ?_
  exact w_X12_go_179 X     h
set_option maxRecDepth 100000 in
set_option maxHeartbeats 4000000 in
theorem w_X12_go_337 {p : Program} {l : Launch} {e : Env} {s : State} {m : MethodId} {args : Array Value} {below : List Frame} {meth : Method} {c : Code} {D : va_G} {tc : Nat → ClassId} {aK aV : Nat → Nat} {A : Nat → Prop} {ad0 : Nat → Nat}  (X : Cx p s m args meth c cX12_go 5 none RX12 D tc aK aV A [(shModel, ad0)])  {o : XM} {k215 : XM → Int32 → Int32 → Option (XM)} (hk215 : ∀ (w0 : XM) (l2 : Int32) (l3 : Int32), k215 w0 l2 l3 = some o → aW p l e (x_Rm 1) s m args below meth c D tc A 5 [(shModel, ad0)] none True [o] 215 [(0, .ref (ad0 0)), (2, .int l2), (3, .int l3)] [] [w0]) {w0 : XM} {l2 : Int32} {l3 : Int32} (hzl3 : x_Z l3) (h : f_X12_go_337  k215 w0 l2 l3 = some o) : aW p l e (x_Rm 1) s m args below meth c D tc A 5 [(shModel, ad0)] none True [o] 337 [(0, .ref (ad0 0)), (2, .int l2), (3, .int l3)] [] [w0] := by
  unfold f_X12_go_337 at h
  refine a_aload_n (pc := 337) X 0 dX12_go_337 rfl rfl ?_
  refine a_dup (pc := 338) X dX12_go_338 rfl ?_
  refine a_getI (pc := 339) X 0 fl_RX12_21 rfl rfl rfl rfl dX12_go_339 ?_
  refine a_iconst (pc := 342) X dX12_go_342 q_ic_1 ?_
  refine a_iadd (pc := 343) X dX12_go_343 ?_
  refine a_putI (pc := 344) X 0 fl_RX12_21 rfl rfl rfl rfl dX12_go_344 ?_
  obtain ⟨m5, e_m5, h⟩ := x_lt_elim h
  refine a_nm (vs2 := [m5]) (congrArg (fun q : XM => [q]) e_m5) ?_
  refine a_goto (pc := 347) X 215 dX12_go_347 rfl ?_
  exact hk215 _ _ _ h
set_option maxRecDepth 100000 in
set_option maxHeartbeats 4000000 in
theorem w_X12_go_307 {p : Program} {l : Launch} {e : Env} {s : State} {m : MethodId} {args : Array Value} {below : List Frame} {meth : Method} {c : Code} {D : va_G} {tc : Nat → ClassId} {aK aV : Nat → Nat} {A : Nat → Prop} {ad0 : Nat → Nat}  (X : Cx p s m args meth c cX12_go 5 none RX12 D tc aK aV A [(shModel, ad0)])  {o : XM} {k215 : XM → Int32 → Int32 → Option (XM)} (hk215 : ∀ (w0 : XM) (l2 : Int32) (l3 : Int32), k215 w0 l2 l3 = some o → aW p l e (x_Rm 1) s m args below meth c D tc A 5 [(shModel, ad0)] none True [o] 215 [(0, .ref (ad0 0)), (2, .int l2), (3, .int l3)] [] [w0]) {w0 : XM} {l2 : Int32} {l3 : Int32} {l4 : Int32} (hzl3 : x_Z l3) (h : f_X12_go_307  k215 w0 l2 l3 l4 = some o) : aW p l e (x_Rm 1) s m args below meth c D tc A 5 [(shModel, ad0)] none True [o] 307 [(0, .ref (ad0 0)), (2, .int l2), (3, .int l3), (4, .int l4)] [] [w0] := by
  unfold f_X12_go_307 at h
  refine a_aload_n (pc := 307) X 0 dX12_go_307 rfl rfl ?_
  refine a_getI (pc := 308) X 0 fl_RX12_21 rfl rfl rfl rfl dX12_go_308 ?_
  refine a_aload_n (pc := 311) X 0 dX12_go_311 rfl rfl ?_
  refine a_getI (pc := 312) X 0 fl_RX12_24 rfl rfl rfl rfl dX12_go_312 ?_
  refine a_isub (pc := 315) X dX12_go_315 ?_
  refine a_iconst (pc := 316) X dX12_go_316 q_ic_3 ?_
  refine a_icmp_ge (pc := 317) X 337 dX12_go_317 rfl (fun c_317 => ?_) (fun c_317 => ?_)
  · have h := x_ifp c_317 h
    refine a_sub [0, 1, 2] rfl ?_
    exact w_X12_go_337 X   hk215 hzl3 h
  · have h := x_ifn c_317 h
    refine a_aload_n (pc := 320) X 0 dX12_go_320 rfl rfl ?_
    refine a_bipush (pc := 321) X dX12_go_321 q_bp_10 ?_
    refine a_aload_n (pc := 323) X 0 dX12_go_323 rfl rfl ?_
    refine a_getI (pc := 324) X 0 fl_RX12_47 rfl rfl rfl rfl dX12_go_324 ?_
    refine a_imul (pc := 327) X dX12_go_327 ?_
    refine a_iload (pc := 328) X 3 dX12_go_328 rfl ?_
    refine a_iadd (pc := 330) X dX12_go_330 ?_
    refine a_bipush (pc := 331) X dX12_go_331 q_bp_48 ?_
    refine a_isub (pc := 333) X dX12_go_333 ?_
    obtain ⟨y6, e_y6, h⟩ := x_lt_elim h
    refine a_ni e_y6 ?_
    refine a_putI (pc := 334) X 0 fl_RX12_47 rfl rfl rfl rfl dX12_go_334 ?_
    obtain ⟨m7, e_m7, h⟩ := x_lt_elim h
    refine a_nm (vs2 := [m7]) (congrArg (fun q : XM => [q]) e_m7) ?_
    refine a_sub [0, 1, 2] rfl ?_
    exact w_X12_go_337 X   hk215 hzl3 h
set_option maxRecDepth 100000 in
set_option maxHeartbeats 4000000 in
theorem w_X12_go_272 {p : Program} {l : Launch} {e : Env} {s : State} {m : MethodId} {args : Array Value} {below : List Frame} {meth : Method} {c : Code} {D : va_G} {tc : Nat → ClassId} {aK aV : Nat → Nat} {A : Nat → Prop} {ad0 : Nat → Nat}  (X : Cx p s m args meth c cX12_go 5 none RX12 D tc aK aV A [(shModel, ad0)])  {o : XM} {k215 : XM → Int32 → Int32 → Option (XM)} (hk215 : ∀ (w0 : XM) (l2 : Int32) (l3 : Int32), k215 w0 l2 l3 = some o → aW p l e (x_Rm 1) s m args below meth c D tc A 5 [(shModel, ad0)] none True [o] 215 [(0, .ref (ad0 0)), (2, .int l2), (3, .int l3)] [] [w0]) {w0 : XM} {l2 : Int32} {l4 : Int32} {s0 : Int32} (hzs0 : x_Z s0) (h : f_X12_go_272  k215 w0 l2 l4 s0 = some o) : aW p l e (x_Rm 1) s m args below meth c D tc A 5 [(shModel, ad0)] none True [o] 272 [(0, .ref (ad0 0)), (2, .int l2), (4, .int l4)] [.int s0] [w0] := by
  unfold f_X12_go_272 at h
  refine a_istore_n (pc := 272) X [(3, .int s0), (0, .ref (ad0 0)), (2, .int l2), (4, .int l4)] dX12_go_272 rfl (by decide) rfl ?_
  refine a_aload_n (pc := 273) X 1 dX12_go_273 rfl rfl ?_
  refine a_getI (pc := 274) X 0 fl_RX12_21 rfl rfl rfl rfl dX12_go_274 ?_
  refine a_aload_n (pc := 277) X 1 dX12_go_277 rfl rfl ?_
  refine a_getI (pc := 278) X 0 fl_RX12_24 rfl rfl rfl rfl dX12_go_278 ?_
  refine a_isub (pc := 281) X dX12_go_281 ?_
  refine a_bipush (pc := 282) X dX12_go_282 q_bp_7 ?_
  refine a_icmp_ge (pc := 284) X 307 dX12_go_284 rfl (fun c_284 => ?_) (fun c_284 => ?_)
  · have h := x_ifp c_284 h
    refine a_sub [1, 2, 0, 3] rfl ?_
    exact w_X12_go_307 X   hk215 hzs0 h
  · have h := x_ifn c_284 h
    refine a_aload_n (pc := 287) X 1 dX12_go_287 rfl rfl ?_
    refine a_ldc2 (pc := 288) X kc_RX12_54 dX12_go_288 ?_
    refine a_aload_n (pc := 291) X 1 dX12_go_291 rfl rfl ?_
    refine a_getL (pc := 292) X 0 fl_RX12_43 rfl rfl rfl rfl dX12_go_292 ?_
    refine a_lmul (pc := 295) X dX12_go_295 ?_
    refine a_iload (pc := 296) X 3 dX12_go_296 rfl ?_
    refine a_i2l (pc := 298) X dX12_go_298 ?_
    refine a_ladd (pc := 299) X dX12_go_299 ?_
    obtain ⟨y8, e_y8, h⟩ := x_lt_elim h
    refine a_nl e_y8 ?_
    refine a_ldc2 (pc := 300) X kc_RX12_56 dX12_go_300 ?_
    refine a_lsub (pc := 303) X dX12_go_303 ?_
    refine a_putL (pc := 304) X 0 fl_RX12_43 rfl rfl rfl rfl dX12_go_304 ?_
    obtain ⟨m9, e_m9, h⟩ := x_lt_elim h
    refine a_nm (vs2 := [m9]) (congrArg (fun q : XM => [q]) e_m9) ?_
    refine a_sub [1, 2, 0, 3] rfl ?_
    exact w_X12_go_307 X   hk215 hzs0 h
set_option maxRecDepth 100000 in
set_option maxHeartbeats 4000000 in
theorem w_X12_go_271 {p : Program} {l : Launch} {e : Env} {s : State} {m : MethodId} {args : Array Value} {below : List Frame} {meth : Method} {c : Code} {D : va_G} {tc : Nat → ClassId} {aK aV : Nat → Nat} {A : Nat → Prop} {ad0 : Nat → Nat}  (X : Cx p s m args meth c cX12_go 5 none RX12 D tc aK aV A [(shModel, ad0)])  {o : XM} {k215 : XM → Int32 → Int32 → Option (XM)} (hk215 : ∀ (w0 : XM) (l2 : Int32) (l3 : Int32), k215 w0 l2 l3 = some o → aW p l e (x_Rm 1) s m args below meth c D tc A 5 [(shModel, ad0)] none True [o] 215 [(0, .ref (ad0 0)), (2, .int l2), (3, .int l3)] [] [w0]) {w0 : XM} {l2 : Int32} {l4 : Int32}  (h : f_X12_go_271  k215 w0 l2 l4 = some o) : aW p l e (x_Rm 1) s m args below meth c D tc A 5 [(shModel, ad0)] none True [o] 271 [(0, .ref (ad0 0)), (2, .int l2), (4, .int l4)] [] [w0] := by
  unfold f_X12_go_271 at h
  refine a_iconst (pc := 271) X dX12_go_271 q_ic_0 ?_
  exact w_X12_go_272 X   hk215 x_Z0 h
set_option maxRecDepth 100000 in
set_option maxHeartbeats 4000000 in
theorem w_X12_go_243 {p : Program} {l : Launch} {e : Env} {s : State} {m : MethodId} {args : Array Value} {below : List Frame} {meth : Method} {c : Code} {D : va_G} {tc : Nat → ClassId} {aK aV : Nat → Nat} {A : Nat → Prop} {ad0 : Nat → Nat}  (X : Cx p s m args meth c cX12_go 5 none RX12 D tc aK aV A [(shModel, ad0)])  {o : XM} {k215 : XM → Int32 → Int32 → Option (XM)} (hk215 : ∀ (w0 : XM) (l2 : Int32) (l3 : Int32), k215 w0 l2 l3 = some o → aW p l e (x_Rm 1) s m args below meth c D tc A 5 [(shModel, ad0)] none True [o] 215 [(0, .ref (ad0 0)), (2, .int l2), (3, .int l3)] [] [w0]) {w0 : XM} {l2 : Int32} {l3 : Int32}  (h : f_X12_go_243  k215 w0 l2 l3 = some o) : aW p l e (x_Rm 1) s m args below meth c D tc A 5 [(shModel, ad0)] none True [o] 243 [(0, .ref (ad0 0)), (2, .int l2), (3, .int l3)] [] [w0] := by
  unfold f_X12_go_243 at h
  refine a_aload_n (pc := 243) X 0 dX12_go_243 rfl rfl ?_
  refine a_getR (pc := 244) X 0 1 1 fl_RX12_7 rfl rfl rfl rfl rfl dX12_go_244 ?_
  refine a_aload_n (pc := 247) X 0 dX12_go_247 rfl rfl ?_
  refine a_getI (pc := 248) X 0 fl_RX12_21 rfl rfl rfl rfl dX12_go_248 ?_
  obtain ⟨c_251, h⟩ := x_ck_elim h
  refine a_iald (pc := 251) X 0 rfl rfl rfl c_251 dX12_go_251 ?_
  refine a_istore (pc := 252) X [(4, .int (x_ga w0 1 (w0.1 0 5))), (0, .ref (ad0 0)), (2, .int l2), (3, .int l3)] dX12_go_252 (by decide) rfl ?_
  refine a_iload_n (pc := 254) X 3 dX12_go_254 rfl rfl ?_
  refine a_if_eq (pc := 255) X 271 dX12_go_255 rfl (fun c_255 => ?_) (fun c_255 => ?_)
  · have h := x_ifp c_255 h
    refine a_sub [1, 2, 0] rfl ?_
    exact w_X12_go_271 X   hk215  h
  · have h := x_ifn c_255 h
    refine a_iload (pc := 258) X 0 dX12_go_258 rfl ?_
    obtain ⟨y10, e_y10, h⟩ := x_lt_elim h
    refine a_callS (pc := 260) (st2 := [.int y10]) (vs2 := [w0]) X [] [] [.int (x_ga w0 1 (w0.1 0 5))] [] cv_RX12_33 (c_X12_isLetter   e_y10) rfl rfl rfl rfl rfl rfl rfl rfl rfl rfl rfl (Nat.le_of_ble_eq_true rfl) ⟨Nat.le_of_ble_eq_true rfl, Nat.le_of_ble_eq_true rfl⟩ dX12_go_260 (fun z_260 => ?_)
    refine a_iload_n (pc := 263) X 2 dX12_go_263 rfl rfl ?_
    refine a_icmp_ne (pc := 264) X 271 dX12_go_264 rfl (fun c_264 => ?_) (fun c_264 => ?_)
    · have h := x_ifn c_264 h
      refine a_sub [1, 2, 0] rfl ?_
      exact w_X12_go_271 X   hk215  h
    · have h := x_ifp c_264 h
      refine a_iconst (pc := 267) X dX12_go_267 q_ic_1 ?_
      refine a_goto (pc := 268) X 272 dX12_go_268 rfl ?_
      refine a_sub [1, 2, 0] rfl ?_
      exact w_X12_go_272 X   hk215 x_Z1 h
set_option maxRecDepth 100000 in
set_option maxHeartbeats 4000000 in
theorem w_X12_go_374 {p : Program} {l : Launch} {e : Env} {s : State} {m : MethodId} {args : Array Value} {below : List Frame} {meth : Method} {c : Code} {D : va_G} {tc : Nat → ClassId} {aK aV : Nat → Nat} {A : Nat → Prop} {ad0 : Nat → Nat}  (X : Cx p s m args meth c cX12_go 5 none RX12 D tc aK aV A [(shModel, ad0)])  {o : XM}  {w0 : XM} {l2 : Int32} {s1 : Int32} {s2 : Int32}  (h : f_X12_go_374   w0 l2 s1 s2 = some o) : aW p l e (x_Rm 1) s m args below meth c D tc A 5 [(shModel, ad0)] none True [o] 374 [(2, .int l2)] [.int s2, .int s1, .ref (ad0 0)] [w0] := by
  unfold f_X12_go_374 at h
  refine a_icmp_le (pc := 374) X 381 dX12_go_374 rfl (fun c_374 => ?_) (fun c_374 => ?_)
  · have h := x_ifp c_374 h
    refine a_iload_n (pc := 381) X 0 dX12_go_381 rfl rfl ?_
    refine a_if_eq (pc := 382) X 389 dX12_go_382 rfl (fun c_382 => ?_) (fun c_382 => ?_)
    · have h := x_ifp c_382 h
      refine a_iconst (pc := 389) X dX12_go_389 q_ic_3 ?_
      refine a_putI (pc := 390) X 0 fl_RX12_30 rfl rfl rfl rfl dX12_go_390 ?_
      obtain ⟨m11, e_m11, h⟩ := x_lt_elim h
      refine a_nm (vs2 := [m11]) (congrArg (fun q : XM => [q]) e_m11) ?_
      have h := Option.some.inj h; subst h
      exact a_vret (pc := 393) X trivial dX12_go_393
    · have h := x_ifn c_382 h
      refine a_iconst (pc := 385) X dX12_go_385 q_ic_2 ?_
      refine a_goto (pc := 386) X 390 dX12_go_386 rfl ?_
      refine a_putI (pc := 390) X 0 fl_RX12_30 rfl rfl rfl rfl dX12_go_390 ?_
      obtain ⟨m12, e_m12, h⟩ := x_lt_elim h
      refine a_nm (vs2 := [m12]) (congrArg (fun q : XM => [q]) e_m12) ?_
      have h := Option.some.inj h; subst h
      exact a_vret (pc := 393) X trivial dX12_go_393
  · have h := x_ifn c_374 h
    refine a_iconst (pc := 377) X dX12_go_377 q_ic_1 ?_
    refine a_goto (pc := 378) X 390 dX12_go_378 rfl ?_
    refine a_putI (pc := 390) X 0 fl_RX12_30 rfl rfl rfl rfl dX12_go_390 ?_
    obtain ⟨m13, e_m13, h⟩ := x_lt_elim h
    refine a_nm (vs2 := [m13]) (congrArg (fun q : XM => [q]) e_m13) ?_
    have h := Option.some.inj h; subst h
    exact a_vret (pc := 393) X trivial dX12_go_393
set_option maxRecDepth 100000 in
set_option maxHeartbeats 4000000 in
theorem w_X12_go_215 {p : Program} {l : Launch} {e : Env} {s : State} {m : MethodId} {args : Array Value} {below : List Frame} {meth : Method} {c : Code} {D : va_G} {tc : Nat → ClassId} {aK aV : Nat → Nat} {A : Nat → Prop} {ad0 : Nat → Nat}  (X : Cx p s m args meth c cX12_go 5 none RX12 D tc aK aV A [(shModel, ad0)])  {o : XM}  : ∀ (n : Nat), ∀ (w0 : XM) (l2 : Int32) (l3 : Int32), x_lp (φ := XM → Int32 → Int32 → Option (XM)) (fun _ _ _ => none) (f_X12_go_215  ) n w0 l2 l3 = some o → aW p l e (x_Rm 1) s m args below meth c D tc A 5 [(shModel, ad0)] none True [o] 215 [(0, .ref (ad0 0)), (2, .int l2), (3, .int l3)] [] [w0] := by
  intro n
  induction n with
  | zero => intro w0 l2 l3 h; exact absurd h (fun q => by cases q)
  | succ n ih =>
    intro w0 l2 l3 h
    have h : f_X12_go_215   (x_lp (φ := XM → Int32 → Int32 → Option (XM)) (fun _ _ _ => none) (f_X12_go_215  ) n) w0 l2 l3 = some o := h
    generalize x_lp (φ := XM → Int32 → Int32 → Option (XM)) (fun _ _ _ => none) (f_X12_go_215  ) n = k215 at h ih
    have hk215 := ih
    unfold f_X12_go_215 at h
    refine a_aload_n (pc := 215) X 0 dX12_go_215 rfl rfl ?_
    refine a_aload_n (pc := 216) X 0 dX12_go_216 rfl rfl ?_
    refine a_getI (pc := 217) X 0 fl_RX12_21 rfl rfl rfl rfl dX12_go_217 ?_
    obtain ⟨y14, e_y14, h⟩ := x_bo_elim h
    refine a_callV (pc := 220) (st2 := [.int y14]) (vs2 := [w0]) X [(0, 0, 20)] [none] 0 0 12 [.int (w0.1 0 5)] [] cv_RX12_50 (c_X12_tapeAt (ad0 := ad0)  e_y14) rfl rfl rfl rfl rfl rfl rfl rfl rfl rfl rfl rfl rfl rfl rfl (Nat.le_of_ble_eq_true rfl) ⟨Nat.le_of_ble_eq_true rfl, Nat.le_of_ble_eq_true rfl⟩ dX12_go_220 (fun _ => ?_)
    obtain ⟨y15, e_y15, h⟩ := x_lt_elim h
    refine a_callS (pc := 223) (st2 := [.int y15]) (vs2 := [w0]) X [] [] [.int y14] [] cv_RX12_33 (c_X12_isLetter   e_y15) rfl rfl rfl rfl rfl rfl rfl rfl rfl rfl rfl (Nat.le_of_ble_eq_true rfl) ⟨Nat.le_of_ble_eq_true rfl, Nat.le_of_ble_eq_true rfl⟩ dX12_go_223 (fun z_223 => ?_)
    refine a_if_ne (pc := 226) X 243 dX12_go_226 rfl (fun c_226 => ?_) (fun c_226 => ?_)
    · have h := x_ifn c_226 h
      exact w_X12_go_243 X   hk215  h
    · have h := x_ifp c_226 h
      refine a_aload_n (pc := 229) X 0 dX12_go_229 rfl rfl ?_
      refine a_aload_n (pc := 230) X 0 dX12_go_230 rfl rfl ?_
      refine a_getI (pc := 231) X 0 fl_RX12_21 rfl rfl rfl rfl dX12_go_231 ?_
      obtain ⟨y16, e_y16, h⟩ := x_bo_elim h
      refine a_callV (pc := 234) (st2 := [.int y16]) (vs2 := [w0]) X [(0, 0, 20)] [none] 0 0 12 [.int (w0.1 0 5)] [] cv_RX12_50 (c_X12_tapeAt (ad0 := ad0)  e_y16) rfl rfl rfl rfl rfl rfl rfl rfl rfl rfl rfl rfl rfl rfl rfl (Nat.le_of_ble_eq_true rfl) ⟨Nat.le_of_ble_eq_true rfl, Nat.le_of_ble_eq_true rfl⟩ dX12_go_234 (fun _ => ?_)
      obtain ⟨y17, e_y17, h⟩ := x_lt_elim h
      refine a_callS (pc := 237) (st2 := [.int y17]) (vs2 := [w0]) X [] [] [.int y16] [] cv_RX12_37 (c_X12_isDigit   e_y17) rfl rfl rfl rfl rfl rfl rfl rfl rfl rfl rfl (Nat.le_of_ble_eq_true rfl) ⟨Nat.le_of_ble_eq_true rfl, Nat.le_of_ble_eq_true rfl⟩ dX12_go_237 (fun z_237 => ?_)
      refine a_if_eq (pc := 240) X 350 dX12_go_240 rfl (fun c_240 => ?_) (fun c_240 => ?_)
      · have h := x_ifp c_240 h
        refine a_aload_n (pc := 350) X 0 dX12_go_350 rfl rfl ?_
        refine a_iload_n (pc := 351) X 2 dX12_go_351 rfl rfl ?_
        refine a_if_eq (pc := 352) X 377 dX12_go_352 rfl (fun c_352 => ?_) (fun c_352 => ?_)
        · have h := x_ifp c_352 h
          refine a_iconst (pc := 377) X dX12_go_377 q_ic_1 ?_
          refine a_goto (pc := 378) X 390 dX12_go_378 rfl ?_
          refine a_putI (pc := 390) X 0 fl_RX12_30 rfl rfl rfl rfl dX12_go_390 ?_
          obtain ⟨m18, e_m18, h⟩ := x_lt_elim h
          refine a_nm (vs2 := [m18]) (congrArg (fun q : XM => [q]) e_m18) ?_
          have h := Option.some.inj h; subst h
          exact a_vret (pc := 393) X trivial dX12_go_393
        · have h := x_ifn c_352 h
          refine a_aload_n (pc := 355) X 0 dX12_go_355 rfl rfl ?_
          refine a_getI (pc := 356) X 0 fl_RX12_21 rfl rfl rfl rfl dX12_go_356 ?_
          refine a_aload_n (pc := 359) X 0 dX12_go_359 rfl rfl ?_
          refine a_getI (pc := 360) X 0 fl_RX12_24 rfl rfl rfl rfl dX12_go_360 ?_
          refine a_isub (pc := 363) X dX12_go_363 ?_
          refine a_iload_n (pc := 364) X 1 dX12_go_364 rfl rfl ?_
          refine a_if_eq (pc := 365) X 373 dX12_go_365 rfl (fun c_365 => ?_) (fun c_365 => ?_)
          · have h := x_ifp c_365 h
            refine a_iconst (pc := 373) X dX12_go_373 q_ic_3 ?_
            refine a_sub [1] rfl ?_
            exact w_X12_go_374 X     h
          · have h := x_ifn c_365 h
            refine a_bipush (pc := 368) X dX12_go_368 q_bp_7 ?_
            refine a_goto (pc := 370) X 374 dX12_go_370 rfl ?_
            refine a_sub [1] rfl ?_
            exact w_X12_go_374 X     h
      · have h := x_ifn c_240 h
        exact w_X12_go_243 X   hk215  h
set_option maxRecDepth 100000 in
set_option maxHeartbeats 4000000 in
theorem w_X12_go_198 {p : Program} {l : Launch} {e : Env} {s : State} {m : MethodId} {args : Array Value} {below : List Frame} {meth : Method} {c : Code} {D : va_G} {tc : Nat → ClassId} {aK aV : Nat → Nat} {A : Nat → Prop} {ad0 : Nat → Nat}  (X : Cx p s m args meth c cX12_go 5 none RX12 D tc aK aV A [(shModel, ad0)])  {o : XM}  {w0 : XM} {l1 : Int32}  (h : f_X12_go_198   w0 l1 = some o) : aW p l e (x_Rm 1) s m args below meth c D tc A 5 [(shModel, ad0)] none True [o] 198 [(0, .ref (ad0 0)), (1, .int l1)] [] [w0] := by
  unfold f_X12_go_198 at h
  refine a_iload_n (pc := 198) X 1 dX12_go_198 rfl rfl ?_
  obtain ⟨y19, e_y19, h⟩ := x_lt_elim h
  refine a_callS (pc := 199) (st2 := [.int y19]) (vs2 := [w0]) X [] [] [.int l1] [] cv_RX12_33 (c_X12_isLetter   e_y19) rfl rfl rfl rfl rfl rfl rfl rfl rfl rfl rfl (Nat.le_of_ble_eq_true rfl) ⟨Nat.le_of_ble_eq_true rfl, Nat.le_of_ble_eq_true rfl⟩ dX12_go_199 (fun z_199 => ?_)
  refine a_istore_n (pc := 202) X [(2, .int y19), (0, .ref (ad0 0)), (1, .int l1)] dX12_go_202 rfl (by decide) rfl ?_
  refine a_iconst (pc := 203) X dX12_go_203 q_ic_1 ?_
  refine a_istore_n (pc := 204) X [(3, .int (1 : Int32)), (2, .int y19), (0, .ref (ad0 0)), (1, .int l1)] dX12_go_204 rfl (by decide) rfl ?_
  refine a_aload_n (pc := 205) X 2 dX12_go_205 rfl rfl ?_
  refine a_lconst (pc := 206) (v := 0) X dX12_go_206 rfl ?_
  refine a_putL (pc := 207) X 0 fl_RX12_43 rfl rfl rfl rfl dX12_go_207 ?_
  obtain ⟨m20, e_m20, h⟩ := x_lt_elim h
  refine a_nm (vs2 := [m20]) (congrArg (fun q : XM => [q]) e_m20) ?_
  refine a_aload_n (pc := 210) X 2 dX12_go_210 rfl rfl ?_
  refine a_iconst (pc := 211) X dX12_go_211 q_ic_0 ?_
  refine a_putI (pc := 212) X 0 fl_RX12_47 rfl rfl rfl rfl dX12_go_212 ?_
  obtain ⟨m21, e_m21, h⟩ := x_lt_elim h
  refine a_nm (vs2 := [m21]) (congrArg (fun q : XM => [q]) e_m21) ?_
  refine a_sub [2, 1, 0] rfl ?_
  exact w_X12_go_215 X    x_NN _ _ _ h
set_option maxRecDepth 100000 in
set_option maxHeartbeats 4000000 in
theorem w_X12_go_96 {p : Program} {l : Launch} {e : Env} {s : State} {m : MethodId} {args : Array Value} {below : List Frame} {meth : Method} {c : Code} {D : va_G} {tc : Nat → ClassId} {aK aV : Nat → Nat} {A : Nat → Prop} {ad0 : Nat → Nat}  (X : Cx p s m args meth c cX12_go 5 none RX12 D tc aK aV A [(shModel, ad0)])  {o : XM}  {w0 : XM}  (h : f_X12_go_96   w0 = some o) : aW p l e (x_Rm 1) s m args below meth c D tc A 5 [(shModel, ad0)] none True [o] 96 [(0, .ref (ad0 0))] [] [w0] := by
  unfold f_X12_go_96 at h
  refine a_aload_n (pc := 96) X 0 dX12_go_96 rfl rfl ?_
  refine a_getI (pc := 97) X 0 fl_RX12_21 rfl rfl rfl rfl dX12_go_97 ?_
  refine a_aload_n (pc := 100) X 0 dX12_go_100 rfl rfl ?_
  refine a_getI (pc := 101) X 0 fl_RX12_18 rfl rfl rfl rfl dX12_go_101 ?_
  refine a_icmp_lt (pc := 104) X 113 dX12_go_104 rfl (fun c_104 => ?_) (fun c_104 => ?_)
  · have h := x_ifp c_104 h
    refine a_aload_n (pc := 113) X 0 dX12_go_113 rfl rfl ?_
    refine a_getR (pc := 114) X 0 1 1 fl_RX12_7 rfl rfl rfl rfl rfl dX12_go_114 ?_
    refine a_aload_n (pc := 117) X 0 dX12_go_117 rfl rfl ?_
    refine a_getI (pc := 118) X 0 fl_RX12_21 rfl rfl rfl rfl dX12_go_118 ?_
    obtain ⟨c_121, h⟩ := x_ck_elim h
    refine a_iald (pc := 121) X 0 rfl rfl rfl c_121 dX12_go_121 ?_
    refine a_istore_n (pc := 122) X [(1, .int (x_ga w0 1 (w0.1 0 5))), (0, .ref (ad0 0))] dX12_go_122 rfl (by decide) rfl ?_
    refine a_iload_n (pc := 123) X 0 dX12_go_123 rfl rfl ?_
    obtain ⟨y22, e_y22, h⟩ := x_lt_elim h
    refine a_callS (pc := 124) (st2 := [.int y22]) (vs2 := [w0]) X [] [] [.int (x_ga w0 1 (w0.1 0 5))] [] cv_RX12_33 (c_X12_isLetter   e_y22) rfl rfl rfl rfl rfl rfl rfl rfl rfl rfl rfl (Nat.le_of_ble_eq_true rfl) ⟨Nat.le_of_ble_eq_true rfl, Nat.le_of_ble_eq_true rfl⟩ dX12_go_124 (fun z_124 => ?_)
    refine a_if_ne (pc := 127) X 198 dX12_go_127 rfl (fun c_127 => ?_) (fun c_127 => ?_)
    · have h := x_ifn c_127 h
      refine a_sub [1, 0] rfl ?_
      exact w_X12_go_198 X     h
    · have h := x_ifp c_127 h
      refine a_iload_n (pc := 130) X 0 dX12_go_130 rfl rfl ?_
      obtain ⟨y23, e_y23, h⟩ := x_lt_elim h
      refine a_callS (pc := 131) (st2 := [.int y23]) (vs2 := [w0]) X [] [] [.int (x_ga w0 1 (w0.1 0 5))] [] cv_RX12_37 (c_X12_isDigit   e_y23) rfl rfl rfl rfl rfl rfl rfl rfl rfl rfl rfl (Nat.le_of_ble_eq_true rfl) ⟨Nat.le_of_ble_eq_true rfl, Nat.le_of_ble_eq_true rfl⟩ dX12_go_131 (fun z_131 => ?_)
      refine a_if_ne (pc := 134) X 198 dX12_go_134 rfl (fun c_134 => ?_) (fun c_134 => ?_)
      · have h := x_ifn c_134 h
        refine a_sub [1, 0] rfl ?_
        exact w_X12_go_198 X     h
      · have h := x_ifp c_134 h
        refine a_aload_n (pc := 137) X 1 dX12_go_137 rfl rfl ?_
        refine a_iload_n (pc := 138) X 0 dX12_go_138 rfl rfl ?_
        refine a_bipush (pc := 139) X dX12_go_139 q_bp_59 ?_
        refine a_icmp_eq (pc := 141) X 174 dX12_go_141 rfl (fun c_141 => ?_) (fun c_141 => ?_)
        · have h := x_ifp c_141 h
          refine a_sub [1, 0] rfl ?_
          exact w_X12_go_174 X     h
        · have h := x_ifn c_141 h
          refine a_iload_n (pc := 144) X 0 dX12_go_144 rfl rfl ?_
          refine a_bipush (pc := 145) X dX12_go_145 q_bp_60 ?_
          refine a_icmp_eq (pc := 147) X 174 dX12_go_147 rfl (fun c_147 => ?_) (fun c_147 => ?_)
          · have h := x_ifp c_147 h
            refine a_sub [1, 0] rfl ?_
            exact w_X12_go_174 X     h
          · have h := x_ifn c_147 h
            refine a_iload_n (pc := 150) X 0 dX12_go_150 rfl rfl ?_
            refine a_bipush (pc := 151) X dX12_go_151 q_bp_61 ?_
            refine a_icmp_eq (pc := 153) X 174 dX12_go_153 rfl (fun c_153 => ?_) (fun c_153 => ?_)
            · have h := x_ifp c_153 h
              refine a_sub [1, 0] rfl ?_
              exact w_X12_go_174 X     h
            · have h := x_ifn c_153 h
              refine a_iload_n (pc := 156) X 0 dX12_go_156 rfl rfl ?_
              refine a_bipush (pc := 157) X dX12_go_157 q_bp_62 ?_
              refine a_icmp_eq (pc := 159) X 174 dX12_go_159 rfl (fun c_159 => ?_) (fun c_159 => ?_)
              · have h := x_ifp c_159 h
                refine a_sub [1, 0] rfl ?_
                exact w_X12_go_174 X     h
              · have h := x_ifn c_159 h
                refine a_iload_n (pc := 162) X 0 dX12_go_162 rfl rfl ?_
                refine a_bipush (pc := 163) X dX12_go_163 q_bp_40 ?_
                refine a_icmp_eq (pc := 165) X 174 dX12_go_165 rfl (fun c_165 => ?_) (fun c_165 => ?_)
                · have h := x_ifp c_165 h
                  refine a_sub [1, 0] rfl ?_
                  exact w_X12_go_174 X     h
                · have h := x_ifn c_165 h
                  refine a_iload_n (pc := 168) X 0 dX12_go_168 rfl rfl ?_
                  refine a_bipush (pc := 169) X dX12_go_169 q_bp_41 ?_
                  refine a_icmp_ne (pc := 171) X 178 dX12_go_171 rfl (fun c_171 => ?_) (fun c_171 => ?_)
                  · have h := x_ifn c_171 h
                    refine a_iconst (pc := 178) X dX12_go_178 q_ic_1 ?_
                    refine a_sub [1, 0] rfl ?_
                    exact w_X12_go_179 X     h
                  · have h := x_ifp c_171 h
                    refine a_sub [1, 0] rfl ?_
                    exact w_X12_go_174 X     h
  · have h := x_ifn c_104 h
    refine a_aload_n (pc := 107) X 0 dX12_go_107 rfl rfl ?_
    refine a_iconst (pc := 108) X dX12_go_108 q_ic_0 ?_
    refine a_putI (pc := 109) X 0 fl_RX12_30 rfl rfl rfl rfl dX12_go_109 ?_
    obtain ⟨m24, e_m24, h⟩ := x_lt_elim h
    refine a_nm (vs2 := [m24]) (congrArg (fun q : XM => [q]) e_m24) ?_
    have h := Option.some.inj h; subst h
    exact a_vret (pc := 112) X trivial dX12_go_112
set_option maxRecDepth 100000 in
set_option maxHeartbeats 4000000 in
theorem w_X12_go_52 {p : Program} {l : Launch} {e : Env} {s : State} {m : MethodId} {args : Array Value} {below : List Frame} {meth : Method} {c : Code} {D : va_G} {tc : Nat → ClassId} {aK aV : Nat → Nat} {A : Nat → Prop} {ad0 : Nat → Nat}  (X : Cx p s m args meth c cX12_go 5 none RX12 D tc aK aV A [(shModel, ad0)])  {o : XM}  {w0 : XM}  (h : f_X12_go_52   w0 = some o) : aW p l e (x_Rm 1) s m args below meth c D tc A 5 [(shModel, ad0)] none True [o] 52 [(0, .ref (ad0 0))] [] [w0] := by
  unfold f_X12_go_52 at h
  refine a_aload_n (pc := 52) X 0 dX12_go_52 rfl rfl ?_
  refine a_aload_n (pc := 53) X 0 dX12_go_53 rfl rfl ?_
  refine a_getI (pc := 54) X 0 fl_RX12_21 rfl rfl rfl rfl dX12_go_54 ?_
  refine a_putI (pc := 57) X 0 fl_RX12_24 rfl rfl rfl rfl dX12_go_57 ?_
  obtain ⟨m25, e_m25, h⟩ := x_lt_elim h
  refine a_nm (vs2 := [m25]) (congrArg (fun q : XM => [q]) e_m25) ?_
  refine a_aload_n (pc := 60) X 0 dX12_go_60 rfl rfl ?_
  refine a_getI (pc := 61) X 0 fl_RX12_18 rfl rfl rfl rfl dX12_go_61 ?_
  refine a_aload_n (pc := 64) X 0 dX12_go_64 rfl rfl ?_
  refine a_getI (pc := 65) X 0 fl_RX12_27 rfl rfl rfl rfl dX12_go_65 ?_
  refine a_icmp_le (pc := 68) X 96 dX12_go_68 rfl (fun c_68 => ?_) (fun c_68 => ?_)
  · have h := x_ifp c_68 h
    exact w_X12_go_96 X     h
  · have h := x_ifn c_68 h
    refine a_aload_n (pc := 71) X 0 dX12_go_71 rfl rfl ?_
    refine a_getI (pc := 72) X 0 fl_RX12_24 rfl rfl rfl rfl dX12_go_72 ?_
    refine a_aload_n (pc := 75) X 0 dX12_go_75 rfl rfl ?_
    refine a_getI (pc := 76) X 0 fl_RX12_27 rfl rfl rfl rfl dX12_go_76 ?_
    refine a_icmp_lt (pc := 79) X 96 dX12_go_79 rfl (fun c_79 => ?_) (fun c_79 => ?_)
    · have h := x_ifp c_79 h
      exact w_X12_go_96 X     h
    · have h := x_ifn c_79 h
      refine a_aload_n (pc := 82) X 0 dX12_go_82 rfl rfl ?_
      refine a_aload_n (pc := 83) X 0 dX12_go_83 rfl rfl ?_
      refine a_getI (pc := 84) X 0 fl_RX12_27 rfl rfl rfl rfl dX12_go_84 ?_
      refine a_putI (pc := 87) X 0 fl_RX12_24 rfl rfl rfl rfl dX12_go_87 ?_
      obtain ⟨m26, e_m26, h⟩ := x_lt_elim h
      refine a_nm (vs2 := [m26]) (congrArg (fun q : XM => [q]) e_m26) ?_
      refine a_aload_n (pc := 90) X 0 dX12_go_90 rfl rfl ?_
      refine a_iconst (pc := 91) X dX12_go_91 q_ic_1 ?_
      refine a_putI (pc := 92) X 0 fl_RX12_30 rfl rfl rfl rfl dX12_go_92 ?_
      obtain ⟨m27, e_m27, h⟩ := x_lt_elim h
      refine a_nm (vs2 := [m27]) (congrArg (fun q : XM => [q]) e_m27) ?_
      have h := Option.some.inj h; subst h
      exact a_vret (pc := 95) X trivial dX12_go_95
set_option maxRecDepth 100000 in
set_option maxHeartbeats 4000000 in
theorem w_X12_go_0 {p : Program} {l : Launch} {e : Env} {s : State} {m : MethodId} {args : Array Value} {below : List Frame} {meth : Method} {c : Code} {D : va_G} {tc : Nat → ClassId} {aK aV : Nat → Nat} {A : Nat → Prop} {ad0 : Nat → Nat}  (X : Cx p s m args meth c cX12_go 5 none RX12 D tc aK aV A [(shModel, ad0)])  {o : XM}  : ∀ (n : Nat), ∀ (w0 : XM), x_lp (φ := XM → Option (XM)) (fun _ => none) (f_X12_go_0  ) n w0 = some o → aW p l e (x_Rm 1) s m args below meth c D tc A 5 [(shModel, ad0)] none True [o] 0 [(0, .ref (ad0 0))] [] [w0] := by
  intro n
  induction n with
  | zero => intro w0 h; exact absurd h (fun q => by cases q)
  | succ n ih =>
    intro w0 h
    have h : f_X12_go_0   (x_lp (φ := XM → Option (XM)) (fun _ => none) (f_X12_go_0  ) n) w0 = some o := h
    generalize x_lp (φ := XM → Option (XM)) (fun _ => none) (f_X12_go_0  ) n = k0 at h ih
    have hk0 := ih
    unfold f_X12_go_0 at h
    refine a_aload_n (pc := 0) X 0 dX12_go_0 rfl rfl ?_
    refine a_getI (pc := 1) X 0 fl_RX12_21 rfl rfl rfl rfl dX12_go_1 ?_
    refine a_aload_n (pc := 4) X 0 dX12_go_4 rfl rfl ?_
    refine a_getI (pc := 5) X 0 fl_RX12_18 rfl rfl rfl rfl dX12_go_5 ?_
    refine a_icmp_ge (pc := 8) X 52 dX12_go_8 rfl (fun c_8 => ?_) (fun c_8 => ?_)
    · have h := x_ifp c_8 h
      exact w_X12_go_52 X     h
    · have h := x_ifn c_8 h
      refine a_aload_n (pc := 11) X 0 dX12_go_11 rfl rfl ?_
      refine a_getR (pc := 12) X 0 1 1 fl_RX12_7 rfl rfl rfl rfl rfl dX12_go_12 ?_
      refine a_aload_n (pc := 15) X 0 dX12_go_15 rfl rfl ?_
      refine a_getI (pc := 16) X 0 fl_RX12_21 rfl rfl rfl rfl dX12_go_16 ?_
      obtain ⟨c_19, h⟩ := x_ck_elim h
      refine a_iald (pc := 19) X 0 rfl rfl rfl c_19 dX12_go_19 ?_
      refine a_bipush (pc := 20) X dX12_go_20 q_bp_32 ?_
      refine a_icmp_eq (pc := 22) X 39 dX12_go_22 rfl (fun c_22 => ?_) (fun c_22 => ?_)
      · have h := x_ifp c_22 h
        exact w_X12_go_39 X   hk0  h
      · have h := x_ifn c_22 h
        refine a_aload_n (pc := 25) X 0 dX12_go_25 rfl rfl ?_
        refine a_getR (pc := 26) X 0 1 1 fl_RX12_7 rfl rfl rfl rfl rfl dX12_go_26 ?_
        refine a_aload_n (pc := 29) X 0 dX12_go_29 rfl rfl ?_
        refine a_getI (pc := 30) X 0 fl_RX12_21 rfl rfl rfl rfl dX12_go_30 ?_
        obtain ⟨c_33, h⟩ := x_ck_elim h
        refine a_iald (pc := 33) X 0 rfl rfl rfl c_33 dX12_go_33 ?_
        refine a_bipush (pc := 34) X dX12_go_34 q_bp_10 ?_
        refine a_icmp_ne (pc := 36) X 52 dX12_go_36 rfl (fun c_36 => ?_) (fun c_36 => ?_)
        · have h := x_ifn c_36 h
          exact w_X12_go_52 X     h
        · have h := x_ifp c_36 h
          exact w_X12_go_39 X   hk0  h
set_option maxRecDepth 100000 in
set_option maxHeartbeats 4000000 in
theorem c_X12_go {l : Launch}  {ad0 : Nat → Nat} {v0 : XM}   {o : XM} (h : f_X12_go v0 = some o) : CT l yX12_go cX12_go 5 none 1 [(shModel, ad0)] [v0] (fun aK => [.ref (ad0 0)]) none True [o] := by
  refine CT_of (by decide) (fun _ => Nat.le_of_ble_eq_true rfl) ?_
  intro p e s m args below meth c D tc aK aV A X
  have X : Cx p s m args meth c cX12_go 5 none RX12 D tc aK aV A [(shModel, ad0)] := X
  show aW p l e (x_Rm 1) s m args below meth c D tc A 5 [(shModel, ad0)] none True [o] 0 [(0, .ref (ad0 0))] [] [v0]
  unfold f_X12_go at h
  exact w_X12_go_0 X    x_NN _ h
theorem dX12_spelt_0 : decode cX12_spelt 0 = .ok (.ldc2_w 54, 3) := by decide +kernel
theorem dX12_spelt_3 : decode cX12_spelt 3 = .ok (.iload_n 0, 1) := by decide +kernel
theorem dX12_spelt_4 : decode cX12_spelt 4 = .ok (.i2l, 1) := by decide +kernel
theorem dX12_spelt_5 : decode cX12_spelt 5 = .ok (.ldc2_w 56, 3) := by decide +kernel
theorem dX12_spelt_8 : decode cX12_spelt 8 = .ok (.lsub, 1) := by decide +kernel
theorem dX12_spelt_9 : decode cX12_spelt 9 = .ok (.lmul, 1) := by decide +kernel
theorem dX12_spelt_10 : decode cX12_spelt 10 = .ok (.iload_n 1, 1) := by decide +kernel
theorem dX12_spelt_11 : decode cX12_spelt 11 = .ok (.i2l, 1) := by decide +kernel
theorem dX12_spelt_12 : decode cX12_spelt 12 = .ok (.ladd, 1) := by decide +kernel
theorem dX12_spelt_13 : decode cX12_spelt 13 = .ok (.ldc2_w 56, 3) := by decide +kernel
theorem dX12_spelt_16 : decode cX12_spelt 16 = .ok (.lsub, 1) := by decide +kernel
theorem dX12_spelt_17 : decode cX12_spelt 17 = .ok (.lstore 6, 2) := by decide +kernel
theorem dX12_spelt_19 : decode cX12_spelt 19 = .ok (.iload_n 2, 1) := by decide +kernel
theorem dX12_spelt_20 : decode cX12_spelt 20 = .ok (.ifCond .le 18, 3) := by decide +kernel
theorem dX12_spelt_23 : decode cX12_spelt 23 = .ok (.ldc2_w 54, 3) := by decide +kernel
theorem dX12_spelt_26 : decode cX12_spelt 26 = .ok (.lload 6, 2) := by decide +kernel
theorem dX12_spelt_28 : decode cX12_spelt 28 = .ok (.lmul, 1) := by decide +kernel
theorem dX12_spelt_29 : decode cX12_spelt 29 = .ok (.iload_n 2, 1) := by decide +kernel
theorem dX12_spelt_30 : decode cX12_spelt 30 = .ok (.i2l, 1) := by decide +kernel
theorem dX12_spelt_31 : decode cX12_spelt 31 = .ok (.ladd, 1) := by decide +kernel
theorem dX12_spelt_32 : decode cX12_spelt 32 = .ok (.ldc2_w 56, 3) := by decide +kernel
theorem dX12_spelt_35 : decode cX12_spelt 35 = .ok (.lsub, 1) := by decide +kernel
theorem dX12_spelt_36 : decode cX12_spelt 36 = .ok (.lstore 6, 2) := by decide +kernel
theorem dX12_spelt_38 : decode cX12_spelt 38 = .ok (.iload_n 3, 1) := by decide +kernel
theorem dX12_spelt_39 : decode cX12_spelt 39 = .ok (.ifCond .le 18, 3) := by decide +kernel
theorem dX12_spelt_42 : decode cX12_spelt 42 = .ok (.ldc2_w 54, 3) := by decide +kernel
theorem dX12_spelt_45 : decode cX12_spelt 45 = .ok (.lload 6, 2) := by decide +kernel
theorem dX12_spelt_47 : decode cX12_spelt 47 = .ok (.lmul, 1) := by decide +kernel
theorem dX12_spelt_48 : decode cX12_spelt 48 = .ok (.iload_n 3, 1) := by decide +kernel
theorem dX12_spelt_49 : decode cX12_spelt 49 = .ok (.i2l, 1) := by decide +kernel
theorem dX12_spelt_50 : decode cX12_spelt 50 = .ok (.ladd, 1) := by decide +kernel
theorem dX12_spelt_51 : decode cX12_spelt 51 = .ok (.ldc2_w 56, 3) := by decide +kernel
theorem dX12_spelt_54 : decode cX12_spelt 54 = .ok (.lsub, 1) := by decide +kernel
theorem dX12_spelt_55 : decode cX12_spelt 55 = .ok (.lstore 6, 2) := by decide +kernel
theorem dX12_spelt_57 : decode cX12_spelt 57 = .ok (.iload 4, 2) := by decide +kernel
theorem dX12_spelt_59 : decode cX12_spelt 59 = .ok (.ifCond .le 19, 3) := by decide +kernel
theorem dX12_spelt_62 : decode cX12_spelt 62 = .ok (.ldc2_w 54, 3) := by decide +kernel
theorem dX12_spelt_65 : decode cX12_spelt 65 = .ok (.lload 6, 2) := by decide +kernel
theorem dX12_spelt_67 : decode cX12_spelt 67 = .ok (.lmul, 1) := by decide +kernel
theorem dX12_spelt_68 : decode cX12_spelt 68 = .ok (.iload 4, 2) := by decide +kernel
theorem dX12_spelt_70 : decode cX12_spelt 70 = .ok (.i2l, 1) := by decide +kernel
theorem dX12_spelt_71 : decode cX12_spelt 71 = .ok (.ladd, 1) := by decide +kernel
theorem dX12_spelt_72 : decode cX12_spelt 72 = .ok (.ldc2_w 56, 3) := by decide +kernel
theorem dX12_spelt_75 : decode cX12_spelt 75 = .ok (.lsub, 1) := by decide +kernel
theorem dX12_spelt_76 : decode cX12_spelt 76 = .ok (.lstore 6, 2) := by decide +kernel
theorem dX12_spelt_78 : decode cX12_spelt 78 = .ok (.iload 5, 2) := by decide +kernel
theorem dX12_spelt_80 : decode cX12_spelt 80 = .ok (.ifCond .le 19, 3) := by decide +kernel
theorem dX12_spelt_83 : decode cX12_spelt 83 = .ok (.ldc2_w 54, 3) := by decide +kernel
theorem dX12_spelt_86 : decode cX12_spelt 86 = .ok (.lload 6, 2) := by decide +kernel
theorem dX12_spelt_88 : decode cX12_spelt 88 = .ok (.lmul, 1) := by decide +kernel
theorem dX12_spelt_89 : decode cX12_spelt 89 = .ok (.iload 5, 2) := by decide +kernel
theorem dX12_spelt_91 : decode cX12_spelt 91 = .ok (.i2l, 1) := by decide +kernel
theorem dX12_spelt_92 : decode cX12_spelt 92 = .ok (.ladd, 1) := by decide +kernel
theorem dX12_spelt_93 : decode cX12_spelt 93 = .ok (.ldc2_w 56, 3) := by decide +kernel
theorem dX12_spelt_96 : decode cX12_spelt 96 = .ok (.lsub, 1) := by decide +kernel
theorem dX12_spelt_97 : decode cX12_spelt 97 = .ok (.lstore 6, 2) := by decide +kernel
theorem dX12_spelt_99 : decode cX12_spelt 99 = .ok (.lload 6, 2) := by decide +kernel
theorem dX12_spelt_101 : decode cX12_spelt 101 = .ok (.lreturn, 1) := by decide +kernel
def f_X12_spelt_78 (l5 : Int32) (l6 : Int64) : Int64 :=
  if l5 ≤ (0 : Int32) then
  ((l6 : Int64))
  else (x_lt (((27 : Int64) * l6) + ((l5 : Int32).toInt64)) (fun y1 =>
  (y1 - (96 : Int64) : Int64)))
def f_X12_spelt_57 (l4 : Int32) (l5 : Int32) (l6 : Int64) : Int64 :=
  if l4 ≤ (0 : Int32) then
  (f_X12_spelt_78   l5 l6)
  else (x_lt (((27 : Int64) * l6) + ((l4 : Int32).toInt64)) (fun y2 =>
  f_X12_spelt_78   l5 (y2 - (96 : Int64))))
def f_X12_spelt_38 (l3 : Int32) (l4 : Int32) (l5 : Int32) (l6 : Int64) : Int64 :=
  if l3 ≤ (0 : Int32) then
  (f_X12_spelt_57   l4 l5 l6)
  else (x_lt (((27 : Int64) * l6) + ((l3 : Int32).toInt64)) (fun y3 =>
  f_X12_spelt_57   l4 l5 (y3 - (96 : Int64))))
def f_X12_spelt (x0 : Int32) (x1 : Int32) (x2 : Int32) (x3 : Int32) (x4 : Int32) (x5 : Int32) : Int64 :=
  x_lt ((27 : Int64) * (((x0 : Int32).toInt64) - (96 : Int64))) (fun y4 =>
  x_lt ((y4 + ((x1 : Int32).toInt64)) - (96 : Int64)) (fun y5 =>
  if x2 ≤ (0 : Int32) then
  (f_X12_spelt_38   x3 x4 x5 y5)
  else (x_lt (((27 : Int64) * y5) + ((x2 : Int32).toInt64)) (fun y6 =>
  f_X12_spelt_38   x3 x4 x5 (y6 - (96 : Int64))))))
set_option maxRecDepth 100000 in
set_option maxHeartbeats 4000000 in
theorem w_X12_spelt_78 {p : Program} {l : Launch} {e : Env} {s : State} {m : MethodId} {args : Array Value} {below : List Frame} {meth : Method} {c : Code} {D : va_G} {tc : Nat → ClassId} {aK aV : Nat → Nat} {A : Nat → Prop}   (X : Cx p s m args meth c cX12_spelt 8 (some .long) RX12 D tc aK aV A [])  {o : Int64}  {l5 : Int32} {l6 : Int64}  (h : f_X12_spelt_78   l5 l6 = o) : aW p l e (x_Rm 0) s m args below meth c D tc A 8 [] (some (.long o)) True [] 78 [(5, .int l5), (6, .long l6)] [] [] := by
  unfold f_X12_spelt_78 at h
  refine a_iload (pc := 78) X 0 dX12_spelt_78 rfl ?_
  refine a_if_le (pc := 80) X 99 dX12_spelt_80 rfl (fun c_80 => ?_) (fun c_80 => ?_)
  · have h := x_ifp c_80 h
    refine a_lload (pc := 99) X 1 dX12_spelt_99 rfl ?_
    subst h
    exact a_lret (pc := 101) X trivial dX12_spelt_101
  · have h := x_ifn c_80 h
    refine a_ldc2 (pc := 83) X kc_RX12_54 dX12_spelt_83 ?_
    refine a_lload (pc := 86) X 1 dX12_spelt_86 rfl ?_
    refine a_lmul (pc := 88) X dX12_spelt_88 ?_
    refine a_iload (pc := 89) X 0 dX12_spelt_89 rfl ?_
    refine a_i2l (pc := 91) X dX12_spelt_91 ?_
    refine a_ladd (pc := 92) X dX12_spelt_92 ?_
    obtain ⟨y1, e_y1, h⟩ := x_lt_elim h
    refine a_nl e_y1 ?_
    refine a_ldc2 (pc := 93) X kc_RX12_56 dX12_spelt_93 ?_
    refine a_lsub (pc := 96) X dX12_spelt_96 ?_
    refine a_lstore (pc := 97) X [(6, .long (y1 - (96 : Int64))), (5, .int l5)] dX12_spelt_97 (by decide) rfl ?_
    refine a_lload (pc := 99) X 0 dX12_spelt_99 rfl ?_
    subst h
    exact a_lret (pc := 101) X trivial dX12_spelt_101
set_option maxRecDepth 100000 in
set_option maxHeartbeats 4000000 in
theorem w_X12_spelt_57 {p : Program} {l : Launch} {e : Env} {s : State} {m : MethodId} {args : Array Value} {below : List Frame} {meth : Method} {c : Code} {D : va_G} {tc : Nat → ClassId} {aK aV : Nat → Nat} {A : Nat → Prop}   (X : Cx p s m args meth c cX12_spelt 8 (some .long) RX12 D tc aK aV A [])  {o : Int64}  {l4 : Int32} {l5 : Int32} {l6 : Int64}  (h : f_X12_spelt_57   l4 l5 l6 = o) : aW p l e (x_Rm 0) s m args below meth c D tc A 8 [] (some (.long o)) True [] 57 [(4, .int l4), (5, .int l5), (6, .long l6)] [] [] := by
  unfold f_X12_spelt_57 at h
  refine a_iload (pc := 57) X 0 dX12_spelt_57 rfl ?_
  refine a_if_le (pc := 59) X 78 dX12_spelt_59 rfl (fun c_59 => ?_) (fun c_59 => ?_)
  · have h := x_ifp c_59 h
    refine a_sub [1, 2] rfl ?_
    exact w_X12_spelt_78 X     h
  · have h := x_ifn c_59 h
    refine a_ldc2 (pc := 62) X kc_RX12_54 dX12_spelt_62 ?_
    refine a_lload (pc := 65) X 2 dX12_spelt_65 rfl ?_
    refine a_lmul (pc := 67) X dX12_spelt_67 ?_
    refine a_iload (pc := 68) X 0 dX12_spelt_68 rfl ?_
    refine a_i2l (pc := 70) X dX12_spelt_70 ?_
    refine a_ladd (pc := 71) X dX12_spelt_71 ?_
    obtain ⟨y2, e_y2, h⟩ := x_lt_elim h
    refine a_nl e_y2 ?_
    refine a_ldc2 (pc := 72) X kc_RX12_56 dX12_spelt_72 ?_
    refine a_lsub (pc := 75) X dX12_spelt_75 ?_
    refine a_lstore (pc := 76) X [(6, .long (y2 - (96 : Int64))), (4, .int l4), (5, .int l5)] dX12_spelt_76 (by decide) rfl ?_
    refine a_sub [2, 0] rfl ?_
    exact w_X12_spelt_78 X     h
set_option maxRecDepth 100000 in
set_option maxHeartbeats 4000000 in
theorem w_X12_spelt_38 {p : Program} {l : Launch} {e : Env} {s : State} {m : MethodId} {args : Array Value} {below : List Frame} {meth : Method} {c : Code} {D : va_G} {tc : Nat → ClassId} {aK aV : Nat → Nat} {A : Nat → Prop}   (X : Cx p s m args meth c cX12_spelt 8 (some .long) RX12 D tc aK aV A [])  {o : Int64}  {l3 : Int32} {l4 : Int32} {l5 : Int32} {l6 : Int64}  (h : f_X12_spelt_38   l3 l4 l5 l6 = o) : aW p l e (x_Rm 0) s m args below meth c D tc A 8 [] (some (.long o)) True [] 38 [(3, .int l3), (4, .int l4), (5, .int l5), (6, .long l6)] [] [] := by
  unfold f_X12_spelt_38 at h
  refine a_iload_n (pc := 38) X 0 dX12_spelt_38 rfl rfl ?_
  refine a_if_le (pc := 39) X 57 dX12_spelt_39 rfl (fun c_39 => ?_) (fun c_39 => ?_)
  · have h := x_ifp c_39 h
    refine a_sub [1, 2, 3] rfl ?_
    exact w_X12_spelt_57 X     h
  · have h := x_ifn c_39 h
    refine a_ldc2 (pc := 42) X kc_RX12_54 dX12_spelt_42 ?_
    refine a_lload (pc := 45) X 3 dX12_spelt_45 rfl ?_
    refine a_lmul (pc := 47) X dX12_spelt_47 ?_
    refine a_iload_n (pc := 48) X 0 dX12_spelt_48 rfl rfl ?_
    refine a_i2l (pc := 49) X dX12_spelt_49 ?_
    refine a_ladd (pc := 50) X dX12_spelt_50 ?_
    obtain ⟨y3, e_y3, h⟩ := x_lt_elim h
    refine a_nl e_y3 ?_
    refine a_ldc2 (pc := 51) X kc_RX12_56 dX12_spelt_51 ?_
    refine a_lsub (pc := 54) X dX12_spelt_54 ?_
    refine a_lstore (pc := 55) X [(6, .long (y3 - (96 : Int64))), (3, .int l3), (4, .int l4), (5, .int l5)] dX12_spelt_55 (by decide) rfl ?_
    refine a_sub [2, 3, 0] rfl ?_
    exact w_X12_spelt_57 X     h
set_option maxRecDepth 100000 in
set_option maxHeartbeats 4000000 in
theorem c_X12_spelt {l : Launch}   {x0 : Int32} {x1 : Int32} {x2 : Int32} {x3 : Int32} {x4 : Int32} {x5 : Int32}  {o : Int64} (h : f_X12_spelt x0 x1 x2 x3 x4 x5 = o) : CT l yX12_spelt cX12_spelt 8 (some .long) 0 [] [] (fun aK => [.int x0, .int x1, .int x2, .int x3, .int x4, .int x5]) (some (.long o)) True [] := by
  refine CT_of (by decide) (fun _ => Nat.le_of_ble_eq_true rfl) ?_
  intro p e s m args below meth c D tc aK aV A X
  have X : Cx p s m args meth c cX12_spelt 8 (some .long) RX12 D tc aK aV A [] := X
  show aW p l e (x_Rm 0) s m args below meth c D tc A 8 [] (some (.long o)) True [] 0 [(0, .int x0), (1, .int x1), (2, .int x2), (3, .int x3), (4, .int x4), (5, .int x5)] [] []
  unfold f_X12_spelt at h
  refine a_ldc2 (pc := 0) X kc_RX12_54 dX12_spelt_0 ?_
  refine a_iload_n (pc := 3) X 0 dX12_spelt_3 rfl rfl ?_
  refine a_i2l (pc := 4) X dX12_spelt_4 ?_
  refine a_ldc2 (pc := 5) X kc_RX12_56 dX12_spelt_5 ?_
  refine a_lsub (pc := 8) X dX12_spelt_8 ?_
  refine a_lmul (pc := 9) X dX12_spelt_9 ?_
  obtain ⟨y4, e_y4, h⟩ := x_lt_elim h
  refine a_nl e_y4 ?_
  refine a_iload_n (pc := 10) X 1 dX12_spelt_10 rfl rfl ?_
  refine a_i2l (pc := 11) X dX12_spelt_11 ?_
  refine a_ladd (pc := 12) X dX12_spelt_12 ?_
  refine a_ldc2 (pc := 13) X kc_RX12_56 dX12_spelt_13 ?_
  refine a_lsub (pc := 16) X dX12_spelt_16 ?_
  obtain ⟨y5, e_y5, h⟩ := x_lt_elim h
  refine a_nl e_y5 ?_
  refine a_lstore (pc := 17) X [(6, .long y5), (0, .int x0), (1, .int x1), (2, .int x2), (3, .int x3), (4, .int x4), (5, .int x5)] dX12_spelt_17 (by decide) rfl ?_
  refine a_iload_n (pc := 19) X 3 dX12_spelt_19 rfl rfl ?_
  refine a_if_le (pc := 20) X 38 dX12_spelt_20 rfl (fun c_20 => ?_) (fun c_20 => ?_)
  · have h := x_ifp c_20 h
    refine a_sub [4, 5, 6, 0] rfl ?_
    exact w_X12_spelt_38 X     h
  · have h := x_ifn c_20 h
    refine a_ldc2 (pc := 23) X kc_RX12_54 dX12_spelt_23 ?_
    refine a_lload (pc := 26) X 0 dX12_spelt_26 rfl ?_
    refine a_lmul (pc := 28) X dX12_spelt_28 ?_
    refine a_iload_n (pc := 29) X 3 dX12_spelt_29 rfl rfl ?_
    refine a_i2l (pc := 30) X dX12_spelt_30 ?_
    refine a_ladd (pc := 31) X dX12_spelt_31 ?_
    obtain ⟨y6, e_y6, h⟩ := x_lt_elim h
    refine a_nl e_y6 ?_
    refine a_ldc2 (pc := 32) X kc_RX12_56 dX12_spelt_32 ?_
    refine a_lsub (pc := 35) X dX12_spelt_35 ?_
    refine a_lstore (pc := 36) X [(6, .long (y6 - (96 : Int64))), (0, .int x0), (1, .int x1), (2, .int x2), (3, .int x3), (4, .int x4), (5, .int x5)] dX12_spelt_36 (by decide) rfl ?_
    refine a_sub [4, 5, 6, 0] rfl ?_
    exact w_X12_spelt_38 X     h
theorem dX12_wordOf_0 : decode cX12_wordOf 0 = .ok (.iload_n 0, 1) := by decide +kernel
theorem dX12_wordOf_1 : decode cX12_wordOf 1 = .ok (.tableswitch 530 0 27 #[127, 141, 154, 168, 183, 198, 213, 228, 244, 260, 274, 290, 305, 320, 335, 349, 363, 377, 389, 402, 415, 430, 446, 460, 472, 487, 501, 516], 127) := by decide +kernel
theorem dX12_wordOf_128 : decode cX12_wordOf 128 = .ok (.bipush 115, 2) := by decide +kernel
theorem dX12_wordOf_130 : decode cX12_wordOf 130 = .ok (.bipush 112, 2) := by decide +kernel
theorem dX12_wordOf_132 : decode cX12_wordOf 132 = .ok (.bipush 111, 2) := by decide +kernel
theorem dX12_wordOf_134 : decode cX12_wordOf 134 = .ok (.bipush 116, 2) := by decide +kernel
theorem dX12_wordOf_136 : decode cX12_wordOf 136 = .ok (.iconst 0, 1) := by decide +kernel
theorem dX12_wordOf_137 : decode cX12_wordOf 137 = .ok (.iconst 0, 1) := by decide +kernel
theorem dX12_wordOf_138 : decode cX12_wordOf 138 = .ok (.invokestatic 58, 3) := by decide +kernel
theorem dX12_wordOf_141 : decode cX12_wordOf 141 = .ok (.lreturn, 1) := by decide +kernel
theorem dX12_wordOf_142 : decode cX12_wordOf 142 = .ok (.bipush 105, 2) := by decide +kernel
theorem dX12_wordOf_144 : decode cX12_wordOf 144 = .ok (.bipush 110, 2) := by decide +kernel
theorem dX12_wordOf_146 : decode cX12_wordOf 146 = .ok (.bipush 110, 2) := by decide +kernel
theorem dX12_wordOf_148 : decode cX12_wordOf 148 = .ok (.iconst 0, 1) := by decide +kernel
theorem dX12_wordOf_149 : decode cX12_wordOf 149 = .ok (.iconst 0, 1) := by decide +kernel
theorem dX12_wordOf_150 : decode cX12_wordOf 150 = .ok (.iconst 0, 1) := by decide +kernel
theorem dX12_wordOf_151 : decode cX12_wordOf 151 = .ok (.invokestatic 58, 3) := by decide +kernel
theorem dX12_wordOf_154 : decode cX12_wordOf 154 = .ok (.lreturn, 1) := by decide +kernel
theorem dX12_wordOf_155 : decode cX12_wordOf 155 = .ok (.bipush 102, 2) := by decide +kernel
theorem dX12_wordOf_157 : decode cX12_wordOf 157 = .ok (.bipush 111, 2) := by decide +kernel
theorem dX12_wordOf_159 : decode cX12_wordOf 159 = .ok (.bipush 108, 2) := by decide +kernel
theorem dX12_wordOf_161 : decode cX12_wordOf 161 = .ok (.bipush 100, 2) := by decide +kernel
theorem dX12_wordOf_163 : decode cX12_wordOf 163 = .ok (.iconst 0, 1) := by decide +kernel
theorem dX12_wordOf_164 : decode cX12_wordOf 164 = .ok (.iconst 0, 1) := by decide +kernel
theorem dX12_wordOf_165 : decode cX12_wordOf 165 = .ok (.invokestatic 58, 3) := by decide +kernel
theorem dX12_wordOf_168 : decode cX12_wordOf 168 = .ok (.lreturn, 1) := by decide +kernel
theorem dX12_wordOf_169 : decode cX12_wordOf 169 = .ok (.bipush 108, 2) := by decide +kernel
theorem dX12_wordOf_171 : decode cX12_wordOf 171 = .ok (.bipush 97, 2) := by decide +kernel
theorem dX12_wordOf_173 : decode cX12_wordOf 173 = .ok (.bipush 117, 2) := by decide +kernel
theorem dX12_wordOf_175 : decode cX12_wordOf 175 = .ok (.bipush 103, 2) := by decide +kernel
theorem dX12_wordOf_177 : decode cX12_wordOf 177 = .ok (.bipush 104, 2) := by decide +kernel
theorem dX12_wordOf_179 : decode cX12_wordOf 179 = .ok (.iconst 0, 1) := by decide +kernel
theorem dX12_wordOf_180 : decode cX12_wordOf 180 = .ok (.invokestatic 58, 3) := by decide +kernel
theorem dX12_wordOf_183 : decode cX12_wordOf 183 = .ok (.lreturn, 1) := by decide +kernel
theorem dX12_wordOf_184 : decode cX12_wordOf 184 = .ok (.bipush 119, 2) := by decide +kernel
theorem dX12_wordOf_186 : decode cX12_wordOf 186 = .ok (.bipush 111, 2) := by decide +kernel
theorem dX12_wordOf_188 : decode cX12_wordOf 188 = .ok (.bipush 114, 2) := by decide +kernel
theorem dX12_wordOf_190 : decode cX12_wordOf 190 = .ok (.bipush 114, 2) := by decide +kernel
theorem dX12_wordOf_192 : decode cX12_wordOf 192 = .ok (.bipush 121, 2) := by decide +kernel
theorem dX12_wordOf_194 : decode cX12_wordOf 194 = .ok (.iconst 0, 1) := by decide +kernel
theorem dX12_wordOf_195 : decode cX12_wordOf 195 = .ok (.invokestatic 58, 3) := by decide +kernel
theorem dX12_wordOf_198 : decode cX12_wordOf 198 = .ok (.lreturn, 1) := by decide +kernel
theorem dX12_wordOf_199 : decode cX12_wordOf 199 = .ok (.bipush 102, 2) := by decide +kernel
theorem dX12_wordOf_201 : decode cX12_wordOf 201 = .ok (.bipush 114, 2) := by decide +kernel
theorem dX12_wordOf_203 : decode cX12_wordOf 203 = .ok (.bipush 111, 2) := by decide +kernel
theorem dX12_wordOf_205 : decode cX12_wordOf 205 = .ok (.bipush 119, 2) := by decide +kernel
theorem dX12_wordOf_207 : decode cX12_wordOf 207 = .ok (.bipush 110, 2) := by decide +kernel
theorem dX12_wordOf_209 : decode cX12_wordOf 209 = .ok (.iconst 0, 1) := by decide +kernel
theorem dX12_wordOf_210 : decode cX12_wordOf 210 = .ok (.invokestatic 58, 3) := by decide +kernel
theorem dX12_wordOf_213 : decode cX12_wordOf 213 = .ok (.lreturn, 1) := by decide +kernel
theorem dX12_wordOf_214 : decode cX12_wordOf 214 = .ok (.bipush 116, 2) := by decide +kernel
theorem dX12_wordOf_216 : decode cX12_wordOf 216 = .ok (.bipush 104, 2) := by decide +kernel
theorem dX12_wordOf_218 : decode cX12_wordOf 218 = .ok (.bipush 105, 2) := by decide +kernel
theorem dX12_wordOf_220 : decode cX12_wordOf 220 = .ok (.bipush 110, 2) := by decide +kernel
theorem dX12_wordOf_222 : decode cX12_wordOf 222 = .ok (.bipush 103, 2) := by decide +kernel
theorem dX12_wordOf_224 : decode cX12_wordOf 224 = .ok (.iconst 0, 1) := by decide +kernel
theorem dX12_wordOf_225 : decode cX12_wordOf 225 = .ok (.invokestatic 58, 3) := by decide +kernel
theorem dX12_wordOf_228 : decode cX12_wordOf 228 = .ok (.lreturn, 1) := by decide +kernel
theorem dX12_wordOf_229 : decode cX12_wordOf 229 = .ok (.bipush 119, 2) := by decide +kernel
theorem dX12_wordOf_231 : decode cX12_wordOf 231 = .ok (.bipush 97, 2) := by decide +kernel
theorem dX12_wordOf_233 : decode cX12_wordOf 233 = .ok (.bipush 108, 2) := by decide +kernel
theorem dX12_wordOf_235 : decode cX12_wordOf 235 = .ok (.bipush 107, 2) := by decide +kernel
theorem dX12_wordOf_237 : decode cX12_wordOf 237 = .ok (.bipush 101, 2) := by decide +kernel
theorem dX12_wordOf_239 : decode cX12_wordOf 239 = .ok (.bipush 114, 2) := by decide +kernel
theorem dX12_wordOf_241 : decode cX12_wordOf 241 = .ok (.invokestatic 58, 3) := by decide +kernel
theorem dX12_wordOf_244 : decode cX12_wordOf 244 = .ok (.lreturn, 1) := by decide +kernel
theorem dX12_wordOf_245 : decode cX12_wordOf 245 = .ok (.bipush 98, 2) := by decide +kernel
theorem dX12_wordOf_247 : decode cX12_wordOf 247 = .ok (.bipush 114, 2) := by decide +kernel
theorem dX12_wordOf_249 : decode cX12_wordOf 249 = .ok (.bipush 101, 2) := by decide +kernel
theorem dX12_wordOf_251 : decode cX12_wordOf 251 = .ok (.bipush 97, 2) := by decide +kernel
theorem dX12_wordOf_253 : decode cX12_wordOf 253 = .ok (.bipush 116, 2) := by decide +kernel
theorem dX12_wordOf_255 : decode cX12_wordOf 255 = .ok (.bipush 104, 2) := by decide +kernel
theorem dX12_wordOf_257 : decode cX12_wordOf 257 = .ok (.invokestatic 58, 3) := by decide +kernel
theorem dX12_wordOf_260 : decode cX12_wordOf 260 = .ok (.lreturn, 1) := by decide +kernel
theorem dX12_wordOf_261 : decode cX12_wordOf 261 = .ok (.bipush 103, 2) := by decide +kernel
theorem dX12_wordOf_263 : decode cX12_wordOf 263 = .ok (.bipush 111, 2) := by decide +kernel
theorem dX12_wordOf_265 : decode cX12_wordOf 265 = .ok (.bipush 101, 2) := by decide +kernel
theorem dX12_wordOf_267 : decode cX12_wordOf 267 = .ok (.bipush 115, 2) := by decide +kernel
theorem dX12_wordOf_269 : decode cX12_wordOf 269 = .ok (.iconst 0, 1) := by decide +kernel
theorem dX12_wordOf_270 : decode cX12_wordOf 270 = .ok (.iconst 0, 1) := by decide +kernel
theorem dX12_wordOf_271 : decode cX12_wordOf 271 = .ok (.invokestatic 58, 3) := by decide +kernel
theorem dX12_wordOf_274 : decode cX12_wordOf 274 = .ok (.lreturn, 1) := by decide +kernel
theorem dX12_wordOf_275 : decode cX12_wordOf 275 = .ok (.bipush 108, 2) := by decide +kernel
theorem dX12_wordOf_277 : decode cX12_wordOf 277 = .ok (.bipush 101, 2) := by decide +kernel
theorem dX12_wordOf_279 : decode cX12_wordOf 279 = .ok (.bipush 97, 2) := by decide +kernel
theorem dX12_wordOf_281 : decode cX12_wordOf 281 = .ok (.bipush 114, 2) := by decide +kernel
theorem dX12_wordOf_283 : decode cX12_wordOf 283 = .ok (.bipush 110, 2) := by decide +kernel
theorem dX12_wordOf_285 : decode cX12_wordOf 285 = .ok (.bipush 115, 2) := by decide +kernel
theorem dX12_wordOf_287 : decode cX12_wordOf 287 = .ok (.invokestatic 58, 3) := by decide +kernel
theorem dX12_wordOf_290 : decode cX12_wordOf 290 = .ok (.lreturn, 1) := by decide +kernel
theorem dX12_wordOf_291 : decode cX12_wordOf 291 = .ok (.bipush 116, 2) := by decide +kernel
theorem dX12_wordOf_293 : decode cX12_wordOf 293 = .ok (.bipush 101, 2) := by decide +kernel
theorem dX12_wordOf_295 : decode cX12_wordOf 295 = .ok (.bipush 108, 2) := by decide +kernel
theorem dX12_wordOf_297 : decode cX12_wordOf 297 = .ok (.bipush 108, 2) := by decide +kernel
theorem dX12_wordOf_299 : decode cX12_wordOf 299 = .ok (.bipush 115, 2) := by decide +kernel
theorem dX12_wordOf_301 : decode cX12_wordOf 301 = .ok (.iconst 0, 1) := by decide +kernel
theorem dX12_wordOf_302 : decode cX12_wordOf 302 = .ok (.invokestatic 58, 3) := by decide +kernel
theorem dX12_wordOf_305 : decode cX12_wordOf 305 = .ok (.lreturn, 1) := by decide +kernel
theorem dX12_wordOf_306 : decode cX12_wordOf 306 = .ok (.bipush 114, 2) := by decide +kernel
theorem dX12_wordOf_308 : decode cX12_wordOf 308 = .ok (.bipush 101, 2) := by decide +kernel
theorem dX12_wordOf_310 : decode cX12_wordOf 310 = .ok (.bipush 115, 2) := by decide +kernel
theorem dX12_wordOf_312 : decode cX12_wordOf 312 = .ok (.bipush 116, 2) := by decide +kernel
theorem dX12_wordOf_314 : decode cX12_wordOf 314 = .ok (.bipush 115, 2) := by decide +kernel
theorem dX12_wordOf_316 : decode cX12_wordOf 316 = .ok (.iconst 0, 1) := by decide +kernel
theorem dX12_wordOf_317 : decode cX12_wordOf 317 = .ok (.invokestatic 58, 3) := by decide +kernel
theorem dX12_wordOf_320 : decode cX12_wordOf 320 = .ok (.lreturn, 1) := by decide +kernel
theorem dX12_wordOf_321 : decode cX12_wordOf 321 = .ok (.bipush 99, 2) := by decide +kernel
theorem dX12_wordOf_323 : decode cX12_wordOf 323 = .ok (.bipush 114, 2) := by decide +kernel
theorem dX12_wordOf_325 : decode cX12_wordOf 325 = .ok (.bipush 101, 2) := by decide +kernel
theorem dX12_wordOf_327 : decode cX12_wordOf 327 = .ok (.bipush 97, 2) := by decide +kernel
theorem dX12_wordOf_329 : decode cX12_wordOf 329 = .ok (.bipush 109, 2) := by decide +kernel
theorem dX12_wordOf_331 : decode cX12_wordOf 331 = .ok (.iconst 0, 1) := by decide +kernel
theorem dX12_wordOf_332 : decode cX12_wordOf 332 = .ok (.invokestatic 58, 3) := by decide +kernel
theorem dX12_wordOf_335 : decode cX12_wordOf 335 = .ok (.lreturn, 1) := by decide +kernel
theorem dX12_wordOf_336 : decode cX12_wordOf 336 = .ok (.bipush 115, 2) := by decide +kernel
theorem dX12_wordOf_338 : decode cX12_wordOf 338 = .ok (.bipush 108, 2) := by decide +kernel
theorem dX12_wordOf_340 : decode cX12_wordOf 340 = .ok (.bipush 105, 2) := by decide +kernel
theorem dX12_wordOf_342 : decode cX12_wordOf 342 = .ok (.bipush 112, 2) := by decide +kernel
theorem dX12_wordOf_344 : decode cX12_wordOf 344 = .ok (.iconst 0, 1) := by decide +kernel
theorem dX12_wordOf_345 : decode cX12_wordOf 345 = .ok (.iconst 0, 1) := by decide +kernel
theorem dX12_wordOf_346 : decode cX12_wordOf 346 = .ok (.invokestatic 58, 3) := by decide +kernel
theorem dX12_wordOf_349 : decode cX12_wordOf 349 = .ok (.lreturn, 1) := by decide +kernel
theorem dX12_wordOf_350 : decode cX12_wordOf 350 = .ok (.bipush 109, 2) := by decide +kernel
theorem dX12_wordOf_352 : decode cX12_wordOf 352 = .ok (.bipush 111, 2) := by decide +kernel
theorem dX12_wordOf_354 : decode cX12_wordOf 354 = .ok (.bipush 111, 2) := by decide +kernel
theorem dX12_wordOf_356 : decode cX12_wordOf 356 = .ok (.bipush 100, 2) := by decide +kernel
theorem dX12_wordOf_358 : decode cX12_wordOf 358 = .ok (.iconst 0, 1) := by decide +kernel
theorem dX12_wordOf_359 : decode cX12_wordOf 359 = .ok (.iconst 0, 1) := by decide +kernel
theorem dX12_wordOf_360 : decode cX12_wordOf 360 = .ok (.invokestatic 58, 3) := by decide +kernel
theorem dX12_wordOf_363 : decode cX12_wordOf 363 = .ok (.lreturn, 1) := by decide +kernel
theorem dX12_wordOf_364 : decode cX12_wordOf 364 = .ok (.bipush 104, 2) := by decide +kernel
theorem dX12_wordOf_366 : decode cX12_wordOf 366 = .ok (.bipush 111, 2) := by decide +kernel
theorem dX12_wordOf_368 : decode cX12_wordOf 368 = .ok (.bipush 117, 2) := by decide +kernel
theorem dX12_wordOf_370 : decode cX12_wordOf 370 = .ok (.bipush 114, 2) := by decide +kernel
theorem dX12_wordOf_372 : decode cX12_wordOf 372 = .ok (.iconst 0, 1) := by decide +kernel
theorem dX12_wordOf_373 : decode cX12_wordOf 373 = .ok (.iconst 0, 1) := by decide +kernel
theorem dX12_wordOf_374 : decode cX12_wordOf 374 = .ok (.invokestatic 58, 3) := by decide +kernel
theorem dX12_wordOf_377 : decode cX12_wordOf 377 = .ok (.lreturn, 1) := by decide +kernel
theorem dX12_wordOf_378 : decode cX12_wordOf 378 = .ok (.bipush 111, 2) := by decide +kernel
theorem dX12_wordOf_380 : decode cX12_wordOf 380 = .ok (.bipush 114, 2) := by decide +kernel
theorem dX12_wordOf_382 : decode cX12_wordOf 382 = .ok (.iconst 0, 1) := by decide +kernel
theorem dX12_wordOf_383 : decode cX12_wordOf 383 = .ok (.iconst 0, 1) := by decide +kernel
theorem dX12_wordOf_384 : decode cX12_wordOf 384 = .ok (.iconst 0, 1) := by decide +kernel
theorem dX12_wordOf_385 : decode cX12_wordOf 385 = .ok (.iconst 0, 1) := by decide +kernel
theorem dX12_wordOf_386 : decode cX12_wordOf 386 = .ok (.invokestatic 58, 3) := by decide +kernel
theorem dX12_wordOf_389 : decode cX12_wordOf 389 = .ok (.lreturn, 1) := by decide +kernel
theorem dX12_wordOf_390 : decode cX12_wordOf 390 = .ok (.bipush 97, 2) := by decide +kernel
theorem dX12_wordOf_392 : decode cX12_wordOf 392 = .ok (.bipush 110, 2) := by decide +kernel
theorem dX12_wordOf_394 : decode cX12_wordOf 394 = .ok (.bipush 100, 2) := by decide +kernel
theorem dX12_wordOf_396 : decode cX12_wordOf 396 = .ok (.iconst 0, 1) := by decide +kernel
theorem dX12_wordOf_397 : decode cX12_wordOf 397 = .ok (.iconst 0, 1) := by decide +kernel
theorem dX12_wordOf_398 : decode cX12_wordOf 398 = .ok (.iconst 0, 1) := by decide +kernel
theorem dX12_wordOf_399 : decode cX12_wordOf 399 = .ok (.invokestatic 58, 3) := by decide +kernel
theorem dX12_wordOf_402 : decode cX12_wordOf 402 = .ok (.lreturn, 1) := by decide +kernel
theorem dX12_wordOf_403 : decode cX12_wordOf 403 = .ok (.bipush 110, 2) := by decide +kernel
theorem dX12_wordOf_405 : decode cX12_wordOf 405 = .ok (.bipush 111, 2) := by decide +kernel
theorem dX12_wordOf_407 : decode cX12_wordOf 407 = .ok (.bipush 116, 2) := by decide +kernel
theorem dX12_wordOf_409 : decode cX12_wordOf 409 = .ok (.iconst 0, 1) := by decide +kernel
theorem dX12_wordOf_410 : decode cX12_wordOf 410 = .ok (.iconst 0, 1) := by decide +kernel
theorem dX12_wordOf_411 : decode cX12_wordOf 411 = .ok (.iconst 0, 1) := by decide +kernel
theorem dX12_wordOf_412 : decode cX12_wordOf 412 = .ok (.invokestatic 58, 3) := by decide +kernel
theorem dX12_wordOf_415 : decode cX12_wordOf 415 = .ok (.lreturn, 1) := by decide +kernel
theorem dX12_wordOf_416 : decode cX12_wordOf 416 = .ok (.bipush 103, 2) := by decide +kernel
theorem dX12_wordOf_418 : decode cX12_wordOf 418 = .ok (.bipush 111, 2) := by decide +kernel
theorem dX12_wordOf_420 : decode cX12_wordOf 420 = .ok (.bipush 105, 2) := by decide +kernel
theorem dX12_wordOf_422 : decode cX12_wordOf 422 = .ok (.bipush 110, 2) := by decide +kernel
theorem dX12_wordOf_424 : decode cX12_wordOf 424 = .ok (.bipush 103, 2) := by decide +kernel
theorem dX12_wordOf_426 : decode cX12_wordOf 426 = .ok (.iconst 0, 1) := by decide +kernel
theorem dX12_wordOf_427 : decode cX12_wordOf 427 = .ok (.invokestatic 58, 3) := by decide +kernel
theorem dX12_wordOf_430 : decode cX12_wordOf 430 = .ok (.lreturn, 1) := by decide +kernel
theorem dX12_wordOf_431 : decode cX12_wordOf 431 = .ok (.bipush 104, 2) := by decide +kernel
theorem dX12_wordOf_433 : decode cX12_wordOf 433 = .ok (.bipush 111, 2) := by decide +kernel
theorem dX12_wordOf_435 : decode cX12_wordOf 435 = .ok (.bipush 117, 2) := by decide +kernel
theorem dX12_wordOf_437 : decode cX12_wordOf 437 = .ok (.bipush 115, 2) := by decide +kernel
theorem dX12_wordOf_439 : decode cX12_wordOf 439 = .ok (.bipush 101, 2) := by decide +kernel
theorem dX12_wordOf_441 : decode cX12_wordOf 441 = .ok (.bipush 100, 2) := by decide +kernel
theorem dX12_wordOf_443 : decode cX12_wordOf 443 = .ok (.invokestatic 58, 3) := by decide +kernel
theorem dX12_wordOf_446 : decode cX12_wordOf 446 = .ok (.lreturn, 1) := by decide +kernel
theorem dX12_wordOf_447 : decode cX12_wordOf 447 = .ok (.bipush 108, 2) := by decide +kernel
theorem dX12_wordOf_449 : decode cX12_wordOf 449 = .ok (.bipush 111, 2) := by decide +kernel
theorem dX12_wordOf_451 : decode cX12_wordOf 451 = .ok (.bipush 115, 2) := by decide +kernel
theorem dX12_wordOf_453 : decode cX12_wordOf 453 = .ok (.bipush 116, 2) := by decide +kernel
theorem dX12_wordOf_455 : decode cX12_wordOf 455 = .ok (.iconst 0, 1) := by decide +kernel
theorem dX12_wordOf_456 : decode cX12_wordOf 456 = .ok (.iconst 0, 1) := by decide +kernel
theorem dX12_wordOf_457 : decode cX12_wordOf 457 = .ok (.invokestatic 58, 3) := by decide +kernel
theorem dX12_wordOf_460 : decode cX12_wordOf 460 = .ok (.lreturn, 1) := by decide +kernel
theorem dX12_wordOf_461 : decode cX12_wordOf 461 = .ok (.bipush 97, 2) := by decide +kernel
theorem dX12_wordOf_463 : decode cX12_wordOf 463 = .ok (.bipush 116, 2) := by decide +kernel
theorem dX12_wordOf_465 : decode cX12_wordOf 465 = .ok (.iconst 0, 1) := by decide +kernel
theorem dX12_wordOf_466 : decode cX12_wordOf 466 = .ok (.iconst 0, 1) := by decide +kernel
theorem dX12_wordOf_467 : decode cX12_wordOf 467 = .ok (.iconst 0, 1) := by decide +kernel
theorem dX12_wordOf_468 : decode cX12_wordOf 468 = .ok (.iconst 0, 1) := by decide +kernel
theorem dX12_wordOf_469 : decode cX12_wordOf 469 = .ok (.invokestatic 58, 3) := by decide +kernel
theorem dX12_wordOf_472 : decode cX12_wordOf 472 = .ok (.lreturn, 1) := by decide +kernel
theorem dX12_wordOf_473 : decode cX12_wordOf 473 = .ok (.bipush 107, 2) := by decide +kernel
theorem dX12_wordOf_475 : decode cX12_wordOf 475 = .ok (.bipush 110, 2) := by decide +kernel
theorem dX12_wordOf_477 : decode cX12_wordOf 477 = .ok (.bipush 111, 2) := by decide +kernel
theorem dX12_wordOf_479 : decode cX12_wordOf 479 = .ok (.bipush 119, 2) := by decide +kernel
theorem dX12_wordOf_481 : decode cX12_wordOf 481 = .ok (.bipush 115, 2) := by decide +kernel
theorem dX12_wordOf_483 : decode cX12_wordOf 483 = .ok (.iconst 0, 1) := by decide +kernel
theorem dX12_wordOf_484 : decode cX12_wordOf 484 = .ok (.invokestatic 58, 3) := by decide +kernel
theorem dX12_wordOf_487 : decode cX12_wordOf 487 = .ok (.lreturn, 1) := by decide +kernel
theorem dX12_wordOf_488 : decode cX12_wordOf 488 = .ok (.bipush 108, 2) := by decide +kernel
theorem dX12_wordOf_490 : decode cX12_wordOf 490 = .ok (.bipush 101, 2) := by decide +kernel
theorem dX12_wordOf_492 : decode cX12_wordOf 492 = .ok (.bipush 102, 2) := by decide +kernel
theorem dX12_wordOf_494 : decode cX12_wordOf 494 = .ok (.bipush 116, 2) := by decide +kernel
theorem dX12_wordOf_496 : decode cX12_wordOf 496 = .ok (.iconst 0, 1) := by decide +kernel
theorem dX12_wordOf_497 : decode cX12_wordOf 497 = .ok (.iconst 0, 1) := by decide +kernel
theorem dX12_wordOf_498 : decode cX12_wordOf 498 = .ok (.invokestatic 58, 3) := by decide +kernel
theorem dX12_wordOf_501 : decode cX12_wordOf 501 = .ok (.lreturn, 1) := by decide +kernel
theorem dX12_wordOf_502 : decode cX12_wordOf 502 = .ok (.bipush 116, 2) := by decide +kernel
theorem dX12_wordOf_504 : decode cX12_wordOf 504 = .ok (.bipush 105, 2) := by decide +kernel
theorem dX12_wordOf_506 : decode cX12_wordOf 506 = .ok (.bipush 114, 2) := by decide +kernel
theorem dX12_wordOf_508 : decode cX12_wordOf 508 = .ok (.bipush 101, 2) := by decide +kernel
theorem dX12_wordOf_510 : decode cX12_wordOf 510 = .ok (.bipush 100, 2) := by decide +kernel
theorem dX12_wordOf_512 : decode cX12_wordOf 512 = .ok (.iconst 0, 1) := by decide +kernel
theorem dX12_wordOf_513 : decode cX12_wordOf 513 = .ok (.invokestatic 58, 3) := by decide +kernel
theorem dX12_wordOf_516 : decode cX12_wordOf 516 = .ok (.lreturn, 1) := by decide +kernel
theorem dX12_wordOf_517 : decode cX12_wordOf 517 = .ok (.bipush 112, 2) := by decide +kernel
theorem dX12_wordOf_519 : decode cX12_wordOf 519 = .ok (.bipush 97, 2) := by decide +kernel
theorem dX12_wordOf_521 : decode cX12_wordOf 521 = .ok (.bipush 99, 2) := by decide +kernel
theorem dX12_wordOf_523 : decode cX12_wordOf 523 = .ok (.bipush 101, 2) := by decide +kernel
theorem dX12_wordOf_525 : decode cX12_wordOf 525 = .ok (.iconst 0, 1) := by decide +kernel
theorem dX12_wordOf_526 : decode cX12_wordOf 526 = .ok (.iconst 0, 1) := by decide +kernel
theorem dX12_wordOf_527 : decode cX12_wordOf 527 = .ok (.invokestatic 58, 3) := by decide +kernel
theorem dX12_wordOf_530 : decode cX12_wordOf 530 = .ok (.lreturn, 1) := by decide +kernel
theorem dX12_wordOf_531 : decode cX12_wordOf 531 = .ok (.bipush 110, 2) := by decide +kernel
theorem dX12_wordOf_533 : decode cX12_wordOf 533 = .ok (.bipush 117, 2) := by decide +kernel
theorem dX12_wordOf_535 : decode cX12_wordOf 535 = .ok (.bipush 109, 2) := by decide +kernel
theorem dX12_wordOf_537 : decode cX12_wordOf 537 = .ok (.bipush 98, 2) := by decide +kernel
theorem dX12_wordOf_539 : decode cX12_wordOf 539 = .ok (.bipush 101, 2) := by decide +kernel
theorem dX12_wordOf_541 : decode cX12_wordOf 541 = .ok (.bipush 114, 2) := by decide +kernel
theorem dX12_wordOf_543 : decode cX12_wordOf 543 = .ok (.invokestatic 58, 3) := by decide +kernel
theorem dX12_wordOf_546 : decode cX12_wordOf 546 = .ok (.lreturn, 1) := by decide +kernel
def f_X12_wordOf (x0 : Int32) : Int64 :=
  if x0 = (0 : Int32) then
  (x_lt (f_X12_spelt (115 : Int32) (112 : Int32) (111 : Int32) (116 : Int32) (0 : Int32) (0 : Int32)) (fun y2 =>
  (y2 : Int64)))
  else (if x0 = (1 : Int32) then
  (x_lt (f_X12_spelt (105 : Int32) (110 : Int32) (110 : Int32) (0 : Int32) (0 : Int32) (0 : Int32)) (fun y3 =>
  (y3 : Int64)))
  else (if x0 = (2 : Int32) then
  (x_lt (f_X12_spelt (102 : Int32) (111 : Int32) (108 : Int32) (100 : Int32) (0 : Int32) (0 : Int32)) (fun y4 =>
  (y4 : Int64)))
  else (if x0 = (3 : Int32) then
  (x_lt (f_X12_spelt (108 : Int32) (97 : Int32) (117 : Int32) (103 : Int32) (104 : Int32) (0 : Int32)) (fun y5 =>
  (y5 : Int64)))
  else (if x0 = (4 : Int32) then
  (x_lt (f_X12_spelt (119 : Int32) (111 : Int32) (114 : Int32) (114 : Int32) (121 : Int32) (0 : Int32)) (fun y6 =>
  (y6 : Int64)))
  else (if x0 = (5 : Int32) then
  (x_lt (f_X12_spelt (102 : Int32) (114 : Int32) (111 : Int32) (119 : Int32) (110 : Int32) (0 : Int32)) (fun y7 =>
  (y7 : Int64)))
  else (if x0 = (6 : Int32) then
  (x_lt (f_X12_spelt (116 : Int32) (104 : Int32) (105 : Int32) (110 : Int32) (103 : Int32) (0 : Int32)) (fun y8 =>
  (y8 : Int64)))
  else (if x0 = (7 : Int32) then
  (x_lt (f_X12_spelt (119 : Int32) (97 : Int32) (108 : Int32) (107 : Int32) (101 : Int32) (114 : Int32)) (fun y9 =>
  (y9 : Int64)))
  else (if x0 = (8 : Int32) then
  (x_lt (f_X12_spelt (98 : Int32) (114 : Int32) (101 : Int32) (97 : Int32) (116 : Int32) (104 : Int32)) (fun y10 =>
  (y10 : Int64)))
  else (if x0 = (9 : Int32) then
  (x_lt (f_X12_spelt (103 : Int32) (111 : Int32) (101 : Int32) (115 : Int32) (0 : Int32) (0 : Int32)) (fun y11 =>
  (y11 : Int64)))
  else (if x0 = (10 : Int32) then
  (x_lt (f_X12_spelt (108 : Int32) (101 : Int32) (97 : Int32) (114 : Int32) (110 : Int32) (115 : Int32)) (fun y12 =>
  (y12 : Int64)))
  else (if x0 = (11 : Int32) then
  (x_lt (f_X12_spelt (116 : Int32) (101 : Int32) (108 : Int32) (108 : Int32) (115 : Int32) (0 : Int32)) (fun y13 =>
  (y13 : Int64)))
  else (if x0 = (12 : Int32) then
  (x_lt (f_X12_spelt (114 : Int32) (101 : Int32) (115 : Int32) (116 : Int32) (115 : Int32) (0 : Int32)) (fun y14 =>
  (y14 : Int64)))
  else (if x0 = (13 : Int32) then
  (x_lt (f_X12_spelt (99 : Int32) (114 : Int32) (101 : Int32) (97 : Int32) (109 : Int32) (0 : Int32)) (fun y15 =>
  (y15 : Int64)))
  else (if x0 = (14 : Int32) then
  (x_lt (f_X12_spelt (115 : Int32) (108 : Int32) (105 : Int32) (112 : Int32) (0 : Int32) (0 : Int32)) (fun y16 =>
  (y16 : Int64)))
  else (if x0 = (15 : Int32) then
  (x_lt (f_X12_spelt (109 : Int32) (111 : Int32) (111 : Int32) (100 : Int32) (0 : Int32) (0 : Int32)) (fun y17 =>
  (y17 : Int64)))
  else (if x0 = (16 : Int32) then
  (x_lt (f_X12_spelt (104 : Int32) (111 : Int32) (117 : Int32) (114 : Int32) (0 : Int32) (0 : Int32)) (fun y18 =>
  (y18 : Int64)))
  else (if x0 = (17 : Int32) then
  (x_lt (f_X12_spelt (111 : Int32) (114 : Int32) (0 : Int32) (0 : Int32) (0 : Int32) (0 : Int32)) (fun y19 =>
  (y19 : Int64)))
  else (if x0 = (18 : Int32) then
  (x_lt (f_X12_spelt (97 : Int32) (110 : Int32) (100 : Int32) (0 : Int32) (0 : Int32) (0 : Int32)) (fun y20 =>
  (y20 : Int64)))
  else (if x0 = (19 : Int32) then
  (x_lt (f_X12_spelt (110 : Int32) (111 : Int32) (116 : Int32) (0 : Int32) (0 : Int32) (0 : Int32)) (fun y21 =>
  (y21 : Int64)))
  else (if x0 = (20 : Int32) then
  (x_lt (f_X12_spelt (103 : Int32) (111 : Int32) (105 : Int32) (110 : Int32) (103 : Int32) (0 : Int32)) (fun y22 =>
  (y22 : Int64)))
  else (if x0 = (21 : Int32) then
  (x_lt (f_X12_spelt (104 : Int32) (111 : Int32) (117 : Int32) (115 : Int32) (101 : Int32) (100 : Int32)) (fun y23 =>
  (y23 : Int64)))
  else (if x0 = (22 : Int32) then
  (x_lt (f_X12_spelt (108 : Int32) (111 : Int32) (115 : Int32) (116 : Int32) (0 : Int32) (0 : Int32)) (fun y24 =>
  (y24 : Int64)))
  else (if x0 = (23 : Int32) then
  (x_lt (f_X12_spelt (97 : Int32) (116 : Int32) (0 : Int32) (0 : Int32) (0 : Int32) (0 : Int32)) (fun y25 =>
  (y25 : Int64)))
  else (if x0 = (24 : Int32) then
  (x_lt (f_X12_spelt (107 : Int32) (110 : Int32) (111 : Int32) (119 : Int32) (115 : Int32) (0 : Int32)) (fun y26 =>
  (y26 : Int64)))
  else (if x0 = (25 : Int32) then
  (x_lt (f_X12_spelt (108 : Int32) (101 : Int32) (102 : Int32) (116 : Int32) (0 : Int32) (0 : Int32)) (fun y27 =>
  (y27 : Int64)))
  else (if x0 = (26 : Int32) then
  (x_lt (f_X12_spelt (116 : Int32) (105 : Int32) (114 : Int32) (101 : Int32) (100 : Int32) (0 : Int32)) (fun y28 =>
  (y28 : Int64)))
  else (if x0 = (27 : Int32) then
  (x_lt (f_X12_spelt (112 : Int32) (97 : Int32) (99 : Int32) (101 : Int32) (0 : Int32) (0 : Int32)) (fun y29 =>
  (y29 : Int64)))
  else (x_lt (f_X12_spelt (110 : Int32) (117 : Int32) (109 : Int32) (98 : Int32) (101 : Int32) (114 : Int32)) (fun y30 =>
  (y30 : Int64))))))))))))))))))))))))))))))
set_option maxRecDepth 100000 in
set_option maxHeartbeats 4000000 in
theorem c_X12_wordOf {l : Launch}   {x0 : Int32}  {o : Int64} (h : f_X12_wordOf x0 = o) : CT l yX12_wordOf cX12_wordOf 1 (some .long) 1 [] [] (fun aK => [.int x0]) (some (.long o)) True [] := by
  refine CT_of (by decide) (fun _ => Nat.le_of_ble_eq_true rfl) ?_
  intro p e s m args below meth c D tc aK aV A X
  have X : Cx p s m args meth c cX12_wordOf 1 (some .long) RX12 D tc aK aV A [] := X
  show aW p l e (x_Rm 1) s m args below meth c D tc A 1 [] (some (.long o)) True [] 0 [(0, .int x0)] [] []
  unfold f_X12_wordOf at h
  refine a_iload_n (pc := 0) X 0 dX12_wordOf_0 rfl rfl ?_
  by_cases c_1_0 : x0 = (0 : Int32)
  · have h := x_ifp c_1_0 h
    refine a_tin (pc := 1) X 128 dX12_wordOf_1 c_1_0 (by decide) (by decide) rfl rfl ?_
    refine a_bipush (pc := 128) X dX12_wordOf_128 q_bp_115 ?_
    refine a_bipush (pc := 130) X dX12_wordOf_130 q_bp_112 ?_
    refine a_bipush (pc := 132) X dX12_wordOf_132 q_bp_111 ?_
    refine a_bipush (pc := 134) X dX12_wordOf_134 q_bp_116 ?_
    refine a_iconst (pc := 136) X dX12_wordOf_136 q_ic_0 ?_
    refine a_iconst (pc := 137) X dX12_wordOf_137 q_ic_0 ?_
    obtain ⟨y2, e_y2, h⟩ := x_lt_elim h
    refine a_callS (pc := 138) (st2 := [.long y2]) (vs2 := []) X [] [] [.int (115 : Int32), .int (112 : Int32), .int (111 : Int32), .int (116 : Int32), .int (0 : Int32), .int (0 : Int32)] [] cv_RX12_58 (c_X12_spelt   e_y2) rfl rfl rfl rfl rfl rfl rfl rfl rfl rfl rfl (Nat.le_of_ble_eq_true rfl) ⟨Nat.le_of_ble_eq_true rfl, Nat.le_of_ble_eq_true rfl⟩ dX12_wordOf_138 (fun _ => ?_)
    subst h
    exact a_lret (pc := 141) X trivial dX12_wordOf_141
  · have h := x_ifn c_1_0 h
    by_cases c_1_1 : x0 = (1 : Int32)
    · have h := x_ifp c_1_1 h
      refine a_tin (pc := 1) X 142 dX12_wordOf_1 c_1_1 (by decide) (by decide) rfl rfl ?_
      refine a_bipush (pc := 142) X dX12_wordOf_142 q_bp_105 ?_
      refine a_bipush (pc := 144) X dX12_wordOf_144 q_bp_110 ?_
      refine a_bipush (pc := 146) X dX12_wordOf_146 q_bp_110 ?_
      refine a_iconst (pc := 148) X dX12_wordOf_148 q_ic_0 ?_
      refine a_iconst (pc := 149) X dX12_wordOf_149 q_ic_0 ?_
      refine a_iconst (pc := 150) X dX12_wordOf_150 q_ic_0 ?_
      obtain ⟨y3, e_y3, h⟩ := x_lt_elim h
      refine a_callS (pc := 151) (st2 := [.long y3]) (vs2 := []) X [] [] [.int (105 : Int32), .int (110 : Int32), .int (110 : Int32), .int (0 : Int32), .int (0 : Int32), .int (0 : Int32)] [] cv_RX12_58 (c_X12_spelt   e_y3) rfl rfl rfl rfl rfl rfl rfl rfl rfl rfl rfl (Nat.le_of_ble_eq_true rfl) ⟨Nat.le_of_ble_eq_true rfl, Nat.le_of_ble_eq_true rfl⟩ dX12_wordOf_151 (fun _ => ?_)
      subst h
      exact a_lret (pc := 154) X trivial dX12_wordOf_154
    · have h := x_ifn c_1_1 h
      by_cases c_1_2 : x0 = (2 : Int32)
      · have h := x_ifp c_1_2 h
        refine a_tin (pc := 1) X 155 dX12_wordOf_1 c_1_2 (by decide) (by decide) rfl rfl ?_
        refine a_bipush (pc := 155) X dX12_wordOf_155 q_bp_102 ?_
        refine a_bipush (pc := 157) X dX12_wordOf_157 q_bp_111 ?_
        refine a_bipush (pc := 159) X dX12_wordOf_159 q_bp_108 ?_
        refine a_bipush (pc := 161) X dX12_wordOf_161 q_bp_100 ?_
        refine a_iconst (pc := 163) X dX12_wordOf_163 q_ic_0 ?_
        refine a_iconst (pc := 164) X dX12_wordOf_164 q_ic_0 ?_
        obtain ⟨y4, e_y4, h⟩ := x_lt_elim h
        refine a_callS (pc := 165) (st2 := [.long y4]) (vs2 := []) X [] [] [.int (102 : Int32), .int (111 : Int32), .int (108 : Int32), .int (100 : Int32), .int (0 : Int32), .int (0 : Int32)] [] cv_RX12_58 (c_X12_spelt   e_y4) rfl rfl rfl rfl rfl rfl rfl rfl rfl rfl rfl (Nat.le_of_ble_eq_true rfl) ⟨Nat.le_of_ble_eq_true rfl, Nat.le_of_ble_eq_true rfl⟩ dX12_wordOf_165 (fun _ => ?_)
        subst h
        exact a_lret (pc := 168) X trivial dX12_wordOf_168
      · have h := x_ifn c_1_2 h
        by_cases c_1_3 : x0 = (3 : Int32)
        · have h := x_ifp c_1_3 h
          refine a_tin (pc := 1) X 169 dX12_wordOf_1 c_1_3 (by decide) (by decide) rfl rfl ?_
          refine a_bipush (pc := 169) X dX12_wordOf_169 q_bp_108 ?_
          refine a_bipush (pc := 171) X dX12_wordOf_171 q_bp_97 ?_
          refine a_bipush (pc := 173) X dX12_wordOf_173 q_bp_117 ?_
          refine a_bipush (pc := 175) X dX12_wordOf_175 q_bp_103 ?_
          refine a_bipush (pc := 177) X dX12_wordOf_177 q_bp_104 ?_
          refine a_iconst (pc := 179) X dX12_wordOf_179 q_ic_0 ?_
          obtain ⟨y5, e_y5, h⟩ := x_lt_elim h
          refine a_callS (pc := 180) (st2 := [.long y5]) (vs2 := []) X [] [] [.int (108 : Int32), .int (97 : Int32), .int (117 : Int32), .int (103 : Int32), .int (104 : Int32), .int (0 : Int32)] [] cv_RX12_58 (c_X12_spelt   e_y5) rfl rfl rfl rfl rfl rfl rfl rfl rfl rfl rfl (Nat.le_of_ble_eq_true rfl) ⟨Nat.le_of_ble_eq_true rfl, Nat.le_of_ble_eq_true rfl⟩ dX12_wordOf_180 (fun _ => ?_)
          subst h
          exact a_lret (pc := 183) X trivial dX12_wordOf_183
        · have h := x_ifn c_1_3 h
          by_cases c_1_4 : x0 = (4 : Int32)
          · have h := x_ifp c_1_4 h
            refine a_tin (pc := 1) X 184 dX12_wordOf_1 c_1_4 (by decide) (by decide) rfl rfl ?_
            refine a_bipush (pc := 184) X dX12_wordOf_184 q_bp_119 ?_
            refine a_bipush (pc := 186) X dX12_wordOf_186 q_bp_111 ?_
            refine a_bipush (pc := 188) X dX12_wordOf_188 q_bp_114 ?_
            refine a_bipush (pc := 190) X dX12_wordOf_190 q_bp_114 ?_
            refine a_bipush (pc := 192) X dX12_wordOf_192 q_bp_121 ?_
            refine a_iconst (pc := 194) X dX12_wordOf_194 q_ic_0 ?_
            obtain ⟨y6, e_y6, h⟩ := x_lt_elim h
            refine a_callS (pc := 195) (st2 := [.long y6]) (vs2 := []) X [] [] [.int (119 : Int32), .int (111 : Int32), .int (114 : Int32), .int (114 : Int32), .int (121 : Int32), .int (0 : Int32)] [] cv_RX12_58 (c_X12_spelt   e_y6) rfl rfl rfl rfl rfl rfl rfl rfl rfl rfl rfl (Nat.le_of_ble_eq_true rfl) ⟨Nat.le_of_ble_eq_true rfl, Nat.le_of_ble_eq_true rfl⟩ dX12_wordOf_195 (fun _ => ?_)
            subst h
            exact a_lret (pc := 198) X trivial dX12_wordOf_198
          · have h := x_ifn c_1_4 h
            by_cases c_1_5 : x0 = (5 : Int32)
            · have h := x_ifp c_1_5 h
              refine a_tin (pc := 1) X 199 dX12_wordOf_1 c_1_5 (by decide) (by decide) rfl rfl ?_
              refine a_bipush (pc := 199) X dX12_wordOf_199 q_bp_102 ?_
              refine a_bipush (pc := 201) X dX12_wordOf_201 q_bp_114 ?_
              refine a_bipush (pc := 203) X dX12_wordOf_203 q_bp_111 ?_
              refine a_bipush (pc := 205) X dX12_wordOf_205 q_bp_119 ?_
              refine a_bipush (pc := 207) X dX12_wordOf_207 q_bp_110 ?_
              refine a_iconst (pc := 209) X dX12_wordOf_209 q_ic_0 ?_
              obtain ⟨y7, e_y7, h⟩ := x_lt_elim h
              refine a_callS (pc := 210) (st2 := [.long y7]) (vs2 := []) X [] [] [.int (102 : Int32), .int (114 : Int32), .int (111 : Int32), .int (119 : Int32), .int (110 : Int32), .int (0 : Int32)] [] cv_RX12_58 (c_X12_spelt   e_y7) rfl rfl rfl rfl rfl rfl rfl rfl rfl rfl rfl (Nat.le_of_ble_eq_true rfl) ⟨Nat.le_of_ble_eq_true rfl, Nat.le_of_ble_eq_true rfl⟩ dX12_wordOf_210 (fun _ => ?_)
              subst h
              exact a_lret (pc := 213) X trivial dX12_wordOf_213
            · have h := x_ifn c_1_5 h
              by_cases c_1_6 : x0 = (6 : Int32)
              · have h := x_ifp c_1_6 h
                refine a_tin (pc := 1) X 214 dX12_wordOf_1 c_1_6 (by decide) (by decide) rfl rfl ?_
                refine a_bipush (pc := 214) X dX12_wordOf_214 q_bp_116 ?_
                refine a_bipush (pc := 216) X dX12_wordOf_216 q_bp_104 ?_
                refine a_bipush (pc := 218) X dX12_wordOf_218 q_bp_105 ?_
                refine a_bipush (pc := 220) X dX12_wordOf_220 q_bp_110 ?_
                refine a_bipush (pc := 222) X dX12_wordOf_222 q_bp_103 ?_
                refine a_iconst (pc := 224) X dX12_wordOf_224 q_ic_0 ?_
                obtain ⟨y8, e_y8, h⟩ := x_lt_elim h
                refine a_callS (pc := 225) (st2 := [.long y8]) (vs2 := []) X [] [] [.int (116 : Int32), .int (104 : Int32), .int (105 : Int32), .int (110 : Int32), .int (103 : Int32), .int (0 : Int32)] [] cv_RX12_58 (c_X12_spelt   e_y8) rfl rfl rfl rfl rfl rfl rfl rfl rfl rfl rfl (Nat.le_of_ble_eq_true rfl) ⟨Nat.le_of_ble_eq_true rfl, Nat.le_of_ble_eq_true rfl⟩ dX12_wordOf_225 (fun _ => ?_)
                subst h
                exact a_lret (pc := 228) X trivial dX12_wordOf_228
              · have h := x_ifn c_1_6 h
                by_cases c_1_7 : x0 = (7 : Int32)
                · have h := x_ifp c_1_7 h
                  refine a_tin (pc := 1) X 229 dX12_wordOf_1 c_1_7 (by decide) (by decide) rfl rfl ?_
                  refine a_bipush (pc := 229) X dX12_wordOf_229 q_bp_119 ?_
                  refine a_bipush (pc := 231) X dX12_wordOf_231 q_bp_97 ?_
                  refine a_bipush (pc := 233) X dX12_wordOf_233 q_bp_108 ?_
                  refine a_bipush (pc := 235) X dX12_wordOf_235 q_bp_107 ?_
                  refine a_bipush (pc := 237) X dX12_wordOf_237 q_bp_101 ?_
                  refine a_bipush (pc := 239) X dX12_wordOf_239 q_bp_114 ?_
                  obtain ⟨y9, e_y9, h⟩ := x_lt_elim h
                  refine a_callS (pc := 241) (st2 := [.long y9]) (vs2 := []) X [] [] [.int (119 : Int32), .int (97 : Int32), .int (108 : Int32), .int (107 : Int32), .int (101 : Int32), .int (114 : Int32)] [] cv_RX12_58 (c_X12_spelt   e_y9) rfl rfl rfl rfl rfl rfl rfl rfl rfl rfl rfl (Nat.le_of_ble_eq_true rfl) ⟨Nat.le_of_ble_eq_true rfl, Nat.le_of_ble_eq_true rfl⟩ dX12_wordOf_241 (fun _ => ?_)
                  subst h
                  exact a_lret (pc := 244) X trivial dX12_wordOf_244
                · have h := x_ifn c_1_7 h
                  by_cases c_1_8 : x0 = (8 : Int32)
                  · have h := x_ifp c_1_8 h
                    refine a_tin (pc := 1) X 245 dX12_wordOf_1 c_1_8 (by decide) (by decide) rfl rfl ?_
                    refine a_bipush (pc := 245) X dX12_wordOf_245 q_bp_98 ?_
                    refine a_bipush (pc := 247) X dX12_wordOf_247 q_bp_114 ?_
                    refine a_bipush (pc := 249) X dX12_wordOf_249 q_bp_101 ?_
                    refine a_bipush (pc := 251) X dX12_wordOf_251 q_bp_97 ?_
                    refine a_bipush (pc := 253) X dX12_wordOf_253 q_bp_116 ?_
                    refine a_bipush (pc := 255) X dX12_wordOf_255 q_bp_104 ?_
                    obtain ⟨y10, e_y10, h⟩ := x_lt_elim h
                    refine a_callS (pc := 257) (st2 := [.long y10]) (vs2 := []) X [] [] [.int (98 : Int32), .int (114 : Int32), .int (101 : Int32), .int (97 : Int32), .int (116 : Int32), .int (104 : Int32)] [] cv_RX12_58 (c_X12_spelt   e_y10) rfl rfl rfl rfl rfl rfl rfl rfl rfl rfl rfl (Nat.le_of_ble_eq_true rfl) ⟨Nat.le_of_ble_eq_true rfl, Nat.le_of_ble_eq_true rfl⟩ dX12_wordOf_257 (fun _ => ?_)
                    subst h
                    exact a_lret (pc := 260) X trivial dX12_wordOf_260
                  · have h := x_ifn c_1_8 h
                    by_cases c_1_9 : x0 = (9 : Int32)
                    · have h := x_ifp c_1_9 h
                      refine a_tin (pc := 1) X 261 dX12_wordOf_1 c_1_9 (by decide) (by decide) rfl rfl ?_
                      refine a_bipush (pc := 261) X dX12_wordOf_261 q_bp_103 ?_
                      refine a_bipush (pc := 263) X dX12_wordOf_263 q_bp_111 ?_
                      refine a_bipush (pc := 265) X dX12_wordOf_265 q_bp_101 ?_
                      refine a_bipush (pc := 267) X dX12_wordOf_267 q_bp_115 ?_
                      refine a_iconst (pc := 269) X dX12_wordOf_269 q_ic_0 ?_
                      refine a_iconst (pc := 270) X dX12_wordOf_270 q_ic_0 ?_
                      obtain ⟨y11, e_y11, h⟩ := x_lt_elim h
                      refine a_callS (pc := 271) (st2 := [.long y11]) (vs2 := []) X [] [] [.int (103 : Int32), .int (111 : Int32), .int (101 : Int32), .int (115 : Int32), .int (0 : Int32), .int (0 : Int32)] [] cv_RX12_58 (c_X12_spelt   e_y11) rfl rfl rfl rfl rfl rfl rfl rfl rfl rfl rfl (Nat.le_of_ble_eq_true rfl) ⟨Nat.le_of_ble_eq_true rfl, Nat.le_of_ble_eq_true rfl⟩ dX12_wordOf_271 (fun _ => ?_)
                      subst h
                      exact a_lret (pc := 274) X trivial dX12_wordOf_274
                    · have h := x_ifn c_1_9 h
                      by_cases c_1_10 : x0 = (10 : Int32)
                      · have h := x_ifp c_1_10 h
                        refine a_tin (pc := 1) X 275 dX12_wordOf_1 c_1_10 (by decide) (by decide) rfl rfl ?_
                        refine a_bipush (pc := 275) X dX12_wordOf_275 q_bp_108 ?_
                        refine a_bipush (pc := 277) X dX12_wordOf_277 q_bp_101 ?_
                        refine a_bipush (pc := 279) X dX12_wordOf_279 q_bp_97 ?_
                        refine a_bipush (pc := 281) X dX12_wordOf_281 q_bp_114 ?_
                        refine a_bipush (pc := 283) X dX12_wordOf_283 q_bp_110 ?_
                        refine a_bipush (pc := 285) X dX12_wordOf_285 q_bp_115 ?_
                        obtain ⟨y12, e_y12, h⟩ := x_lt_elim h
                        refine a_callS (pc := 287) (st2 := [.long y12]) (vs2 := []) X [] [] [.int (108 : Int32), .int (101 : Int32), .int (97 : Int32), .int (114 : Int32), .int (110 : Int32), .int (115 : Int32)] [] cv_RX12_58 (c_X12_spelt   e_y12) rfl rfl rfl rfl rfl rfl rfl rfl rfl rfl rfl (Nat.le_of_ble_eq_true rfl) ⟨Nat.le_of_ble_eq_true rfl, Nat.le_of_ble_eq_true rfl⟩ dX12_wordOf_287 (fun _ => ?_)
                        subst h
                        exact a_lret (pc := 290) X trivial dX12_wordOf_290
                      · have h := x_ifn c_1_10 h
                        by_cases c_1_11 : x0 = (11 : Int32)
                        · have h := x_ifp c_1_11 h
                          refine a_tin (pc := 1) X 291 dX12_wordOf_1 c_1_11 (by decide) (by decide) rfl rfl ?_
                          refine a_bipush (pc := 291) X dX12_wordOf_291 q_bp_116 ?_
                          refine a_bipush (pc := 293) X dX12_wordOf_293 q_bp_101 ?_
                          refine a_bipush (pc := 295) X dX12_wordOf_295 q_bp_108 ?_
                          refine a_bipush (pc := 297) X dX12_wordOf_297 q_bp_108 ?_
                          refine a_bipush (pc := 299) X dX12_wordOf_299 q_bp_115 ?_
                          refine a_iconst (pc := 301) X dX12_wordOf_301 q_ic_0 ?_
                          obtain ⟨y13, e_y13, h⟩ := x_lt_elim h
                          refine a_callS (pc := 302) (st2 := [.long y13]) (vs2 := []) X [] [] [.int (116 : Int32), .int (101 : Int32), .int (108 : Int32), .int (108 : Int32), .int (115 : Int32), .int (0 : Int32)] [] cv_RX12_58 (c_X12_spelt   e_y13) rfl rfl rfl rfl rfl rfl rfl rfl rfl rfl rfl (Nat.le_of_ble_eq_true rfl) ⟨Nat.le_of_ble_eq_true rfl, Nat.le_of_ble_eq_true rfl⟩ dX12_wordOf_302 (fun _ => ?_)
                          subst h
                          exact a_lret (pc := 305) X trivial dX12_wordOf_305
                        · have h := x_ifn c_1_11 h
                          by_cases c_1_12 : x0 = (12 : Int32)
                          · have h := x_ifp c_1_12 h
                            refine a_tin (pc := 1) X 306 dX12_wordOf_1 c_1_12 (by decide) (by decide) rfl rfl ?_
                            refine a_bipush (pc := 306) X dX12_wordOf_306 q_bp_114 ?_
                            refine a_bipush (pc := 308) X dX12_wordOf_308 q_bp_101 ?_
                            refine a_bipush (pc := 310) X dX12_wordOf_310 q_bp_115 ?_
                            refine a_bipush (pc := 312) X dX12_wordOf_312 q_bp_116 ?_
                            refine a_bipush (pc := 314) X dX12_wordOf_314 q_bp_115 ?_
                            refine a_iconst (pc := 316) X dX12_wordOf_316 q_ic_0 ?_
                            obtain ⟨y14, e_y14, h⟩ := x_lt_elim h
                            refine a_callS (pc := 317) (st2 := [.long y14]) (vs2 := []) X [] [] [.int (114 : Int32), .int (101 : Int32), .int (115 : Int32), .int (116 : Int32), .int (115 : Int32), .int (0 : Int32)] [] cv_RX12_58 (c_X12_spelt   e_y14) rfl rfl rfl rfl rfl rfl rfl rfl rfl rfl rfl (Nat.le_of_ble_eq_true rfl) ⟨Nat.le_of_ble_eq_true rfl, Nat.le_of_ble_eq_true rfl⟩ dX12_wordOf_317 (fun _ => ?_)
                            subst h
                            exact a_lret (pc := 320) X trivial dX12_wordOf_320
                          · have h := x_ifn c_1_12 h
                            by_cases c_1_13 : x0 = (13 : Int32)
                            · have h := x_ifp c_1_13 h
                              refine a_tin (pc := 1) X 321 dX12_wordOf_1 c_1_13 (by decide) (by decide) rfl rfl ?_
                              refine a_bipush (pc := 321) X dX12_wordOf_321 q_bp_99 ?_
                              refine a_bipush (pc := 323) X dX12_wordOf_323 q_bp_114 ?_
                              refine a_bipush (pc := 325) X dX12_wordOf_325 q_bp_101 ?_
                              refine a_bipush (pc := 327) X dX12_wordOf_327 q_bp_97 ?_
                              refine a_bipush (pc := 329) X dX12_wordOf_329 q_bp_109 ?_
                              refine a_iconst (pc := 331) X dX12_wordOf_331 q_ic_0 ?_
                              obtain ⟨y15, e_y15, h⟩ := x_lt_elim h
                              refine a_callS (pc := 332) (st2 := [.long y15]) (vs2 := []) X [] [] [.int (99 : Int32), .int (114 : Int32), .int (101 : Int32), .int (97 : Int32), .int (109 : Int32), .int (0 : Int32)] [] cv_RX12_58 (c_X12_spelt   e_y15) rfl rfl rfl rfl rfl rfl rfl rfl rfl rfl rfl (Nat.le_of_ble_eq_true rfl) ⟨Nat.le_of_ble_eq_true rfl, Nat.le_of_ble_eq_true rfl⟩ dX12_wordOf_332 (fun _ => ?_)
                              subst h
                              exact a_lret (pc := 335) X trivial dX12_wordOf_335
                            · have h := x_ifn c_1_13 h
                              by_cases c_1_14 : x0 = (14 : Int32)
                              · have h := x_ifp c_1_14 h
                                refine a_tin (pc := 1) X 336 dX12_wordOf_1 c_1_14 (by decide) (by decide) rfl rfl ?_
                                refine a_bipush (pc := 336) X dX12_wordOf_336 q_bp_115 ?_
                                refine a_bipush (pc := 338) X dX12_wordOf_338 q_bp_108 ?_
                                refine a_bipush (pc := 340) X dX12_wordOf_340 q_bp_105 ?_
                                refine a_bipush (pc := 342) X dX12_wordOf_342 q_bp_112 ?_
                                refine a_iconst (pc := 344) X dX12_wordOf_344 q_ic_0 ?_
                                refine a_iconst (pc := 345) X dX12_wordOf_345 q_ic_0 ?_
                                obtain ⟨y16, e_y16, h⟩ := x_lt_elim h
                                refine a_callS (pc := 346) (st2 := [.long y16]) (vs2 := []) X [] [] [.int (115 : Int32), .int (108 : Int32), .int (105 : Int32), .int (112 : Int32), .int (0 : Int32), .int (0 : Int32)] [] cv_RX12_58 (c_X12_spelt   e_y16) rfl rfl rfl rfl rfl rfl rfl rfl rfl rfl rfl (Nat.le_of_ble_eq_true rfl) ⟨Nat.le_of_ble_eq_true rfl, Nat.le_of_ble_eq_true rfl⟩ dX12_wordOf_346 (fun _ => ?_)
                                subst h
                                exact a_lret (pc := 349) X trivial dX12_wordOf_349
                              · have h := x_ifn c_1_14 h
                                by_cases c_1_15 : x0 = (15 : Int32)
                                · have h := x_ifp c_1_15 h
                                  refine a_tin (pc := 1) X 350 dX12_wordOf_1 c_1_15 (by decide) (by decide) rfl rfl ?_
                                  refine a_bipush (pc := 350) X dX12_wordOf_350 q_bp_109 ?_
                                  refine a_bipush (pc := 352) X dX12_wordOf_352 q_bp_111 ?_
                                  refine a_bipush (pc := 354) X dX12_wordOf_354 q_bp_111 ?_
                                  refine a_bipush (pc := 356) X dX12_wordOf_356 q_bp_100 ?_
                                  refine a_iconst (pc := 358) X dX12_wordOf_358 q_ic_0 ?_
                                  refine a_iconst (pc := 359) X dX12_wordOf_359 q_ic_0 ?_
                                  obtain ⟨y17, e_y17, h⟩ := x_lt_elim h
                                  refine a_callS (pc := 360) (st2 := [.long y17]) (vs2 := []) X [] [] [.int (109 : Int32), .int (111 : Int32), .int (111 : Int32), .int (100 : Int32), .int (0 : Int32), .int (0 : Int32)] [] cv_RX12_58 (c_X12_spelt   e_y17) rfl rfl rfl rfl rfl rfl rfl rfl rfl rfl rfl (Nat.le_of_ble_eq_true rfl) ⟨Nat.le_of_ble_eq_true rfl, Nat.le_of_ble_eq_true rfl⟩ dX12_wordOf_360 (fun _ => ?_)
                                  subst h
                                  exact a_lret (pc := 363) X trivial dX12_wordOf_363
                                · have h := x_ifn c_1_15 h
                                  by_cases c_1_16 : x0 = (16 : Int32)
                                  · have h := x_ifp c_1_16 h
                                    refine a_tin (pc := 1) X 364 dX12_wordOf_1 c_1_16 (by decide) (by decide) rfl rfl ?_
                                    refine a_bipush (pc := 364) X dX12_wordOf_364 q_bp_104 ?_
                                    refine a_bipush (pc := 366) X dX12_wordOf_366 q_bp_111 ?_
                                    refine a_bipush (pc := 368) X dX12_wordOf_368 q_bp_117 ?_
                                    refine a_bipush (pc := 370) X dX12_wordOf_370 q_bp_114 ?_
                                    refine a_iconst (pc := 372) X dX12_wordOf_372 q_ic_0 ?_
                                    refine a_iconst (pc := 373) X dX12_wordOf_373 q_ic_0 ?_
                                    obtain ⟨y18, e_y18, h⟩ := x_lt_elim h
                                    refine a_callS (pc := 374) (st2 := [.long y18]) (vs2 := []) X [] [] [.int (104 : Int32), .int (111 : Int32), .int (117 : Int32), .int (114 : Int32), .int (0 : Int32), .int (0 : Int32)] [] cv_RX12_58 (c_X12_spelt   e_y18) rfl rfl rfl rfl rfl rfl rfl rfl rfl rfl rfl (Nat.le_of_ble_eq_true rfl) ⟨Nat.le_of_ble_eq_true rfl, Nat.le_of_ble_eq_true rfl⟩ dX12_wordOf_374 (fun _ => ?_)
                                    subst h
                                    exact a_lret (pc := 377) X trivial dX12_wordOf_377
                                  · have h := x_ifn c_1_16 h
                                    by_cases c_1_17 : x0 = (17 : Int32)
                                    · have h := x_ifp c_1_17 h
                                      refine a_tin (pc := 1) X 378 dX12_wordOf_1 c_1_17 (by decide) (by decide) rfl rfl ?_
                                      refine a_bipush (pc := 378) X dX12_wordOf_378 q_bp_111 ?_
                                      refine a_bipush (pc := 380) X dX12_wordOf_380 q_bp_114 ?_
                                      refine a_iconst (pc := 382) X dX12_wordOf_382 q_ic_0 ?_
                                      refine a_iconst (pc := 383) X dX12_wordOf_383 q_ic_0 ?_
                                      refine a_iconst (pc := 384) X dX12_wordOf_384 q_ic_0 ?_
                                      refine a_iconst (pc := 385) X dX12_wordOf_385 q_ic_0 ?_
                                      obtain ⟨y19, e_y19, h⟩ := x_lt_elim h
                                      refine a_callS (pc := 386) (st2 := [.long y19]) (vs2 := []) X [] [] [.int (111 : Int32), .int (114 : Int32), .int (0 : Int32), .int (0 : Int32), .int (0 : Int32), .int (0 : Int32)] [] cv_RX12_58 (c_X12_spelt   e_y19) rfl rfl rfl rfl rfl rfl rfl rfl rfl rfl rfl (Nat.le_of_ble_eq_true rfl) ⟨Nat.le_of_ble_eq_true rfl, Nat.le_of_ble_eq_true rfl⟩ dX12_wordOf_386 (fun _ => ?_)
                                      subst h
                                      exact a_lret (pc := 389) X trivial dX12_wordOf_389
                                    · have h := x_ifn c_1_17 h
                                      by_cases c_1_18 : x0 = (18 : Int32)
                                      · have h := x_ifp c_1_18 h
                                        refine a_tin (pc := 1) X 390 dX12_wordOf_1 c_1_18 (by decide) (by decide) rfl rfl ?_
                                        refine a_bipush (pc := 390) X dX12_wordOf_390 q_bp_97 ?_
                                        refine a_bipush (pc := 392) X dX12_wordOf_392 q_bp_110 ?_
                                        refine a_bipush (pc := 394) X dX12_wordOf_394 q_bp_100 ?_
                                        refine a_iconst (pc := 396) X dX12_wordOf_396 q_ic_0 ?_
                                        refine a_iconst (pc := 397) X dX12_wordOf_397 q_ic_0 ?_
                                        refine a_iconst (pc := 398) X dX12_wordOf_398 q_ic_0 ?_
                                        obtain ⟨y20, e_y20, h⟩ := x_lt_elim h
                                        refine a_callS (pc := 399) (st2 := [.long y20]) (vs2 := []) X [] [] [.int (97 : Int32), .int (110 : Int32), .int (100 : Int32), .int (0 : Int32), .int (0 : Int32), .int (0 : Int32)] [] cv_RX12_58 (c_X12_spelt   e_y20) rfl rfl rfl rfl rfl rfl rfl rfl rfl rfl rfl (Nat.le_of_ble_eq_true rfl) ⟨Nat.le_of_ble_eq_true rfl, Nat.le_of_ble_eq_true rfl⟩ dX12_wordOf_399 (fun _ => ?_)
                                        subst h
                                        exact a_lret (pc := 402) X trivial dX12_wordOf_402
                                      · have h := x_ifn c_1_18 h
                                        by_cases c_1_19 : x0 = (19 : Int32)
                                        · have h := x_ifp c_1_19 h
                                          refine a_tin (pc := 1) X 403 dX12_wordOf_1 c_1_19 (by decide) (by decide) rfl rfl ?_
                                          refine a_bipush (pc := 403) X dX12_wordOf_403 q_bp_110 ?_
                                          refine a_bipush (pc := 405) X dX12_wordOf_405 q_bp_111 ?_
                                          refine a_bipush (pc := 407) X dX12_wordOf_407 q_bp_116 ?_
                                          refine a_iconst (pc := 409) X dX12_wordOf_409 q_ic_0 ?_
                                          refine a_iconst (pc := 410) X dX12_wordOf_410 q_ic_0 ?_
                                          refine a_iconst (pc := 411) X dX12_wordOf_411 q_ic_0 ?_
                                          obtain ⟨y21, e_y21, h⟩ := x_lt_elim h
                                          refine a_callS (pc := 412) (st2 := [.long y21]) (vs2 := []) X [] [] [.int (110 : Int32), .int (111 : Int32), .int (116 : Int32), .int (0 : Int32), .int (0 : Int32), .int (0 : Int32)] [] cv_RX12_58 (c_X12_spelt   e_y21) rfl rfl rfl rfl rfl rfl rfl rfl rfl rfl rfl (Nat.le_of_ble_eq_true rfl) ⟨Nat.le_of_ble_eq_true rfl, Nat.le_of_ble_eq_true rfl⟩ dX12_wordOf_412 (fun _ => ?_)
                                          subst h
                                          exact a_lret (pc := 415) X trivial dX12_wordOf_415
                                        · have h := x_ifn c_1_19 h
                                          by_cases c_1_20 : x0 = (20 : Int32)
                                          · have h := x_ifp c_1_20 h
                                            refine a_tin (pc := 1) X 416 dX12_wordOf_1 c_1_20 (by decide) (by decide) rfl rfl ?_
                                            refine a_bipush (pc := 416) X dX12_wordOf_416 q_bp_103 ?_
                                            refine a_bipush (pc := 418) X dX12_wordOf_418 q_bp_111 ?_
                                            refine a_bipush (pc := 420) X dX12_wordOf_420 q_bp_105 ?_
                                            refine a_bipush (pc := 422) X dX12_wordOf_422 q_bp_110 ?_
                                            refine a_bipush (pc := 424) X dX12_wordOf_424 q_bp_103 ?_
                                            refine a_iconst (pc := 426) X dX12_wordOf_426 q_ic_0 ?_
                                            obtain ⟨y22, e_y22, h⟩ := x_lt_elim h
                                            refine a_callS (pc := 427) (st2 := [.long y22]) (vs2 := []) X [] [] [.int (103 : Int32), .int (111 : Int32), .int (105 : Int32), .int (110 : Int32), .int (103 : Int32), .int (0 : Int32)] [] cv_RX12_58 (c_X12_spelt   e_y22) rfl rfl rfl rfl rfl rfl rfl rfl rfl rfl rfl (Nat.le_of_ble_eq_true rfl) ⟨Nat.le_of_ble_eq_true rfl, Nat.le_of_ble_eq_true rfl⟩ dX12_wordOf_427 (fun _ => ?_)
                                            subst h
                                            exact a_lret (pc := 430) X trivial dX12_wordOf_430
                                          · have h := x_ifn c_1_20 h
                                            by_cases c_1_21 : x0 = (21 : Int32)
                                            · have h := x_ifp c_1_21 h
                                              refine a_tin (pc := 1) X 431 dX12_wordOf_1 c_1_21 (by decide) (by decide) rfl rfl ?_
                                              refine a_bipush (pc := 431) X dX12_wordOf_431 q_bp_104 ?_
                                              refine a_bipush (pc := 433) X dX12_wordOf_433 q_bp_111 ?_
                                              refine a_bipush (pc := 435) X dX12_wordOf_435 q_bp_117 ?_
                                              refine a_bipush (pc := 437) X dX12_wordOf_437 q_bp_115 ?_
                                              refine a_bipush (pc := 439) X dX12_wordOf_439 q_bp_101 ?_
                                              refine a_bipush (pc := 441) X dX12_wordOf_441 q_bp_100 ?_
                                              obtain ⟨y23, e_y23, h⟩ := x_lt_elim h
                                              refine a_callS (pc := 443) (st2 := [.long y23]) (vs2 := []) X [] [] [.int (104 : Int32), .int (111 : Int32), .int (117 : Int32), .int (115 : Int32), .int (101 : Int32), .int (100 : Int32)] [] cv_RX12_58 (c_X12_spelt   e_y23) rfl rfl rfl rfl rfl rfl rfl rfl rfl rfl rfl (Nat.le_of_ble_eq_true rfl) ⟨Nat.le_of_ble_eq_true rfl, Nat.le_of_ble_eq_true rfl⟩ dX12_wordOf_443 (fun _ => ?_)
                                              subst h
                                              exact a_lret (pc := 446) X trivial dX12_wordOf_446
                                            · have h := x_ifn c_1_21 h
                                              by_cases c_1_22 : x0 = (22 : Int32)
                                              · have h := x_ifp c_1_22 h
                                                refine a_tin (pc := 1) X 447 dX12_wordOf_1 c_1_22 (by decide) (by decide) rfl rfl ?_
                                                refine a_bipush (pc := 447) X dX12_wordOf_447 q_bp_108 ?_
                                                refine a_bipush (pc := 449) X dX12_wordOf_449 q_bp_111 ?_
                                                refine a_bipush (pc := 451) X dX12_wordOf_451 q_bp_115 ?_
                                                refine a_bipush (pc := 453) X dX12_wordOf_453 q_bp_116 ?_
                                                refine a_iconst (pc := 455) X dX12_wordOf_455 q_ic_0 ?_
                                                refine a_iconst (pc := 456) X dX12_wordOf_456 q_ic_0 ?_
                                                obtain ⟨y24, e_y24, h⟩ := x_lt_elim h
                                                refine a_callS (pc := 457) (st2 := [.long y24]) (vs2 := []) X [] [] [.int (108 : Int32), .int (111 : Int32), .int (115 : Int32), .int (116 : Int32), .int (0 : Int32), .int (0 : Int32)] [] cv_RX12_58 (c_X12_spelt   e_y24) rfl rfl rfl rfl rfl rfl rfl rfl rfl rfl rfl (Nat.le_of_ble_eq_true rfl) ⟨Nat.le_of_ble_eq_true rfl, Nat.le_of_ble_eq_true rfl⟩ dX12_wordOf_457 (fun _ => ?_)
                                                subst h
                                                exact a_lret (pc := 460) X trivial dX12_wordOf_460
                                              · have h := x_ifn c_1_22 h
                                                by_cases c_1_23 : x0 = (23 : Int32)
                                                · have h := x_ifp c_1_23 h
                                                  refine a_tin (pc := 1) X 461 dX12_wordOf_1 c_1_23 (by decide) (by decide) rfl rfl ?_
                                                  refine a_bipush (pc := 461) X dX12_wordOf_461 q_bp_97 ?_
                                                  refine a_bipush (pc := 463) X dX12_wordOf_463 q_bp_116 ?_
                                                  refine a_iconst (pc := 465) X dX12_wordOf_465 q_ic_0 ?_
                                                  refine a_iconst (pc := 466) X dX12_wordOf_466 q_ic_0 ?_
                                                  refine a_iconst (pc := 467) X dX12_wordOf_467 q_ic_0 ?_
                                                  refine a_iconst (pc := 468) X dX12_wordOf_468 q_ic_0 ?_
                                                  obtain ⟨y25, e_y25, h⟩ := x_lt_elim h
                                                  refine a_callS (pc := 469) (st2 := [.long y25]) (vs2 := []) X [] [] [.int (97 : Int32), .int (116 : Int32), .int (0 : Int32), .int (0 : Int32), .int (0 : Int32), .int (0 : Int32)] [] cv_RX12_58 (c_X12_spelt   e_y25) rfl rfl rfl rfl rfl rfl rfl rfl rfl rfl rfl (Nat.le_of_ble_eq_true rfl) ⟨Nat.le_of_ble_eq_true rfl, Nat.le_of_ble_eq_true rfl⟩ dX12_wordOf_469 (fun _ => ?_)
                                                  subst h
                                                  exact a_lret (pc := 472) X trivial dX12_wordOf_472
                                                · have h := x_ifn c_1_23 h
                                                  by_cases c_1_24 : x0 = (24 : Int32)
                                                  · have h := x_ifp c_1_24 h
                                                    refine a_tin (pc := 1) X 473 dX12_wordOf_1 c_1_24 (by decide) (by decide) rfl rfl ?_
                                                    refine a_bipush (pc := 473) X dX12_wordOf_473 q_bp_107 ?_
                                                    refine a_bipush (pc := 475) X dX12_wordOf_475 q_bp_110 ?_
                                                    refine a_bipush (pc := 477) X dX12_wordOf_477 q_bp_111 ?_
                                                    refine a_bipush (pc := 479) X dX12_wordOf_479 q_bp_119 ?_
                                                    refine a_bipush (pc := 481) X dX12_wordOf_481 q_bp_115 ?_
                                                    refine a_iconst (pc := 483) X dX12_wordOf_483 q_ic_0 ?_
                                                    obtain ⟨y26, e_y26, h⟩ := x_lt_elim h
                                                    refine a_callS (pc := 484) (st2 := [.long y26]) (vs2 := []) X [] [] [.int (107 : Int32), .int (110 : Int32), .int (111 : Int32), .int (119 : Int32), .int (115 : Int32), .int (0 : Int32)] [] cv_RX12_58 (c_X12_spelt   e_y26) rfl rfl rfl rfl rfl rfl rfl rfl rfl rfl rfl (Nat.le_of_ble_eq_true rfl) ⟨Nat.le_of_ble_eq_true rfl, Nat.le_of_ble_eq_true rfl⟩ dX12_wordOf_484 (fun _ => ?_)
                                                    subst h
                                                    exact a_lret (pc := 487) X trivial dX12_wordOf_487
                                                  · have h := x_ifn c_1_24 h
                                                    by_cases c_1_25 : x0 = (25 : Int32)
                                                    · have h := x_ifp c_1_25 h
                                                      refine a_tin (pc := 1) X 488 dX12_wordOf_1 c_1_25 (by decide) (by decide) rfl rfl ?_
                                                      refine a_bipush (pc := 488) X dX12_wordOf_488 q_bp_108 ?_
                                                      refine a_bipush (pc := 490) X dX12_wordOf_490 q_bp_101 ?_
                                                      refine a_bipush (pc := 492) X dX12_wordOf_492 q_bp_102 ?_
                                                      refine a_bipush (pc := 494) X dX12_wordOf_494 q_bp_116 ?_
                                                      refine a_iconst (pc := 496) X dX12_wordOf_496 q_ic_0 ?_
                                                      refine a_iconst (pc := 497) X dX12_wordOf_497 q_ic_0 ?_
                                                      obtain ⟨y27, e_y27, h⟩ := x_lt_elim h
                                                      refine a_callS (pc := 498) (st2 := [.long y27]) (vs2 := []) X [] [] [.int (108 : Int32), .int (101 : Int32), .int (102 : Int32), .int (116 : Int32), .int (0 : Int32), .int (0 : Int32)] [] cv_RX12_58 (c_X12_spelt   e_y27) rfl rfl rfl rfl rfl rfl rfl rfl rfl rfl rfl (Nat.le_of_ble_eq_true rfl) ⟨Nat.le_of_ble_eq_true rfl, Nat.le_of_ble_eq_true rfl⟩ dX12_wordOf_498 (fun _ => ?_)
                                                      subst h
                                                      exact a_lret (pc := 501) X trivial dX12_wordOf_501
                                                    · have h := x_ifn c_1_25 h
                                                      by_cases c_1_26 : x0 = (26 : Int32)
                                                      · have h := x_ifp c_1_26 h
                                                        refine a_tin (pc := 1) X 502 dX12_wordOf_1 c_1_26 (by decide) (by decide) rfl rfl ?_
                                                        refine a_bipush (pc := 502) X dX12_wordOf_502 q_bp_116 ?_
                                                        refine a_bipush (pc := 504) X dX12_wordOf_504 q_bp_105 ?_
                                                        refine a_bipush (pc := 506) X dX12_wordOf_506 q_bp_114 ?_
                                                        refine a_bipush (pc := 508) X dX12_wordOf_508 q_bp_101 ?_
                                                        refine a_bipush (pc := 510) X dX12_wordOf_510 q_bp_100 ?_
                                                        refine a_iconst (pc := 512) X dX12_wordOf_512 q_ic_0 ?_
                                                        obtain ⟨y28, e_y28, h⟩ := x_lt_elim h
                                                        refine a_callS (pc := 513) (st2 := [.long y28]) (vs2 := []) X [] [] [.int (116 : Int32), .int (105 : Int32), .int (114 : Int32), .int (101 : Int32), .int (100 : Int32), .int (0 : Int32)] [] cv_RX12_58 (c_X12_spelt   e_y28) rfl rfl rfl rfl rfl rfl rfl rfl rfl rfl rfl (Nat.le_of_ble_eq_true rfl) ⟨Nat.le_of_ble_eq_true rfl, Nat.le_of_ble_eq_true rfl⟩ dX12_wordOf_513 (fun _ => ?_)
                                                        subst h
                                                        exact a_lret (pc := 516) X trivial dX12_wordOf_516
                                                      · have h := x_ifn c_1_26 h
                                                        by_cases c_1_27 : x0 = (27 : Int32)
                                                        · have h := x_ifp c_1_27 h
                                                          refine a_tin (pc := 1) X 517 dX12_wordOf_1 c_1_27 (by decide) (by decide) rfl rfl ?_
                                                          refine a_bipush (pc := 517) X dX12_wordOf_517 q_bp_112 ?_
                                                          refine a_bipush (pc := 519) X dX12_wordOf_519 q_bp_97 ?_
                                                          refine a_bipush (pc := 521) X dX12_wordOf_521 q_bp_99 ?_
                                                          refine a_bipush (pc := 523) X dX12_wordOf_523 q_bp_101 ?_
                                                          refine a_iconst (pc := 525) X dX12_wordOf_525 q_ic_0 ?_
                                                          refine a_iconst (pc := 526) X dX12_wordOf_526 q_ic_0 ?_
                                                          obtain ⟨y29, e_y29, h⟩ := x_lt_elim h
                                                          refine a_callS (pc := 527) (st2 := [.long y29]) (vs2 := []) X [] [] [.int (112 : Int32), .int (97 : Int32), .int (99 : Int32), .int (101 : Int32), .int (0 : Int32), .int (0 : Int32)] [] cv_RX12_58 (c_X12_spelt   e_y29) rfl rfl rfl rfl rfl rfl rfl rfl rfl rfl rfl (Nat.le_of_ble_eq_true rfl) ⟨Nat.le_of_ble_eq_true rfl, Nat.le_of_ble_eq_true rfl⟩ dX12_wordOf_527 (fun _ => ?_)
                                                          subst h
                                                          exact a_lret (pc := 530) X trivial dX12_wordOf_530
                                                        · have h := x_ifn c_1_27 h
                                                          refine a_tout (pc := 1) X 531 dX12_wordOf_1 (by have q0 := x_ne c_1_0; have q1 := x_ne c_1_1; have q2 := x_ne c_1_2; have q3 := x_ne c_1_3; have q4 := x_ne c_1_4; have q5 := x_ne c_1_5; have q6 := x_ne c_1_6; have q7 := x_ne c_1_7; have q8 := x_ne c_1_8; have q9 := x_ne c_1_9; have q10 := x_ne c_1_10; have q11 := x_ne c_1_11; have q12 := x_ne c_1_12; have q13 := x_ne c_1_13; have q14 := x_ne c_1_14; have q15 := x_ne c_1_15; have q16 := x_ne c_1_16; have q17 := x_ne c_1_17; have q18 := x_ne c_1_18; have q19 := x_ne c_1_19; have q20 := x_ne c_1_20; have q21 := x_ne c_1_21; have q22 := x_ne c_1_22; have q23 := x_ne c_1_23; have q24 := x_ne c_1_24; have q25 := x_ne c_1_25; have q26 := x_ne c_1_26; have q27 := x_ne c_1_27; have q0 : (x0 : Int32).toInt ≠ 0 := q0; have q1 : (x0 : Int32).toInt ≠ 1 := q1; have q2 : (x0 : Int32).toInt ≠ 2 := q2; have q3 : (x0 : Int32).toInt ≠ 3 := q3; have q4 : (x0 : Int32).toInt ≠ 4 := q4; have q5 : (x0 : Int32).toInt ≠ 5 := q5; have q6 : (x0 : Int32).toInt ≠ 6 := q6; have q7 : (x0 : Int32).toInt ≠ 7 := q7; have q8 : (x0 : Int32).toInt ≠ 8 := q8; have q9 : (x0 : Int32).toInt ≠ 9 := q9; have q10 : (x0 : Int32).toInt ≠ 10 := q10; have q11 : (x0 : Int32).toInt ≠ 11 := q11; have q12 : (x0 : Int32).toInt ≠ 12 := q12; have q13 : (x0 : Int32).toInt ≠ 13 := q13; have q14 : (x0 : Int32).toInt ≠ 14 := q14; have q15 : (x0 : Int32).toInt ≠ 15 := q15; have q16 : (x0 : Int32).toInt ≠ 16 := q16; have q17 : (x0 : Int32).toInt ≠ 17 := q17; have q18 : (x0 : Int32).toInt ≠ 18 := q18; have q19 : (x0 : Int32).toInt ≠ 19 := q19; have q20 : (x0 : Int32).toInt ≠ 20 := q20; have q21 : (x0 : Int32).toInt ≠ 21 := q21; have q22 : (x0 : Int32).toInt ≠ 22 := q22; have q23 : (x0 : Int32).toInt ≠ 23 := q23; have q24 : (x0 : Int32).toInt ≠ 24 := q24; have q25 : (x0 : Int32).toInt ≠ 25 := q25; have q26 : (x0 : Int32).toInt ≠ 26 := q26; have q27 : (x0 : Int32).toInt ≠ 27 := q27; omega) rfl ?_
                                                          refine a_bipush (pc := 531) X dX12_wordOf_531 q_bp_110 ?_
                                                          refine a_bipush (pc := 533) X dX12_wordOf_533 q_bp_117 ?_
                                                          refine a_bipush (pc := 535) X dX12_wordOf_535 q_bp_109 ?_
                                                          refine a_bipush (pc := 537) X dX12_wordOf_537 q_bp_98 ?_
                                                          refine a_bipush (pc := 539) X dX12_wordOf_539 q_bp_101 ?_
                                                          refine a_bipush (pc := 541) X dX12_wordOf_541 q_bp_114 ?_
                                                          obtain ⟨y30, e_y30, h⟩ := x_lt_elim h
                                                          refine a_callS (pc := 543) (st2 := [.long y30]) (vs2 := []) X [] [] [.int (110 : Int32), .int (117 : Int32), .int (109 : Int32), .int (98 : Int32), .int (101 : Int32), .int (114 : Int32)] [] cv_RX12_58 (c_X12_spelt   e_y30) rfl rfl rfl rfl rfl rfl rfl rfl rfl rfl rfl (Nat.le_of_ble_eq_true rfl) ⟨Nat.le_of_ble_eq_true rfl, Nat.le_of_ble_eq_true rfl⟩ dX12_wordOf_543 (fun _ => ?_)
                                                          subst h
                                                          exact a_lret (pc := 546) X trivial dX12_wordOf_546
theorem dX12_isWord_0 : decode cX12_isWord 0 = .ok (.aload_n 0, 1) := by decide +kernel
theorem dX12_isWord_1 : decode cX12_isWord 1 = .ok (.getfield 30, 3) := by decide +kernel
theorem dX12_isWord_4 : decode cX12_isWord 4 = .ok (.iconst 2, 1) := by decide +kernel
theorem dX12_isWord_5 : decode cX12_isWord 5 = .ok (.if_icmp .ne 19, 3) := by decide +kernel
theorem dX12_isWord_8 : decode cX12_isWord 8 = .ok (.aload_n 0, 1) := by decide +kernel
theorem dX12_isWord_9 : decode cX12_isWord 9 = .ok (.getfield 43, 3) := by decide +kernel
theorem dX12_isWord_12 : decode cX12_isWord 12 = .ok (.iload_n 1, 1) := by decide +kernel
theorem dX12_isWord_13 : decode cX12_isWord 13 = .ok (.invokestatic 62, 3) := by decide +kernel
theorem dX12_isWord_16 : decode cX12_isWord 16 = .ok (.lcmp, 1) := by decide +kernel
theorem dX12_isWord_17 : decode cX12_isWord 17 = .ok (.ifCond .ne 7, 3) := by decide +kernel
theorem dX12_isWord_20 : decode cX12_isWord 20 = .ok (.iconst 1, 1) := by decide +kernel
theorem dX12_isWord_21 : decode cX12_isWord 21 = .ok (.goto 4, 3) := by decide +kernel
theorem dX12_isWord_24 : decode cX12_isWord 24 = .ok (.iconst 0, 1) := by decide +kernel
theorem dX12_isWord_25 : decode cX12_isWord 25 = .ok (.ireturn, 1) := by decide +kernel
def f_X12_isWord (v0 : XM) (x0 : Int32) : Int32 :=
  if ((v0.1 0 7) : Int32) = (2 : Int32) then
  (x_lt (f_X12_wordOf x0) (fun y1 =>
  if (lg_cmp (v0.2 0 12) y1) = (0 : Int32) then
  (((1 : Int32) : Int32))
  else (((0 : Int32) : Int32))))
  else (((0 : Int32) : Int32))
set_option maxRecDepth 100000 in
set_option maxHeartbeats 4000000 in
theorem c_X12_isWord {l : Launch}  {ad0 : Nat → Nat} {v0 : XM} {x0 : Int32}  {o : Int32} (h : f_X12_isWord v0 x0 = o) : CT l yX12_isWord cX12_isWord 2 (some .boolean) 2 [(shModel, ad0)] [v0] (fun aK => [.ref (ad0 0), .int x0]) (some (.int o)) (x_Z o) [v0] := by
  refine CT_of (by decide) (fun _ => Nat.le_of_ble_eq_true rfl) ?_
  intro p e s m args below meth c D tc aK aV A X
  have X : Cx p s m args meth c cX12_isWord 2 (some .boolean) RX12 D tc aK aV A [(shModel, ad0)] := X
  show aW p l e (x_Rm 2) s m args below meth c D tc A 2 [(shModel, ad0)] (some (.int o)) (x_Z o) [v0] 0 [(0, .ref (ad0 0)), (1, .int x0)] [] [v0]
  unfold f_X12_isWord at h
  refine a_aload_n (pc := 0) X 0 dX12_isWord_0 rfl rfl ?_
  refine a_getI (pc := 1) X 0 fl_RX12_30 rfl rfl rfl rfl dX12_isWord_1 ?_
  refine a_iconst (pc := 4) X dX12_isWord_4 q_ic_2 ?_
  refine a_icmp_ne (pc := 5) X 24 dX12_isWord_5 rfl (fun c_5 => ?_) (fun c_5 => ?_)
  · have h := x_ifn c_5 h
    refine a_iconst (pc := 24) X dX12_isWord_24 q_ic_0 ?_
    subst h
    exact a_zret (pc := 25) X x_Z0 x_Z0 dX12_isWord_25
  · have h := x_ifp c_5 h
    refine a_aload_n (pc := 8) X 0 dX12_isWord_8 rfl rfl ?_
    refine a_getL (pc := 9) X 0 fl_RX12_43 rfl rfl rfl rfl dX12_isWord_9 ?_
    refine a_iload_n (pc := 12) X 1 dX12_isWord_12 rfl rfl ?_
    obtain ⟨y1, e_y1, h⟩ := x_lt_elim h
    refine a_callS (pc := 13) (st2 := [.long y1, .long (v0.2 0 12)]) (vs2 := [v0]) X [] [] [.int x0] [.long (v0.2 0 12)] cv_RX12_62 (c_X12_wordOf   e_y1) rfl rfl rfl rfl rfl rfl rfl rfl rfl rfl rfl (Nat.le_of_ble_eq_true rfl) ⟨Nat.le_of_ble_eq_true rfl, Nat.le_of_ble_eq_true rfl⟩ dX12_isWord_13 (fun _ => ?_)
    refine a_lcmp (pc := 16) X dX12_isWord_16 ?_
    refine a_if_ne (pc := 17) X 24 dX12_isWord_17 rfl (fun c_17 => ?_) (fun c_17 => ?_)
    · have h := x_ifn c_17 h
      refine a_iconst (pc := 24) X dX12_isWord_24 q_ic_0 ?_
      subst h
      exact a_zret (pc := 25) X x_Z0 x_Z0 dX12_isWord_25
    · have h := x_ifp c_17 h
      refine a_iconst (pc := 20) X dX12_isWord_20 q_ic_1 ?_
      refine a_goto (pc := 21) X 25 dX12_isWord_21 rfl ?_
      subst h
      exact a_zret (pc := 25) X x_Z1 x_Z1 dX12_isWord_25
theorem dX12_isSign_0 : decode cX12_isSign 0 = .ok (.aload_n 0, 1) := by decide +kernel
theorem dX12_isSign_1 : decode cX12_isSign 1 = .ok (.getfield 30, 3) := by decide +kernel
theorem dX12_isSign_4 : decode cX12_isSign 4 = .ok (.iconst 4, 1) := by decide +kernel
theorem dX12_isSign_5 : decode cX12_isSign 5 = .ok (.if_icmp .ne 15, 3) := by decide +kernel
theorem dX12_isSign_8 : decode cX12_isSign 8 = .ok (.aload_n 0, 1) := by decide +kernel
theorem dX12_isSign_9 : decode cX12_isSign 9 = .ok (.getfield 40, 3) := by decide +kernel
theorem dX12_isSign_12 : decode cX12_isSign 12 = .ok (.iload_n 1, 1) := by decide +kernel
theorem dX12_isSign_13 : decode cX12_isSign 13 = .ok (.if_icmp .ne 7, 3) := by decide +kernel
theorem dX12_isSign_16 : decode cX12_isSign 16 = .ok (.iconst 1, 1) := by decide +kernel
theorem dX12_isSign_17 : decode cX12_isSign 17 = .ok (.goto 4, 3) := by decide +kernel
theorem dX12_isSign_20 : decode cX12_isSign 20 = .ok (.iconst 0, 1) := by decide +kernel
theorem dX12_isSign_21 : decode cX12_isSign 21 = .ok (.ireturn, 1) := by decide +kernel
def f_X12_isSign (v0 : XM) (x0 : Int32) : Int32 :=
  if ((v0.1 0 7) : Int32) = (4 : Int32) then
  (if ((v0.1 0 9) : Int32) = x0 then
  (((1 : Int32) : Int32))
  else (((0 : Int32) : Int32)))
  else (((0 : Int32) : Int32))
set_option maxRecDepth 100000 in
set_option maxHeartbeats 4000000 in
theorem c_X12_isSign {l : Launch}  {ad0 : Nat → Nat} {v0 : XM} {x0 : Int32}  {o : Int32} (h : f_X12_isSign v0 x0 = o) : CT l yX12_isSign cX12_isSign 2 (some .boolean) 0 [(shModel, ad0)] [v0] (fun aK => [.ref (ad0 0), .int x0]) (some (.int o)) (x_Z o) [v0] := by
  refine CT_of (by decide) (fun _ => Nat.le_of_ble_eq_true rfl) ?_
  intro p e s m args below meth c D tc aK aV A X
  have X : Cx p s m args meth c cX12_isSign 2 (some .boolean) RX12 D tc aK aV A [(shModel, ad0)] := X
  show aW p l e (x_Rm 0) s m args below meth c D tc A 2 [(shModel, ad0)] (some (.int o)) (x_Z o) [v0] 0 [(0, .ref (ad0 0)), (1, .int x0)] [] [v0]
  unfold f_X12_isSign at h
  refine a_aload_n (pc := 0) X 0 dX12_isSign_0 rfl rfl ?_
  refine a_getI (pc := 1) X 0 fl_RX12_30 rfl rfl rfl rfl dX12_isSign_1 ?_
  refine a_iconst (pc := 4) X dX12_isSign_4 q_ic_4 ?_
  refine a_icmp_ne (pc := 5) X 20 dX12_isSign_5 rfl (fun c_5 => ?_) (fun c_5 => ?_)
  · have h := x_ifn c_5 h
    refine a_iconst (pc := 20) X dX12_isSign_20 q_ic_0 ?_
    subst h
    exact a_zret (pc := 21) X x_Z0 x_Z0 dX12_isSign_21
  · have h := x_ifp c_5 h
    refine a_aload_n (pc := 8) X 0 dX12_isSign_8 rfl rfl ?_
    refine a_getI (pc := 9) X 0 fl_RX12_40 rfl rfl rfl rfl dX12_isSign_9 ?_
    refine a_iload_n (pc := 12) X 1 dX12_isSign_12 rfl rfl ?_
    refine a_icmp_ne (pc := 13) X 20 dX12_isSign_13 rfl (fun c_13 => ?_) (fun c_13 => ?_)
    · have h := x_ifn c_13 h
      refine a_iconst (pc := 20) X dX12_isSign_20 q_ic_0 ?_
      subst h
      exact a_zret (pc := 21) X x_Z0 x_Z0 dX12_isSign_21
    · have h := x_ifp c_13 h
      refine a_iconst (pc := 16) X dX12_isSign_16 q_ic_1 ?_
      refine a_goto (pc := 17) X 21 dX12_isSign_17 rfl ?_
      subst h
      exact a_zret (pc := 21) X x_Z1 x_Z1 dX12_isSign_21
theorem dX12_isName_0 : decode cX12_isName 0 = .ok (.aload_n 0, 1) := by decide +kernel
theorem dX12_isName_1 : decode cX12_isName 1 = .ok (.getfield 30, 3) := by decide +kernel
theorem dX12_isName_4 : decode cX12_isName 4 = .ok (.iconst 2, 1) := by decide +kernel
theorem dX12_isName_5 : decode cX12_isName 5 = .ok (.if_icmp .eq 5, 3) := by decide +kernel
theorem dX12_isName_8 : decode cX12_isName 8 = .ok (.iconst 0, 1) := by decide +kernel
theorem dX12_isName_9 : decode cX12_isName 9 = .ok (.ireturn, 1) := by decide +kernel
theorem dX12_isName_10 : decode cX12_isName 10 = .ok (.iconst 0, 1) := by decide +kernel
theorem dX12_isName_11 : decode cX12_isName 11 = .ok (.istore_n 1, 1) := by decide +kernel
theorem dX12_isName_12 : decode cX12_isName 12 = .ok (.iload_n 1, 1) := by decide +kernel
theorem dX12_isName_13 : decode cX12_isName 13 = .ok (.bipush 28, 2) := by decide +kernel
theorem dX12_isName_15 : decode cX12_isName 15 = .ok (.if_icmp .gt 23, 3) := by decide +kernel
theorem dX12_isName_18 : decode cX12_isName 18 = .ok (.aload_n 0, 1) := by decide +kernel
theorem dX12_isName_19 : decode cX12_isName 19 = .ok (.getfield 43, 3) := by decide +kernel
theorem dX12_isName_22 : decode cX12_isName 22 = .ok (.iload_n 1, 1) := by decide +kernel
theorem dX12_isName_23 : decode cX12_isName 23 = .ok (.invokestatic 62, 3) := by decide +kernel
theorem dX12_isName_26 : decode cX12_isName 26 = .ok (.lcmp, 1) := by decide +kernel
theorem dX12_isName_27 : decode cX12_isName 27 = .ok (.ifCond .ne 5, 3) := by decide +kernel
theorem dX12_isName_30 : decode cX12_isName 30 = .ok (.iconst 0, 1) := by decide +kernel
theorem dX12_isName_31 : decode cX12_isName 31 = .ok (.ireturn, 1) := by decide +kernel
theorem dX12_isName_32 : decode cX12_isName 32 = .ok (.iinc 1 1, 3) := by decide +kernel
theorem dX12_isName_35 : decode cX12_isName 35 = .ok (.goto (-23), 3) := by decide +kernel
theorem dX12_isName_38 : decode cX12_isName 38 = .ok (.iconst 1, 1) := by decide +kernel
theorem dX12_isName_39 : decode cX12_isName 39 = .ok (.ireturn, 1) := by decide +kernel
def f_X12_isName_12 (v0 : XM) (k12 : Int32 → Option (Int32)) (l1 : Int32) : Option (Int32) :=
  if ((28 : Int32) : Int32) < l1 then
  (some ((1 : Int32) : Int32))
  else (x_lt (f_X12_wordOf l1) (fun y1 =>
  if (lg_cmp (v0.2 0 12) y1) = (0 : Int32) then
  (some ((0 : Int32) : Int32))
  else (k12 (l1 + 1))))
def f_X12_isName (v0 : XM) : Option (Int32) :=
  if ((v0.1 0 7) : Int32) = (2 : Int32) then
  (x_lp (φ := Int32 → Option (Int32)) (fun _ => none) (f_X12_isName_12 v0 ) x_NN (0 : Int32))
  else (some ((0 : Int32) : Int32))
set_option maxRecDepth 100000 in
set_option maxHeartbeats 4000000 in
theorem w_X12_isName_12 {p : Program} {l : Launch} {e : Env} {s : State} {m : MethodId} {args : Array Value} {below : List Frame} {meth : Method} {c : Code} {D : va_G} {tc : Nat → ClassId} {aK aV : Nat → Nat} {A : Nat → Prop} {ad0 : Nat → Nat} {v0 : XM} (X : Cx p s m args meth c cX12_isName 2 (some .boolean) RX12 D tc aK aV A [(shModel, ad0)])  {o : Int32}  : ∀ (n : Nat), ∀ (l1 : Int32), x_lp (φ := Int32 → Option (Int32)) (fun _ => none) (f_X12_isName_12 v0 ) n l1 = some o → aW p l e (x_Rm 2) s m args below meth c D tc A 2 [(shModel, ad0)] (some (.int o)) (x_Z o) [v0] 12 [(0, .ref (ad0 0)), (1, .int l1)] [] [v0] := by
  intro n
  induction n with
  | zero => intro l1 h; exact absurd h (fun q => by cases q)
  | succ n ih =>
    intro l1 h
    have h : f_X12_isName_12 v0  (x_lp (φ := Int32 → Option (Int32)) (fun _ => none) (f_X12_isName_12 v0 ) n) l1 = some o := h
    generalize x_lp (φ := Int32 → Option (Int32)) (fun _ => none) (f_X12_isName_12 v0 ) n = k12 at h ih
    have hk12 := ih
    unfold f_X12_isName_12 at h
    refine a_iload_n (pc := 12) X 1 dX12_isName_12 rfl rfl ?_
    refine a_bipush (pc := 13) X dX12_isName_13 q_bp_28 ?_
    refine a_icmp_gt (pc := 15) X 38 dX12_isName_15 rfl (fun c_15 => ?_) (fun c_15 => ?_)
    · have h := x_ifp c_15 h
      refine a_iconst (pc := 38) X dX12_isName_38 q_ic_1 ?_
      have h := Option.some.inj h; subst h
      exact a_zret (pc := 39) X x_Z1 x_Z1 dX12_isName_39
    · have h := x_ifn c_15 h
      refine a_aload_n (pc := 18) X 0 dX12_isName_18 rfl rfl ?_
      refine a_getL (pc := 19) X 0 fl_RX12_43 rfl rfl rfl rfl dX12_isName_19 ?_
      refine a_iload_n (pc := 22) X 1 dX12_isName_22 rfl rfl ?_
      obtain ⟨y1, e_y1, h⟩ := x_lt_elim h
      refine a_callS (pc := 23) (st2 := [.long y1, .long (v0.2 0 12)]) (vs2 := [v0]) X [] [] [.int l1] [.long (v0.2 0 12)] cv_RX12_62 (c_X12_wordOf   e_y1) rfl rfl rfl rfl rfl rfl rfl rfl rfl rfl rfl (Nat.le_of_ble_eq_true rfl) ⟨Nat.le_of_ble_eq_true rfl, Nat.le_of_ble_eq_true rfl⟩ dX12_isName_23 (fun _ => ?_)
      refine a_lcmp (pc := 26) X dX12_isName_26 ?_
      refine a_if_ne (pc := 27) X 32 dX12_isName_27 rfl (fun c_27 => ?_) (fun c_27 => ?_)
      · have h := x_ifn c_27 h
        refine a_iinc (pc := 32) X 1 [(1, .int (l1 + 1)), (0, .ref (ad0 0))] dX12_isName_32 rfl (congrArg (HAdd.hAdd l1) q_ic_1) (by decide) rfl ?_
        refine a_goto (pc := 35) X 12 dX12_isName_35 rfl ?_
        refine a_sub [1, 0] rfl ?_
        exact hk12 _ h
      · have h := x_ifp c_27 h
        refine a_iconst (pc := 30) X dX12_isName_30 q_ic_0 ?_
        have h := Option.some.inj h; subst h
        exact a_zret (pc := 31) X x_Z0 x_Z0 dX12_isName_31
set_option maxRecDepth 100000 in
set_option maxHeartbeats 4000000 in
theorem c_X12_isName {l : Launch}  {ad0 : Nat → Nat} {v0 : XM}   {o : Int32} (h : f_X12_isName v0 = some o) : CT l yX12_isName cX12_isName 2 (some .boolean) 2 [(shModel, ad0)] [v0] (fun aK => [.ref (ad0 0)]) (some (.int o)) (x_Z o) [v0] := by
  refine CT_of (by decide) (fun _ => Nat.le_of_ble_eq_true rfl) ?_
  intro p e s m args below meth c D tc aK aV A X
  have X : Cx p s m args meth c cX12_isName 2 (some .boolean) RX12 D tc aK aV A [(shModel, ad0)] := X
  show aW p l e (x_Rm 2) s m args below meth c D tc A 2 [(shModel, ad0)] (some (.int o)) (x_Z o) [v0] 0 [(0, .ref (ad0 0))] [] [v0]
  unfold f_X12_isName at h
  refine a_aload_n (pc := 0) X 0 dX12_isName_0 rfl rfl ?_
  refine a_getI (pc := 1) X 0 fl_RX12_30 rfl rfl rfl rfl dX12_isName_1 ?_
  refine a_iconst (pc := 4) X dX12_isName_4 q_ic_2 ?_
  refine a_icmp_eq (pc := 5) X 10 dX12_isName_5 rfl (fun c_5 => ?_) (fun c_5 => ?_)
  · have h := x_ifp c_5 h
    refine a_iconst (pc := 10) X dX12_isName_10 q_ic_0 ?_
    refine a_istore_n (pc := 11) X [(1, .int (0 : Int32)), (0, .ref (ad0 0))] dX12_isName_11 rfl (by decide) rfl ?_
    refine a_sub [1, 0] rfl ?_
    exact w_X12_isName_12 X    x_NN _ h
  · have h := x_ifn c_5 h
    refine a_iconst (pc := 8) X dX12_isName_8 q_ic_0 ?_
    have h := Option.some.inj h; subst h
    exact a_zret (pc := 9) X x_Z0 x_Z0 dX12_isName_9
theorem dX12_bad_0 : decode cX12_bad 0 = .ok (.aload_n 0, 1) := by decide +kernel
theorem dX12_bad_1 : decode cX12_bad 1 = .ok (.aload_n 0, 1) := by decide +kernel
theorem dX12_bad_2 : decode cX12_bad 2 = .ok (.getfield 30, 3) := by decide +kernel
theorem dX12_bad_5 : decode cX12_bad 5 = .ok (.iconst 1, 1) := by decide +kernel
theorem dX12_bad_6 : decode cX12_bad 6 = .ok (.if_icmp .ne 7, 3) := by decide +kernel
theorem dX12_bad_9 : decode cX12_bad 9 = .ok (.iconst 1, 1) := by decide +kernel
theorem dX12_bad_10 : decode cX12_bad 10 = .ok (.goto 4, 3) := by decide +kernel
theorem dX12_bad_13 : decode cX12_bad 13 = .ok (.iload_n 1, 1) := by decide +kernel
theorem dX12_bad_14 : decode cX12_bad 14 = .ok (.putfield 66, 3) := by decide +kernel
theorem dX12_bad_17 : decode cX12_bad 17 = .ok (.aload_n 0, 1) := by decide +kernel
theorem dX12_bad_18 : decode cX12_bad 18 = .ok (.aload_n 0, 1) := by decide +kernel
theorem dX12_bad_19 : decode cX12_bad 19 = .ok (.getfield 24, 3) := by decide +kernel
theorem dX12_bad_22 : decode cX12_bad 22 = .ok (.putfield 69, 3) := by decide +kernel
theorem dX12_bad_25 : decode cX12_bad 25 = .ok (.iconst 0, 1) := by decide +kernel
theorem dX12_bad_26 : decode cX12_bad 26 = .ok (.ireturn, 1) := by decide +kernel
def f_X12_bad_14 (w0 : XM) (s1 : Int32) : Int32 × XM :=
  x_lt (x_si w0 0 10 s1) (fun m1 =>
  x_lt (x_si m1 0 11 (m1.1 0 6)) (fun m2 =>
  ((0 : Int32), m2)))
def f_X12_bad (v0 : XM) (x0 : Int32) : Int32 × XM :=
  if ((v0.1 0 7) : Int32) = (1 : Int32) then
  (f_X12_bad_14   v0 (1 : Int32))
  else (f_X12_bad_14   v0 x0)
set_option maxRecDepth 100000 in
set_option maxHeartbeats 4000000 in
theorem w_X12_bad_14 {p : Program} {l : Launch} {e : Env} {s : State} {m : MethodId} {args : Array Value} {below : List Frame} {meth : Method} {c : Code} {D : va_G} {tc : Nat → ClassId} {aK aV : Nat → Nat} {A : Nat → Prop} {ad0 : Nat → Nat}  (X : Cx p s m args meth c cX12_bad 2 (some .boolean) RX12 D tc aK aV A [(shModel, ad0)])  {o : Int32 × XM}  {w0 : XM} {s1 : Int32}  (h : f_X12_bad_14   w0 s1 = o) : aW p l e (x_Rm 0) s m args below meth c D tc A 2 [(shModel, ad0)] (some (.int o.1)) (x_Z o.1) [o.2] 14 [(0, .ref (ad0 0))] [.int s1, .ref (ad0 0)] [w0] := by
  unfold f_X12_bad_14 at h
  refine a_putI (pc := 14) X 0 fl_RX12_66 rfl rfl rfl rfl dX12_bad_14 ?_
  obtain ⟨m1, e_m1, h⟩ := x_lt_elim h
  refine a_nm (vs2 := [m1]) (congrArg (fun q : XM => [q]) e_m1) ?_
  refine a_aload_n (pc := 17) X 0 dX12_bad_17 rfl rfl ?_
  refine a_aload_n (pc := 18) X 0 dX12_bad_18 rfl rfl ?_
  refine a_getI (pc := 19) X 0 fl_RX12_24 rfl rfl rfl rfl dX12_bad_19 ?_
  refine a_putI (pc := 22) X 0 fl_RX12_69 rfl rfl rfl rfl dX12_bad_22 ?_
  obtain ⟨m2, e_m2, h⟩ := x_lt_elim h
  refine a_nm (vs2 := [m2]) (congrArg (fun q : XM => [q]) e_m2) ?_
  refine a_iconst (pc := 25) X dX12_bad_25 q_ic_0 ?_
  subst h
  exact a_zret (pc := 26) X x_Z0 x_Z0 dX12_bad_26
set_option maxRecDepth 100000 in
set_option maxHeartbeats 4000000 in
theorem c_X12_bad {l : Launch}  {ad0 : Nat → Nat} {v0 : XM} {x0 : Int32}  {o : Int32 × XM} (h : f_X12_bad v0 x0 = o) : CT l yX12_bad cX12_bad 2 (some .boolean) 0 [(shModel, ad0)] [v0] (fun aK => [.ref (ad0 0), .int x0]) (some (.int o.1)) (x_Z o.1) [o.2] := by
  refine CT_of (by decide) (fun _ => Nat.le_of_ble_eq_true rfl) ?_
  intro p e s m args below meth c D tc aK aV A X
  have X : Cx p s m args meth c cX12_bad 2 (some .boolean) RX12 D tc aK aV A [(shModel, ad0)] := X
  show aW p l e (x_Rm 0) s m args below meth c D tc A 2 [(shModel, ad0)] (some (.int o.1)) (x_Z o.1) [o.2] 0 [(0, .ref (ad0 0)), (1, .int x0)] [] [v0]
  unfold f_X12_bad at h
  refine a_aload_n (pc := 0) X 0 dX12_bad_0 rfl rfl ?_
  refine a_aload_n (pc := 1) X 0 dX12_bad_1 rfl rfl ?_
  refine a_getI (pc := 2) X 0 fl_RX12_30 rfl rfl rfl rfl dX12_bad_2 ?_
  refine a_iconst (pc := 5) X dX12_bad_5 q_ic_1 ?_
  refine a_icmp_ne (pc := 6) X 13 dX12_bad_6 rfl (fun c_6 => ?_) (fun c_6 => ?_)
  · have h := x_ifn c_6 h
    refine a_iload_n (pc := 13) X 1 dX12_bad_13 rfl rfl ?_
    refine a_sub [0] rfl ?_
    exact w_X12_bad_14 X     h
  · have h := x_ifp c_6 h
    refine a_iconst (pc := 9) X dX12_bad_9 q_ic_1 ?_
    refine a_goto (pc := 10) X 14 dX12_bad_10 rfl ?_
    refine a_sub [0] rfl ?_
    exact w_X12_bad_14 X     h
theorem dX12_readNumber_0 : decode cX12_readNumber 0 = .ok (.aload_n 0, 1) := by decide +kernel
theorem dX12_readNumber_1 : decode cX12_readNumber 1 = .ok (.getfield 30, 3) := by decide +kernel
theorem dX12_readNumber_4 : decode cX12_readNumber 4 = .ok (.iconst 3, 1) := by decide +kernel
theorem dX12_readNumber_5 : decode cX12_readNumber 5 = .ok (.if_icmp .eq 9, 3) := by decide +kernel
theorem dX12_readNumber_8 : decode cX12_readNumber 8 = .ok (.aload_n 0, 1) := by decide +kernel
theorem dX12_readNumber_9 : decode cX12_readNumber 9 = .ok (.iconst 1, 1) := by decide +kernel
theorem dX12_readNumber_10 : decode cX12_readNumber 10 = .ok (.invokevirtual 72, 3) := by decide +kernel
theorem dX12_readNumber_13 : decode cX12_readNumber 13 = .ok (.ireturn, 1) := by decide +kernel
theorem dX12_readNumber_14 : decode cX12_readNumber 14 = .ok (.aload_n 0, 1) := by decide +kernel
theorem dX12_readNumber_15 : decode cX12_readNumber 15 = .ok (.getfield 47, 3) := by decide +kernel
theorem dX12_readNumber_18 : decode cX12_readNumber 18 = .ok (.iload_n 1, 1) := by decide +kernel
theorem dX12_readNumber_19 : decode cX12_readNumber 19 = .ok (.iload_n 2, 1) := by decide +kernel
theorem dX12_readNumber_20 : decode cX12_readNumber 20 = .ok (.invokestatic 75, 3) := by decide +kernel
theorem dX12_readNumber_23 : decode cX12_readNumber 23 = .ok (.ifCond .ne 9, 3) := by decide +kernel
theorem dX12_readNumber_26 : decode cX12_readNumber 26 = .ok (.aload_n 0, 1) := by decide +kernel
theorem dX12_readNumber_27 : decode cX12_readNumber 27 = .ok (.iconst 2, 1) := by decide +kernel
theorem dX12_readNumber_28 : decode cX12_readNumber 28 = .ok (.invokevirtual 72, 3) := by decide +kernel
theorem dX12_readNumber_31 : decode cX12_readNumber 31 = .ok (.ireturn, 1) := by decide +kernel
theorem dX12_readNumber_32 : decode cX12_readNumber 32 = .ok (.aload_n 0, 1) := by decide +kernel
theorem dX12_readNumber_33 : decode cX12_readNumber 33 = .ok (.aload_n 0, 1) := by decide +kernel
theorem dX12_readNumber_34 : decode cX12_readNumber 34 = .ok (.getfield 47, 3) := by decide +kernel
theorem dX12_readNumber_37 : decode cX12_readNumber 37 = .ok (.putfield 79, 3) := by decide +kernel
theorem dX12_readNumber_40 : decode cX12_readNumber 40 = .ok (.aload_n 0, 1) := by decide +kernel
theorem dX12_readNumber_41 : decode cX12_readNumber 41 = .ok (.invokevirtual 82, 3) := by decide +kernel
theorem dX12_readNumber_44 : decode cX12_readNumber 44 = .ok (.iconst 1, 1) := by decide +kernel
theorem dX12_readNumber_45 : decode cX12_readNumber 45 = .ok (.ireturn, 1) := by decide +kernel
def f_X12_readNumber (v0 : XM) (x0 : Int32) (x1 : Int32) : Option (Int32 × XM) :=
  if ((v0.1 0 7) : Int32) = (3 : Int32) then
  (x_lt (f_X12_isIn (v0.1 0 8) x0 x1) (fun y1 =>
  if y1 = (0 : Int32) then
  (x_lt (f_X12_bad v0 (2 : Int32)) (fun y4 =>
  some (y4.1, y4.2)))
  else (x_lt (x_si v0 0 13 (v0.1 0 8)) (fun m2 =>
  x_bo (f_X12_go m2) (fun y3 =>
  some ((1 : Int32), y3))))))
  else (x_lt (f_X12_bad v0 (1 : Int32)) (fun y5 =>
  some (y5.1, y5.2)))
set_option maxRecDepth 100000 in
set_option maxHeartbeats 4000000 in
theorem c_X12_readNumber {l : Launch}  {ad0 : Nat → Nat} {v0 : XM} {x0 : Int32} {x1 : Int32}  {o : Int32 × XM} (h : f_X12_readNumber v0 x0 x1 = some o) : CT l yX12_readNumber cX12_readNumber 3 (some .boolean) 2 [(shModel, ad0)] [v0] (fun aK => [.ref (ad0 0), .int x0, .int x1]) (some (.int o.1)) (x_Z o.1) [o.2] := by
  refine CT_of (by decide) (fun _ => Nat.le_of_ble_eq_true rfl) ?_
  intro p e s m args below meth c D tc aK aV A X
  have X : Cx p s m args meth c cX12_readNumber 3 (some .boolean) RX12 D tc aK aV A [(shModel, ad0)] := X
  show aW p l e (x_Rm 2) s m args below meth c D tc A 3 [(shModel, ad0)] (some (.int o.1)) (x_Z o.1) [o.2] 0 [(0, .ref (ad0 0)), (1, .int x0), (2, .int x1)] [] [v0]
  unfold f_X12_readNumber at h
  refine a_aload_n (pc := 0) X 0 dX12_readNumber_0 rfl rfl ?_
  refine a_getI (pc := 1) X 0 fl_RX12_30 rfl rfl rfl rfl dX12_readNumber_1 ?_
  refine a_iconst (pc := 4) X dX12_readNumber_4 q_ic_3 ?_
  refine a_icmp_eq (pc := 5) X 14 dX12_readNumber_5 rfl (fun c_5 => ?_) (fun c_5 => ?_)
  · have h := x_ifp c_5 h
    refine a_aload_n (pc := 14) X 0 dX12_readNumber_14 rfl rfl ?_
    refine a_getI (pc := 15) X 0 fl_RX12_47 rfl rfl rfl rfl dX12_readNumber_15 ?_
    refine a_iload_n (pc := 18) X 1 dX12_readNumber_18 rfl rfl ?_
    refine a_iload_n (pc := 19) X 2 dX12_readNumber_19 rfl rfl ?_
    obtain ⟨y1, e_y1, h⟩ := x_lt_elim h
    refine a_callS (pc := 20) (st2 := [.int y1]) (vs2 := [v0]) X [] [] [.int (v0.1 0 8), .int x0, .int x1] [] cv_RX12_75 (c_X12_isIn   e_y1) rfl rfl rfl rfl rfl rfl rfl rfl rfl rfl rfl (Nat.le_of_ble_eq_true rfl) ⟨Nat.le_of_ble_eq_true rfl, Nat.le_of_ble_eq_true rfl⟩ dX12_readNumber_20 (fun z_20 => ?_)
    refine a_if_ne (pc := 23) X 32 dX12_readNumber_23 rfl (fun c_23 => ?_) (fun c_23 => ?_)
    · have h := x_ifn c_23 h
      refine a_aload_n (pc := 32) X 0 dX12_readNumber_32 rfl rfl ?_
      refine a_aload_n (pc := 33) X 0 dX12_readNumber_33 rfl rfl ?_
      refine a_getI (pc := 34) X 0 fl_RX12_47 rfl rfl rfl rfl dX12_readNumber_34 ?_
      refine a_putI (pc := 37) X 0 fl_RX12_79 rfl rfl rfl rfl dX12_readNumber_37 ?_
      obtain ⟨m2, e_m2, h⟩ := x_lt_elim h
      refine a_nm (vs2 := [m2]) (congrArg (fun q : XM => [q]) e_m2) ?_
      refine a_aload_n (pc := 40) X 0 dX12_readNumber_40 rfl rfl ?_
      obtain ⟨y3, e_y3, h⟩ := x_bo_elim h
      refine a_callV (pc := 41) (st2 := []) (vs2 := [y3]) X [(0, 0, 20)] [some y3] 0 0 12 [] [] cv_RX12_82 (c_X12_go (ad0 := ad0)  e_y3) rfl rfl rfl rfl rfl rfl rfl rfl rfl rfl rfl rfl rfl rfl rfl (Nat.le_of_ble_eq_true rfl) ⟨Nat.le_of_ble_eq_true rfl, Nat.le_of_ble_eq_true rfl⟩ dX12_readNumber_41 (fun _ => ?_)
      refine a_iconst (pc := 44) X dX12_readNumber_44 q_ic_1 ?_
      have h := Option.some.inj h; subst h
      exact a_zret (pc := 45) X x_Z1 x_Z1 dX12_readNumber_45
    · have h := x_ifp c_23 h
      refine a_aload_n (pc := 26) X 0 dX12_readNumber_26 rfl rfl ?_
      refine a_iconst (pc := 27) X dX12_readNumber_27 q_ic_2 ?_
      obtain ⟨y4, e_y4, h⟩ := x_lt_elim h
      refine a_callV (pc := 28) (st2 := [.int y4.1]) (vs2 := [y4.2]) X [(0, 0, 20)] [some y4.2] 0 0 12 [.int (2 : Int32)] [] cv_RX12_72 (c_X12_bad (ad0 := ad0)  e_y4) rfl rfl rfl rfl rfl rfl rfl rfl rfl rfl rfl rfl rfl rfl rfl (Nat.le_of_ble_eq_true rfl) ⟨Nat.le_of_ble_eq_true rfl, Nat.le_of_ble_eq_true rfl⟩ dX12_readNumber_28 (fun z_28 => ?_)
      have h := Option.some.inj h; subst h
      exact a_zret (pc := 31) X z_28 z_28 dX12_readNumber_31
  · have h := x_ifn c_5 h
    refine a_aload_n (pc := 8) X 0 dX12_readNumber_8 rfl rfl ?_
    refine a_iconst (pc := 9) X dX12_readNumber_9 q_ic_1 ?_
    obtain ⟨y5, e_y5, h⟩ := x_lt_elim h
    refine a_callV (pc := 10) (st2 := [.int y5.1]) (vs2 := [y5.2]) X [(0, 0, 20)] [some y5.2] 0 0 12 [.int (1 : Int32)] [] cv_RX12_72 (c_X12_bad (ad0 := ad0)  e_y5) rfl rfl rfl rfl rfl rfl rfl rfl rfl rfl rfl rfl rfl rfl rfl (Nat.le_of_ble_eq_true rfl) ⟨Nat.le_of_ble_eq_true rfl, Nat.le_of_ble_eq_true rfl⟩ dX12_readNumber_10 (fun z_10 => ?_)
    have h := Option.some.inj h; subst h
    exact a_zret (pc := 13) X z_10 z_10 dX12_readNumber_13
theorem dX12_readEnd_0 : decode cX12_readEnd 0 = .ok (.aload_n 0, 1) := by decide +kernel
theorem dX12_readEnd_1 : decode cX12_readEnd 1 = .ok (.bipush 59, 2) := by decide +kernel
theorem dX12_readEnd_3 : decode cX12_readEnd 3 = .ok (.invokevirtual 86, 3) := by decide +kernel
theorem dX12_readEnd_6 : decode cX12_readEnd 6 = .ok (.ifCond .ne 9, 3) := by decide +kernel
theorem dX12_readEnd_9 : decode cX12_readEnd 9 = .ok (.aload_n 0, 1) := by decide +kernel
theorem dX12_readEnd_10 : decode cX12_readEnd 10 = .ok (.iconst 1, 1) := by decide +kernel
theorem dX12_readEnd_11 : decode cX12_readEnd 11 = .ok (.invokevirtual 72, 3) := by decide +kernel
theorem dX12_readEnd_14 : decode cX12_readEnd 14 = .ok (.ireturn, 1) := by decide +kernel
theorem dX12_readEnd_15 : decode cX12_readEnd 15 = .ok (.aload_n 0, 1) := by decide +kernel
theorem dX12_readEnd_16 : decode cX12_readEnd 16 = .ok (.invokevirtual 82, 3) := by decide +kernel
theorem dX12_readEnd_19 : decode cX12_readEnd 19 = .ok (.iconst 1, 1) := by decide +kernel
theorem dX12_readEnd_20 : decode cX12_readEnd 20 = .ok (.ireturn, 1) := by decide +kernel
def f_X12_readEnd (v0 : XM) : Option (Int32 × XM) :=
  x_lt (f_X12_isSign v0 (59 : Int32)) (fun y1 =>
  if y1 = (0 : Int32) then
  (x_lt (f_X12_bad v0 (1 : Int32)) (fun y3 =>
  some (y3.1, y3.2)))
  else (x_bo (f_X12_go v0) (fun y2 =>
  some ((1 : Int32), y2))))
set_option maxRecDepth 100000 in
set_option maxHeartbeats 4000000 in
theorem c_X12_readEnd {l : Launch}  {ad0 : Nat → Nat} {v0 : XM}   {o : Int32 × XM} (h : f_X12_readEnd v0 = some o) : CT l yX12_readEnd cX12_readEnd 1 (some .boolean) 2 [(shModel, ad0)] [v0] (fun aK => [.ref (ad0 0)]) (some (.int o.1)) (x_Z o.1) [o.2] := by
  refine CT_of (by decide) (fun _ => Nat.le_of_ble_eq_true rfl) ?_
  intro p e s m args below meth c D tc aK aV A X
  have X : Cx p s m args meth c cX12_readEnd 1 (some .boolean) RX12 D tc aK aV A [(shModel, ad0)] := X
  show aW p l e (x_Rm 2) s m args below meth c D tc A 1 [(shModel, ad0)] (some (.int o.1)) (x_Z o.1) [o.2] 0 [(0, .ref (ad0 0))] [] [v0]
  unfold f_X12_readEnd at h
  refine a_aload_n (pc := 0) X 0 dX12_readEnd_0 rfl rfl ?_
  refine a_bipush (pc := 1) X dX12_readEnd_1 q_bp_59 ?_
  obtain ⟨y1, e_y1, h⟩ := x_lt_elim h
  refine a_callV (pc := 3) (st2 := [.int y1]) (vs2 := [v0]) X [(0, 0, 20)] [none] 0 0 12 [.int (59 : Int32)] [] cv_RX12_86 (c_X12_isSign (ad0 := ad0)  e_y1) rfl rfl rfl rfl rfl rfl rfl rfl rfl rfl rfl rfl rfl rfl rfl (Nat.le_of_ble_eq_true rfl) ⟨Nat.le_of_ble_eq_true rfl, Nat.le_of_ble_eq_true rfl⟩ dX12_readEnd_3 (fun z_3 => ?_)
  refine a_if_ne (pc := 6) X 15 dX12_readEnd_6 rfl (fun c_6 => ?_) (fun c_6 => ?_)
  · have h := x_ifn c_6 h
    refine a_aload_n (pc := 15) X 0 dX12_readEnd_15 rfl rfl ?_
    obtain ⟨y2, e_y2, h⟩ := x_bo_elim h
    refine a_callV (pc := 16) (st2 := []) (vs2 := [y2]) X [(0, 0, 20)] [some y2] 0 0 12 [] [] cv_RX12_82 (c_X12_go (ad0 := ad0)  e_y2) rfl rfl rfl rfl rfl rfl rfl rfl rfl rfl rfl rfl rfl rfl rfl (Nat.le_of_ble_eq_true rfl) ⟨Nat.le_of_ble_eq_true rfl, Nat.le_of_ble_eq_true rfl⟩ dX12_readEnd_16 (fun _ => ?_)
    refine a_iconst (pc := 19) X dX12_readEnd_19 q_ic_1 ?_
    have h := Option.some.inj h; subst h
    exact a_zret (pc := 20) X x_Z1 x_Z1 dX12_readEnd_20
  · have h := x_ifp c_6 h
    refine a_aload_n (pc := 9) X 0 dX12_readEnd_9 rfl rfl ?_
    refine a_iconst (pc := 10) X dX12_readEnd_10 q_ic_1 ?_
    obtain ⟨y3, e_y3, h⟩ := x_lt_elim h
    refine a_callV (pc := 11) (st2 := [.int y3.1]) (vs2 := [y3.2]) X [(0, 0, 20)] [some y3.2] 0 0 12 [.int (1 : Int32)] [] cv_RX12_72 (c_X12_bad (ad0 := ad0)  e_y3) rfl rfl rfl rfl rfl rfl rfl rfl rfl rfl rfl rfl rfl rfl rfl (Nat.le_of_ble_eq_true rfl) ⟨Nat.le_of_ble_eq_true rfl, Nat.le_of_ble_eq_true rfl⟩ dX12_readEnd_11 (fun z_11 => ?_)
    have h := Option.some.inj h; subst h
    exact a_zret (pc := 14) X z_11 z_11 dX12_readEnd_14
theorem dX12_begin_0 : decode cX12_begin 0 = .ok (.aload_n 0, 1) := by decide +kernel
theorem dX12_begin_1 : decode cX12_begin 1 = .ok (.iconst 0, 1) := by decide +kernel
theorem dX12_begin_2 : decode cX12_begin 2 = .ok (.putfield 1, 3) := by decide +kernel
theorem dX12_begin_5 : decode cX12_begin 5 = .ok (.aload_n 0, 1) := by decide +kernel
theorem dX12_begin_6 : decode cX12_begin 6 = .ok (.aload_n 0, 1) := by decide +kernel
theorem dX12_begin_7 : decode cX12_begin 7 = .ok (.invokevirtual 89, 3) := by decide +kernel
theorem dX12_begin_10 : decode cX12_begin 10 = .ok (.putfield 18, 3) := by decide +kernel
theorem dX12_begin_13 : decode cX12_begin 13 = .ok (.aload_n 0, 1) := by decide +kernel
theorem dX12_begin_14 : decode cX12_begin 14 = .ok (.iload_n 1, 1) := by decide +kernel
theorem dX12_begin_15 : decode cX12_begin 15 = .ok (.putfield 27, 3) := by decide +kernel
theorem dX12_begin_18 : decode cX12_begin 18 = .ok (.aload_n 0, 1) := by decide +kernel
theorem dX12_begin_19 : decode cX12_begin 19 = .ok (.iconst 0, 1) := by decide +kernel
theorem dX12_begin_20 : decode cX12_begin 20 = .ok (.putfield 66, 3) := by decide +kernel
theorem dX12_begin_23 : decode cX12_begin 23 = .ok (.aload_n 0, 1) := by decide +kernel
theorem dX12_begin_24 : decode cX12_begin 24 = .ok (.iconst 0, 1) := by decide +kernel
theorem dX12_begin_25 : decode cX12_begin 25 = .ok (.putfield 21, 3) := by decide +kernel
theorem dX12_begin_28 : decode cX12_begin 28 = .ok (.aload_n 0, 1) := by decide +kernel
theorem dX12_begin_29 : decode cX12_begin 29 = .ok (.invokevirtual 82, 3) := by decide +kernel
theorem dX12_begin_32 : decode cX12_begin 32 = .ok (.return_, 1) := by decide +kernel
def f_X12_begin (v0 : XM) (x0 : Int32) : Option (XM) :=
  x_lt (x_si v0 0 0 (0 : Int32)) (fun m1 =>
  x_lt (f_X12_take m1) (fun y2 =>
  x_lt (x_si y2.2 0 3 y2.1) (fun m3 =>
  x_lt (x_si m3 0 4 x0) (fun m4 =>
  x_lt (x_si m4 0 10 (0 : Int32)) (fun m5 =>
  x_lt (x_si m5 0 5 (0 : Int32)) (fun m6 =>
  x_bo (f_X12_go m6) (fun y7 =>
  some y7)))))))
set_option maxRecDepth 100000 in
set_option maxHeartbeats 4000000 in
theorem c_X12_begin {l : Launch}  {ad0 : Nat → Nat} {v0 : XM} {x0 : Int32}  {o : XM} (h : f_X12_begin v0 x0 = some o) : CT l yX12_begin cX12_begin 2 none 2 [(shModel, ad0)] [v0] (fun aK => [.ref (ad0 0), .int x0]) none True [o] := by
  refine CT_of (by decide) (fun _ => Nat.le_of_ble_eq_true rfl) ?_
  intro p e s m args below meth c D tc aK aV A X
  have X : Cx p s m args meth c cX12_begin 2 none RX12 D tc aK aV A [(shModel, ad0)] := X
  show aW p l e (x_Rm 2) s m args below meth c D tc A 2 [(shModel, ad0)] none True [o] 0 [(0, .ref (ad0 0)), (1, .int x0)] [] [v0]
  unfold f_X12_begin at h
  refine a_aload_n (pc := 0) X 0 dX12_begin_0 rfl rfl ?_
  refine a_iconst (pc := 1) X dX12_begin_1 q_ic_0 ?_
  refine a_putI (pc := 2) X 0 fl_RX12_1 rfl rfl rfl rfl dX12_begin_2 ?_
  obtain ⟨m1, e_m1, h⟩ := x_lt_elim h
  refine a_nm (vs2 := [m1]) (congrArg (fun q : XM => [q]) e_m1) ?_
  refine a_aload_n (pc := 5) X 0 dX12_begin_5 rfl rfl ?_
  refine a_aload_n (pc := 6) X 0 dX12_begin_6 rfl rfl ?_
  obtain ⟨y2, e_y2, h⟩ := x_lt_elim h
  refine a_callV (pc := 7) (st2 := [.int y2.1, .ref (ad0 0)]) (vs2 := [y2.2]) X [(0, 0, 20)] [some y2.2] 0 0 12 [] [.ref (ad0 0)] cv_RX12_89 (c_X12_take (ad0 := ad0)  e_y2) rfl rfl rfl rfl rfl rfl rfl rfl rfl rfl rfl rfl rfl rfl rfl (Nat.le_of_ble_eq_true rfl) ⟨Nat.le_of_ble_eq_true rfl, Nat.le_of_ble_eq_true rfl⟩ dX12_begin_7 (fun _ => ?_)
  refine a_putI (pc := 10) X 0 fl_RX12_18 rfl rfl rfl rfl dX12_begin_10 ?_
  obtain ⟨m3, e_m3, h⟩ := x_lt_elim h
  refine a_nm (vs2 := [m3]) (congrArg (fun q : XM => [q]) e_m3) ?_
  refine a_aload_n (pc := 13) X 0 dX12_begin_13 rfl rfl ?_
  refine a_iload_n (pc := 14) X 1 dX12_begin_14 rfl rfl ?_
  refine a_putI (pc := 15) X 0 fl_RX12_27 rfl rfl rfl rfl dX12_begin_15 ?_
  obtain ⟨m4, e_m4, h⟩ := x_lt_elim h
  refine a_nm (vs2 := [m4]) (congrArg (fun q : XM => [q]) e_m4) ?_
  refine a_aload_n (pc := 18) X 0 dX12_begin_18 rfl rfl ?_
  refine a_iconst (pc := 19) X dX12_begin_19 q_ic_0 ?_
  refine a_putI (pc := 20) X 0 fl_RX12_66 rfl rfl rfl rfl dX12_begin_20 ?_
  obtain ⟨m5, e_m5, h⟩ := x_lt_elim h
  refine a_nm (vs2 := [m5]) (congrArg (fun q : XM => [q]) e_m5) ?_
  refine a_aload_n (pc := 23) X 0 dX12_begin_23 rfl rfl ?_
  refine a_iconst (pc := 24) X dX12_begin_24 q_ic_0 ?_
  refine a_putI (pc := 25) X 0 fl_RX12_21 rfl rfl rfl rfl dX12_begin_25 ?_
  obtain ⟨m6, e_m6, h⟩ := x_lt_elim h
  refine a_nm (vs2 := [m6]) (congrArg (fun q : XM => [q]) e_m6) ?_
  refine a_aload_n (pc := 28) X 0 dX12_begin_28 rfl rfl ?_
  obtain ⟨y7, e_y7, h⟩ := x_bo_elim h
  refine a_callV (pc := 29) (st2 := []) (vs2 := [y7]) X [(0, 0, 20)] [some y7] 0 0 12 [] [] cv_RX12_82 (c_X12_go (ad0 := ad0)  e_y7) rfl rfl rfl rfl rfl rfl rfl rfl rfl rfl rfl rfl rfl rfl rfl (Nat.le_of_ble_eq_true rfl) ⟨Nat.le_of_ble_eq_true rfl, Nat.le_of_ble_eq_true rfl⟩ dX12_begin_29 (fun _ => ?_)
  have h := Option.some.inj h; subst h
  exact a_vret (pc := 32) X trivial dX12_begin_32
theorem dX12_startSo_0 : decode cX12_startSo 0 = .ok (.bipush 70, 2) := by decide +kernel
theorem dX12_startSo_2 : decode cX12_startSo 2 = .ok (.istore_n 1, 1) := by decide +kernel
theorem dX12_startSo_3 : decode cX12_startSo 3 = .ok (.iload_n 1, 1) := by decide +kernel
theorem dX12_startSo_4 : decode cX12_startSo 4 = .ok (.sipush 353, 3) := by decide +kernel
theorem dX12_startSo_7 : decode cX12_startSo 7 = .ok (.if_icmp .ge 16, 3) := by decide +kernel
theorem dX12_startSo_10 : decode cX12_startSo 10 = .ok (.aload_n 0, 1) := by decide +kernel
theorem dX12_startSo_11 : decode cX12_startSo 11 = .ok (.getfield 98, 3) := by decide +kernel
theorem dX12_startSo_14 : decode cX12_startSo 14 = .ok (.iload_n 1, 1) := by decide +kernel
theorem dX12_startSo_15 : decode cX12_startSo 15 = .ok (.iconst 0, 1) := by decide +kernel
theorem dX12_startSo_16 : decode cX12_startSo 16 = .ok (.iastore, 1) := by decide +kernel
theorem dX12_startSo_17 : decode cX12_startSo 17 = .ok (.iinc 1 1, 3) := by decide +kernel
theorem dX12_startSo_20 : decode cX12_startSo 20 = .ok (.goto (-17), 3) := by decide +kernel
theorem dX12_startSo_23 : decode cX12_startSo 23 = .ok (.aload_n 0, 1) := by decide +kernel
theorem dX12_startSo_24 : decode cX12_startSo 24 = .ok (.getfield 98, 3) := by decide +kernel
theorem dX12_startSo_27 : decode cX12_startSo 27 = .ok (.bipush 71, 2) := by decide +kernel
theorem dX12_startSo_29 : decode cX12_startSo 29 = .ok (.iconst (-1), 1) := by decide +kernel
theorem dX12_startSo_30 : decode cX12_startSo 30 = .ok (.iastore, 1) := by decide +kernel
theorem dX12_startSo_31 : decode cX12_startSo 31 = .ok (.iconst 0, 1) := by decide +kernel
theorem dX12_startSo_32 : decode cX12_startSo 32 = .ok (.istore_n 1, 1) := by decide +kernel
theorem dX12_startSo_33 : decode cX12_startSo 33 = .ok (.iload_n 1, 1) := by decide +kernel
theorem dX12_startSo_34 : decode cX12_startSo 34 = .ok (.iconst 5, 1) := by decide +kernel
theorem dX12_startSo_35 : decode cX12_startSo 35 = .ok (.if_icmp .ge 37, 3) := by decide +kernel
theorem dX12_startSo_38 : decode cX12_startSo 38 = .ok (.aload_n 0, 1) := by decide +kernel
theorem dX12_startSo_39 : decode cX12_startSo 39 = .ok (.getfield 98, 3) := by decide +kernel
theorem dX12_startSo_42 : decode cX12_startSo 42 = .ok (.bipush 74, 2) := by decide +kernel
theorem dX12_startSo_44 : decode cX12_startSo 44 = .ok (.iload_n 1, 1) := by decide +kernel
theorem dX12_startSo_45 : decode cX12_startSo 45 = .ok (.iadd, 1) := by decide +kernel
theorem dX12_startSo_46 : decode cX12_startSo 46 = .ok (.aload_n 0, 1) := by decide +kernel
theorem dX12_startSo_47 : decode cX12_startSo 47 = .ok (.getfield 98, 3) := by decide +kernel
theorem dX12_startSo_50 : decode cX12_startSo 50 = .ok (.bipush 60, 2) := by decide +kernel
theorem dX12_startSo_52 : decode cX12_startSo 52 = .ok (.iload_n 1, 1) := by decide +kernel
theorem dX12_startSo_53 : decode cX12_startSo 53 = .ok (.iadd, 1) := by decide +kernel
theorem dX12_startSo_54 : decode cX12_startSo 54 = .ok (.iaload, 1) := by decide +kernel
theorem dX12_startSo_55 : decode cX12_startSo 55 = .ok (.iastore, 1) := by decide +kernel
theorem dX12_startSo_56 : decode cX12_startSo 56 = .ok (.aload_n 0, 1) := by decide +kernel
theorem dX12_startSo_57 : decode cX12_startSo 57 = .ok (.getfield 98, 3) := by decide +kernel
theorem dX12_startSo_60 : decode cX12_startSo 60 = .ok (.bipush 79, 2) := by decide +kernel
theorem dX12_startSo_62 : decode cX12_startSo 62 = .ok (.iload_n 1, 1) := by decide +kernel
theorem dX12_startSo_63 : decode cX12_startSo 63 = .ok (.iadd, 1) := by decide +kernel
theorem dX12_startSo_64 : decode cX12_startSo 64 = .ok (.iconst (-1), 1) := by decide +kernel
theorem dX12_startSo_65 : decode cX12_startSo 65 = .ok (.iastore, 1) := by decide +kernel
theorem dX12_startSo_66 : decode cX12_startSo 66 = .ok (.iinc 1 1, 3) := by decide +kernel
theorem dX12_startSo_69 : decode cX12_startSo 69 = .ok (.goto (-36), 3) := by decide +kernel
theorem dX12_startSo_72 : decode cX12_startSo 72 = .ok (.return_, 1) := by decide +kernel
def f_X12_startSo_33 (k33 : XM → Int32 → Option (XM)) (w0 : XM) (l1 : Int32) : Option (XM) :=
  if ((5 : Int32) : Int32) ≤ l1 then
  (some w0)
  else (x_ck ((60 : Int32) + l1) 353 (
  x_ck ((74 : Int32) + l1) 353 (
  x_lt (x_pa w0 2 ((74 : Int32) + l1) (x_ga w0 2 ((60 : Int32) + l1))) (fun m1 =>
  x_ck ((79 : Int32) + l1) 353 (
  x_lt (x_pa m1 2 ((79 : Int32) + l1) (-1 : Int32)) (fun m2 =>
  k33 m2 (l1 + 1)))))))
def f_X12_startSo_3 (k3 : XM → Int32 → Option (XM)) (w0 : XM) (l1 : Int32) : Option (XM) :=
  if ((353 : Int32) : Int32) ≤ l1 then
  (x_lt (x_pa w0 2 (71 : Int32) (-1 : Int32)) (fun m3 =>
  x_lp (φ := XM → Int32 → Option (XM)) (fun _ _ => none) (f_X12_startSo_33  ) x_NN m3 (0 : Int32)))
  else (x_ck l1 353 (
  x_lt (x_pa w0 2 l1 (0 : Int32)) (fun m4 =>
  k3 m4 (l1 + 1))))
def f_X12_startSo (v0 : XM) : Option (XM) :=
  x_lp (φ := XM → Int32 → Option (XM)) (fun _ _ => none) (f_X12_startSo_3  ) x_NN v0 (70 : Int32)
set_option maxRecDepth 100000 in
set_option maxHeartbeats 4000000 in
theorem w_X12_startSo_33 {p : Program} {l : Launch} {e : Env} {s : State} {m : MethodId} {args : Array Value} {below : List Frame} {meth : Method} {c : Code} {D : va_G} {tc : Nat → ClassId} {aK aV : Nat → Nat} {A : Nat → Prop} {ad0 : Nat → Nat}  (X : Cx p s m args meth c cX12_startSo 2 none RX12 D tc aK aV A [(shModel, ad0)])  {o : XM}  : ∀ (n : Nat), ∀ (w0 : XM) (l1 : Int32), x_lp (φ := XM → Int32 → Option (XM)) (fun _ _ => none) (f_X12_startSo_33  ) n w0 l1 = some o → aW p l e (x_Rm 0) s m args below meth c D tc A 2 [(shModel, ad0)] none True [o] 33 [(0, .ref (ad0 0)), (1, .int l1)] [] [w0] := by
  intro n
  induction n with
  | zero => intro w0 l1 h; exact absurd h (fun q => by cases q)
  | succ n ih =>
    intro w0 l1 h
    have h : f_X12_startSo_33   (x_lp (φ := XM → Int32 → Option (XM)) (fun _ _ => none) (f_X12_startSo_33  ) n) w0 l1 = some o := h
    generalize x_lp (φ := XM → Int32 → Option (XM)) (fun _ _ => none) (f_X12_startSo_33  ) n = k33 at h ih
    have hk33 := ih
    unfold f_X12_startSo_33 at h
    refine a_iload_n (pc := 33) X 1 dX12_startSo_33 rfl rfl ?_
    refine a_iconst (pc := 34) X dX12_startSo_34 q_ic_5 ?_
    refine a_icmp_ge (pc := 35) X 72 dX12_startSo_35 rfl (fun c_35 => ?_) (fun c_35 => ?_)
    · have h := x_ifp c_35 h
      have h := Option.some.inj h; subst h
      exact a_vret (pc := 72) X trivial dX12_startSo_72
    · have h := x_ifn c_35 h
      refine a_aload_n (pc := 38) X 0 dX12_startSo_38 rfl rfl ?_
      refine a_getR (pc := 39) X 0 2 2 fl_RX12_98 rfl rfl rfl rfl rfl dX12_startSo_39 ?_
      refine a_bipush (pc := 42) X dX12_startSo_42 q_bp_74 ?_
      refine a_iload_n (pc := 44) X 1 dX12_startSo_44 rfl rfl ?_
      refine a_iadd (pc := 45) X dX12_startSo_45 ?_
      refine a_aload_n (pc := 46) X 0 dX12_startSo_46 rfl rfl ?_
      refine a_getR (pc := 47) X 0 2 2 fl_RX12_98 rfl rfl rfl rfl rfl dX12_startSo_47 ?_
      refine a_bipush (pc := 50) X dX12_startSo_50 q_bp_60 ?_
      refine a_iload_n (pc := 52) X 1 dX12_startSo_52 rfl rfl ?_
      refine a_iadd (pc := 53) X dX12_startSo_53 ?_
      obtain ⟨c_54, h⟩ := x_ck_elim h
      refine a_iald (pc := 54) X 0 rfl rfl rfl c_54 dX12_startSo_54 ?_
      obtain ⟨c_55, h⟩ := x_ck_elim h
      refine a_iast (pc := 55) X 0 rfl rfl rfl c_55 dX12_startSo_55 ?_
      obtain ⟨m1, e_m1, h⟩ := x_lt_elim h
      refine a_nm (vs2 := [m1]) (congrArg (fun q : XM => [q]) e_m1) ?_
      refine a_aload_n (pc := 56) X 0 dX12_startSo_56 rfl rfl ?_
      refine a_getR (pc := 57) X 0 2 2 fl_RX12_98 rfl rfl rfl rfl rfl dX12_startSo_57 ?_
      refine a_bipush (pc := 60) X dX12_startSo_60 q_bp_79 ?_
      refine a_iload_n (pc := 62) X 1 dX12_startSo_62 rfl rfl ?_
      refine a_iadd (pc := 63) X dX12_startSo_63 ?_
      refine a_iconst (pc := 64) X dX12_startSo_64 q_ic_m1 ?_
      obtain ⟨c_65, h⟩ := x_ck_elim h
      refine a_iast (pc := 65) X 0 rfl rfl rfl c_65 dX12_startSo_65 ?_
      obtain ⟨m2, e_m2, h⟩ := x_lt_elim h
      refine a_nm (vs2 := [m2]) (congrArg (fun q : XM => [q]) e_m2) ?_
      refine a_iinc (pc := 66) X 1 [(1, .int (l1 + 1)), (0, .ref (ad0 0))] dX12_startSo_66 rfl (congrArg (HAdd.hAdd l1) q_ic_1) (by decide) rfl ?_
      refine a_goto (pc := 69) X 33 dX12_startSo_69 rfl ?_
      refine a_sub [1, 0] rfl ?_
      exact hk33 _ _ h
set_option maxRecDepth 100000 in
set_option maxHeartbeats 4000000 in
theorem w_X12_startSo_3 {p : Program} {l : Launch} {e : Env} {s : State} {m : MethodId} {args : Array Value} {below : List Frame} {meth : Method} {c : Code} {D : va_G} {tc : Nat → ClassId} {aK aV : Nat → Nat} {A : Nat → Prop} {ad0 : Nat → Nat}  (X : Cx p s m args meth c cX12_startSo 2 none RX12 D tc aK aV A [(shModel, ad0)])  {o : XM}  : ∀ (n : Nat), ∀ (w0 : XM) (l1 : Int32), x_lp (φ := XM → Int32 → Option (XM)) (fun _ _ => none) (f_X12_startSo_3  ) n w0 l1 = some o → aW p l e (x_Rm 0) s m args below meth c D tc A 2 [(shModel, ad0)] none True [o] 3 [(0, .ref (ad0 0)), (1, .int l1)] [] [w0] := by
  intro n
  induction n with
  | zero => intro w0 l1 h; exact absurd h (fun q => by cases q)
  | succ n ih =>
    intro w0 l1 h
    have h : f_X12_startSo_3   (x_lp (φ := XM → Int32 → Option (XM)) (fun _ _ => none) (f_X12_startSo_3  ) n) w0 l1 = some o := h
    generalize x_lp (φ := XM → Int32 → Option (XM)) (fun _ _ => none) (f_X12_startSo_3  ) n = k3 at h ih
    have hk3 := ih
    unfold f_X12_startSo_3 at h
    refine a_iload_n (pc := 3) X 1 dX12_startSo_3 rfl rfl ?_
    refine a_sipush (pc := 4) X dX12_startSo_4 q_sp_353 ?_
    refine a_icmp_ge (pc := 7) X 23 dX12_startSo_7 rfl (fun c_7 => ?_) (fun c_7 => ?_)
    · have h := x_ifp c_7 h
      refine a_aload_n (pc := 23) X 0 dX12_startSo_23 rfl rfl ?_
      refine a_getR (pc := 24) X 0 2 2 fl_RX12_98 rfl rfl rfl rfl rfl dX12_startSo_24 ?_
      refine a_bipush (pc := 27) X dX12_startSo_27 q_bp_71 ?_
      refine a_iconst (pc := 29) X dX12_startSo_29 q_ic_m1 ?_
      refine a_iast (pc := 30) X 0 rfl rfl rfl (x_inl (by decide)) dX12_startSo_30 ?_
      obtain ⟨m3, e_m3, h⟩ := x_lt_elim h
      refine a_nm (vs2 := [m3]) (congrArg (fun q : XM => [q]) e_m3) ?_
      refine a_iconst (pc := 31) X dX12_startSo_31 q_ic_0 ?_
      refine a_istore_n (pc := 32) X [(1, .int (0 : Int32)), (0, .ref (ad0 0))] dX12_startSo_32 rfl (by decide) rfl ?_
      refine a_sub [1, 0] rfl ?_
      exact w_X12_startSo_33 X    x_NN _ _ h
    · have h := x_ifn c_7 h
      refine a_aload_n (pc := 10) X 0 dX12_startSo_10 rfl rfl ?_
      refine a_getR (pc := 11) X 0 2 2 fl_RX12_98 rfl rfl rfl rfl rfl dX12_startSo_11 ?_
      refine a_iload_n (pc := 14) X 1 dX12_startSo_14 rfl rfl ?_
      refine a_iconst (pc := 15) X dX12_startSo_15 q_ic_0 ?_
      obtain ⟨c_16, h⟩ := x_ck_elim h
      refine a_iast (pc := 16) X 0 rfl rfl rfl c_16 dX12_startSo_16 ?_
      obtain ⟨m4, e_m4, h⟩ := x_lt_elim h
      refine a_nm (vs2 := [m4]) (congrArg (fun q : XM => [q]) e_m4) ?_
      refine a_iinc (pc := 17) X 1 [(1, .int (l1 + 1)), (0, .ref (ad0 0))] dX12_startSo_17 rfl (congrArg (HAdd.hAdd l1) q_ic_1) (by decide) rfl ?_
      refine a_goto (pc := 20) X 3 dX12_startSo_20 rfl ?_
      refine a_sub [1, 0] rfl ?_
      exact hk3 _ _ h
set_option maxRecDepth 100000 in
set_option maxHeartbeats 4000000 in
theorem c_X12_startSo {l : Launch}  {ad0 : Nat → Nat} {v0 : XM}   {o : XM} (h : f_X12_startSo v0 = some o) : CT l yX12_startSo cX12_startSo 2 none 0 [(shModel, ad0)] [v0] (fun aK => [.ref (ad0 0)]) none True [o] := by
  refine CT_of (by decide) (fun _ => Nat.le_of_ble_eq_true rfl) ?_
  intro p e s m args below meth c D tc aK aV A X
  have X : Cx p s m args meth c cX12_startSo 2 none RX12 D tc aK aV A [(shModel, ad0)] := X
  show aW p l e (x_Rm 0) s m args below meth c D tc A 2 [(shModel, ad0)] none True [o] 0 [(0, .ref (ad0 0))] [] [v0]
  unfold f_X12_startSo at h
  refine a_bipush (pc := 0) X dX12_startSo_0 q_bp_70 ?_
  refine a_istore_n (pc := 2) X [(1, .int (70 : Int32)), (0, .ref (ad0 0))] dX12_startSo_2 rfl (by decide) rfl ?_
  refine a_sub [1, 0] rfl ?_
  exact w_X12_startSo_3 X    x_NN _ _ h
theorem dX12_findIn_0 : decode cX12_findIn 0 = .ok (.iconst 0, 1) := by decide +kernel
theorem dX12_findIn_1 : decode cX12_findIn 1 = .ok (.istore 5, 2) := by decide +kernel
theorem dX12_findIn_3 : decode cX12_findIn 3 = .ok (.iload 5, 2) := by decide +kernel
theorem dX12_findIn_5 : decode cX12_findIn 5 = .ok (.iload_n 2, 1) := by decide +kernel
theorem dX12_findIn_6 : decode cX12_findIn 6 = .ok (.if_icmp .ge 23, 3) := by decide +kernel
theorem dX12_findIn_9 : decode cX12_findIn 9 = .ok (.aload_n 0, 1) := by decide +kernel
theorem dX12_findIn_10 : decode cX12_findIn 10 = .ok (.iload_n 1, 1) := by decide +kernel
theorem dX12_findIn_11 : decode cX12_findIn 11 = .ok (.iload 5, 2) := by decide +kernel
theorem dX12_findIn_13 : decode cX12_findIn 13 = .ok (.iadd, 1) := by decide +kernel
theorem dX12_findIn_14 : decode cX12_findIn 14 = .ok (.laload, 1) := by decide +kernel
theorem dX12_findIn_15 : decode cX12_findIn 15 = .ok (.lload_n 3, 1) := by decide +kernel
theorem dX12_findIn_16 : decode cX12_findIn 16 = .ok (.lcmp, 1) := by decide +kernel
theorem dX12_findIn_17 : decode cX12_findIn 17 = .ok (.ifCond .ne 6, 3) := by decide +kernel
theorem dX12_findIn_20 : decode cX12_findIn 20 = .ok (.iload 5, 2) := by decide +kernel
theorem dX12_findIn_22 : decode cX12_findIn 22 = .ok (.ireturn, 1) := by decide +kernel
theorem dX12_findIn_23 : decode cX12_findIn 23 = .ok (.iinc 5 1, 3) := by decide +kernel
theorem dX12_findIn_26 : decode cX12_findIn 26 = .ok (.goto (-23), 3) := by decide +kernel
theorem dX12_findIn_29 : decode cX12_findIn 29 = .ok (.iconst (-1), 1) := by decide +kernel
theorem dX12_findIn_30 : decode cX12_findIn 30 = .ok (.ireturn, 1) := by decide +kernel
def f_X12_findIn_3 (v0 : XM) (k3 : Int32 → Int32 → Int64 → Int32 → Option (Int32)) (l1 : Int32) (l2 : Int32) (l3 : Int64) (l5 : Int32) : Option (Int32) :=
  if (l2 : Int32) ≤ l5 then
  (some ((-1 : Int32) : Int32))
  else (x_ck (l1 + l5) 19 (
  if (lg_cmp (x_gl v0 0 (l1 + l5)) l3) = (0 : Int32) then
  (some (l5 : Int32))
  else (k3 l1 l2 l3 (l5 + 1))))
def f_X12_findIn (v0 : XM) (x1 : Int32) (x2 : Int32) (x3 : Int64) : Option (Int32) :=
  x_lp (φ := Int32 → Int32 → Int64 → Int32 → Option (Int32)) (fun _ _ _ _ => none) (f_X12_findIn_3 v0 ) x_NN x1 x2 x3 (0 : Int32)
set_option maxRecDepth 100000 in
set_option maxHeartbeats 4000000 in
theorem w_X12_findIn_3 {p : Program} {l : Launch} {e : Env} {s : State} {m : MethodId} {args : Array Value} {below : List Frame} {meth : Method} {c : Code} {D : va_G} {tc : Nat → ClassId} {aK aV : Nat → Nat} {A : Nat → Prop} {ad0 : Nat → Nat} {v0 : XM} (X : Cx p s m args meth c cX12_findIn 6 (some .int) RX12 D tc aK aV A [((shLongs 19), ad0)])  {o : Int32}  : ∀ (n : Nat), ∀ (l1 : Int32) (l2 : Int32) (l3 : Int64) (l5 : Int32), x_lp (φ := Int32 → Int32 → Int64 → Int32 → Option (Int32)) (fun _ _ _ _ => none) (f_X12_findIn_3 v0 ) n l1 l2 l3 l5 = some o → aW p l e (x_Rm 0) s m args below meth c D tc A 6 [((shLongs 19), ad0)] (some (.int o)) True [v0] 3 [(0, .ref (ad0 0)), (1, .int l1), (2, .int l2), (3, .long l3), (5, .int l5)] [] [v0] := by
  intro n
  induction n with
  | zero => intro l1 l2 l3 l5 h; exact absurd h (fun q => by cases q)
  | succ n ih =>
    intro l1 l2 l3 l5 h
    have h : f_X12_findIn_3 v0  (x_lp (φ := Int32 → Int32 → Int64 → Int32 → Option (Int32)) (fun _ _ _ _ => none) (f_X12_findIn_3 v0 ) n) l1 l2 l3 l5 = some o := h
    generalize x_lp (φ := Int32 → Int32 → Int64 → Int32 → Option (Int32)) (fun _ _ _ _ => none) (f_X12_findIn_3 v0 ) n = k3 at h ih
    have hk3 := ih
    unfold f_X12_findIn_3 at h
    refine a_iload (pc := 3) X 4 dX12_findIn_3 rfl ?_
    refine a_iload_n (pc := 5) X 2 dX12_findIn_5 rfl rfl ?_
    refine a_icmp_ge (pc := 6) X 29 dX12_findIn_6 rfl (fun c_6 => ?_) (fun c_6 => ?_)
    · have h := x_ifp c_6 h
      refine a_iconst (pc := 29) X dX12_findIn_29 q_ic_m1 ?_
      have h := Option.some.inj h; subst h
      exact a_iret (pc := 30) X trivial dX12_findIn_30
    · have h := x_ifn c_6 h
      refine a_aload_n (pc := 9) X 0 dX12_findIn_9 rfl rfl ?_
      refine a_iload_n (pc := 10) X 1 dX12_findIn_10 rfl rfl ?_
      refine a_iload (pc := 11) X 4 dX12_findIn_11 rfl ?_
      refine a_iadd (pc := 13) X dX12_findIn_13 ?_
      obtain ⟨c_14, h⟩ := x_ck_elim h
      refine a_lald (pc := 14) X 0 rfl rfl rfl c_14 dX12_findIn_14 ?_
      refine a_lload_n (pc := 15) X 3 dX12_findIn_15 rfl rfl ?_
      refine a_lcmp (pc := 16) X dX12_findIn_16 ?_
      refine a_if_ne (pc := 17) X 23 dX12_findIn_17 rfl (fun c_17 => ?_) (fun c_17 => ?_)
      · have h := x_ifn c_17 h
        refine a_iinc (pc := 23) X 4 [(5, .int (l5 + 1)), (0, .ref (ad0 0)), (1, .int l1), (2, .int l2), (3, .long l3)] dX12_findIn_23 rfl (congrArg (HAdd.hAdd l5) q_ic_1) (by decide) rfl ?_
        refine a_goto (pc := 26) X 3 dX12_findIn_26 rfl ?_
        refine a_sub [1, 2, 3, 4, 0] rfl ?_
        exact hk3 _ _ _ _ h
      · have h := x_ifp c_17 h
        refine a_iload (pc := 20) X 4 dX12_findIn_20 rfl ?_
        have h := Option.some.inj h; subst h
        exact a_iret (pc := 22) X trivial dX12_findIn_22
set_option maxRecDepth 100000 in
set_option maxHeartbeats 4000000 in
theorem c_X12_findIn {l : Launch}  {ad0 : Nat → Nat} {v0 : XM} {x1 : Int32} {x2 : Int32} {x3 : Int64}  {o : Int32} (h : f_X12_findIn v0 x1 x2 x3 = some o) : CT l yX12_findIn cX12_findIn 6 (some .int) 0 [((shLongs 19), ad0)] [v0] (fun aK => [.ref (ad0 0), .int x1, .int x2, .long x3]) (some (.int o)) True [v0] := by
  refine CT_of (by decide) (fun _ => Nat.le_of_ble_eq_true rfl) ?_
  intro p e s m args below meth c D tc aK aV A X
  have X : Cx p s m args meth c cX12_findIn 6 (some .int) RX12 D tc aK aV A [((shLongs 19), ad0)] := X
  show aW p l e (x_Rm 0) s m args below meth c D tc A 6 [((shLongs 19), ad0)] (some (.int o)) True [v0] 0 [(0, .ref (ad0 0)), (1, .int x1), (2, .int x2), (3, .long x3)] [] [v0]
  unfold f_X12_findIn at h
  refine a_iconst (pc := 0) X dX12_findIn_0 q_ic_0 ?_
  refine a_istore (pc := 1) X [(5, .int (0 : Int32)), (0, .ref (ad0 0)), (1, .int x1), (2, .int x2), (3, .long x3)] dX12_findIn_1 (by decide) rfl ?_
  refine a_sub [1, 2, 3, 4, 0] rfl ?_
  exact w_X12_findIn_3 X    x_NN _ _ _ _ h
theorem dX12_isTaken_0 : decode cX12_isTaken 0 = .ok (.aload_n 0, 1) := by decide +kernel
theorem dX12_isTaken_1 : decode cX12_isTaken 1 = .ok (.getfield 117, 3) := by decide +kernel
theorem dX12_isTaken_4 : decode cX12_isTaken 4 = .ok (.iconst 0, 1) := by decide +kernel
theorem dX12_isTaken_5 : decode cX12_isTaken 5 = .ok (.aload_n 0, 1) := by decide +kernel
theorem dX12_isTaken_6 : decode cX12_isTaken 6 = .ok (.getfield 101, 3) := by decide +kernel
theorem dX12_isTaken_9 : decode cX12_isTaken 9 = .ok (.iconst 0, 1) := by decide +kernel
theorem dX12_isTaken_10 : decode cX12_isTaken 10 = .ok (.iaload, 1) := by decide +kernel
theorem dX12_isTaken_11 : decode cX12_isTaken 11 = .ok (.aload_n 0, 1) := by decide +kernel
theorem dX12_isTaken_12 : decode cX12_isTaken 12 = .ok (.getfield 43, 3) := by decide +kernel
theorem dX12_isTaken_15 : decode cX12_isTaken 15 = .ok (.invokestatic 166, 3) := by decide +kernel
theorem dX12_isTaken_18 : decode cX12_isTaken 18 = .ok (.iconst (-1), 1) := by decide +kernel
theorem dX12_isTaken_19 : decode cX12_isTaken 19 = .ok (.if_icmp .ne 49, 3) := by decide +kernel
theorem dX12_isTaken_22 : decode cX12_isTaken 22 = .ok (.aload_n 0, 1) := by decide +kernel
theorem dX12_isTaken_23 : decode cX12_isTaken 23 = .ok (.getfield 117, 3) := by decide +kernel
theorem dX12_isTaken_26 : decode cX12_isTaken 26 = .ok (.bipush 8, 2) := by decide +kernel
theorem dX12_isTaken_28 : decode cX12_isTaken 28 = .ok (.aload_n 0, 1) := by decide +kernel
theorem dX12_isTaken_29 : decode cX12_isTaken 29 = .ok (.getfield 101, 3) := by decide +kernel
theorem dX12_isTaken_32 : decode cX12_isTaken 32 = .ok (.iconst 2, 1) := by decide +kernel
theorem dX12_isTaken_33 : decode cX12_isTaken 33 = .ok (.iaload, 1) := by decide +kernel
theorem dX12_isTaken_34 : decode cX12_isTaken 34 = .ok (.aload_n 0, 1) := by decide +kernel
theorem dX12_isTaken_35 : decode cX12_isTaken 35 = .ok (.getfield 43, 3) := by decide +kernel
theorem dX12_isTaken_38 : decode cX12_isTaken 38 = .ok (.invokestatic 166, 3) := by decide +kernel
theorem dX12_isTaken_41 : decode cX12_isTaken 41 = .ok (.iconst (-1), 1) := by decide +kernel
theorem dX12_isTaken_42 : decode cX12_isTaken 42 = .ok (.if_icmp .ne 26, 3) := by decide +kernel
theorem dX12_isTaken_45 : decode cX12_isTaken 45 = .ok (.aload_n 0, 1) := by decide +kernel
theorem dX12_isTaken_46 : decode cX12_isTaken 46 = .ok (.getfield 117, 3) := by decide +kernel
theorem dX12_isTaken_49 : decode cX12_isTaken 49 = .ok (.bipush 14, 2) := by decide +kernel
theorem dX12_isTaken_51 : decode cX12_isTaken 51 = .ok (.aload_n 0, 1) := by decide +kernel
theorem dX12_isTaken_52 : decode cX12_isTaken 52 = .ok (.getfield 101, 3) := by decide +kernel
theorem dX12_isTaken_55 : decode cX12_isTaken 55 = .ok (.iconst 3, 1) := by decide +kernel
theorem dX12_isTaken_56 : decode cX12_isTaken 56 = .ok (.iaload, 1) := by decide +kernel
theorem dX12_isTaken_57 : decode cX12_isTaken 57 = .ok (.aload_n 0, 1) := by decide +kernel
theorem dX12_isTaken_58 : decode cX12_isTaken 58 = .ok (.getfield 43, 3) := by decide +kernel
theorem dX12_isTaken_61 : decode cX12_isTaken 61 = .ok (.invokestatic 166, 3) := by decide +kernel
theorem dX12_isTaken_64 : decode cX12_isTaken 64 = .ok (.iconst (-1), 1) := by decide +kernel
theorem dX12_isTaken_65 : decode cX12_isTaken 65 = .ok (.if_icmp .eq 7, 3) := by decide +kernel
theorem dX12_isTaken_68 : decode cX12_isTaken 68 = .ok (.iconst 1, 1) := by decide +kernel
theorem dX12_isTaken_69 : decode cX12_isTaken 69 = .ok (.goto 4, 3) := by decide +kernel
theorem dX12_isTaken_72 : decode cX12_isTaken 72 = .ok (.iconst 0, 1) := by decide +kernel
theorem dX12_isTaken_73 : decode cX12_isTaken 73 = .ok (.ireturn, 1) := by decide +kernel
def f_X12_isTaken (v0 : XM) : Option (Int32) :=
  x_bo (f_X12_findIn (x_sub v0 8) (0 : Int32) (x_ga v0 3 (0 : Int32)) (v0.2 0 12)) (fun y1 =>
  if (y1 : Int32) = (-1 : Int32) then
  (x_bo (f_X12_findIn (x_sub v0 8) (8 : Int32) (x_ga v0 3 (2 : Int32)) (v0.2 0 12)) (fun y2 =>
  if (y2 : Int32) = (-1 : Int32) then
  (x_bo (f_X12_findIn (x_sub v0 8) (14 : Int32) (x_ga v0 3 (3 : Int32)) (v0.2 0 12)) (fun y3 =>
  if (y3 : Int32) = (-1 : Int32) then
  (some ((0 : Int32) : Int32))
  else (some ((1 : Int32) : Int32))))
  else (some ((1 : Int32) : Int32))))
  else (some ((1 : Int32) : Int32)))
set_option maxRecDepth 100000 in
set_option maxHeartbeats 4000000 in
theorem c_X12_isTaken {l : Launch}  {ad0 : Nat → Nat} {v0 : XM}   {o : Int32} (h : f_X12_isTaken v0 = some o) : CT l yX12_isTaken cX12_isTaken 1 (some .boolean) 1 [(shModel, ad0)] [v0] (fun aK => [.ref (ad0 0)]) (some (.int o)) (x_Z o) [v0] := by
  refine CT_of (by decide) (fun _ => Nat.le_of_ble_eq_true rfl) ?_
  intro p e s m args below meth c D tc aK aV A X
  have X : Cx p s m args meth c cX12_isTaken 1 (some .boolean) RX12 D tc aK aV A [(shModel, ad0)] := X
  show aW p l e (x_Rm 1) s m args below meth c D tc A 1 [(shModel, ad0)] (some (.int o)) (x_Z o) [v0] 0 [(0, .ref (ad0 0))] [] [v0]
  unfold f_X12_isTaken at h
  refine a_aload_n (pc := 0) X 0 dX12_isTaken_0 rfl rfl ?_
  refine a_getR (pc := 1) X 0 8 8 fl_RX12_117 rfl rfl rfl rfl rfl dX12_isTaken_1 ?_
  refine a_iconst (pc := 4) X dX12_isTaken_4 q_ic_0 ?_
  refine a_aload_n (pc := 5) X 0 dX12_isTaken_5 rfl rfl ?_
  refine a_getR (pc := 6) X 0 3 3 fl_RX12_101 rfl rfl rfl rfl rfl dX12_isTaken_6 ?_
  refine a_iconst (pc := 9) X dX12_isTaken_9 q_ic_0 ?_
  refine a_iald (pc := 10) X 0 rfl rfl rfl (x_inl (by decide)) dX12_isTaken_10 ?_
  refine a_aload_n (pc := 11) X 0 dX12_isTaken_11 rfl rfl ?_
  refine a_getL (pc := 12) X 0 fl_RX12_43 rfl rfl rfl rfl dX12_isTaken_12 ?_
  obtain ⟨y1, e_y1, h⟩ := x_bo_elim h
  refine a_callS (pc := 15) (st2 := [.int y1]) (vs2 := [v0]) X [(0, 8, 1)] [none] [.ref (ad0 8), .int (0 : Int32), .int (x_ga v0 3 (0 : Int32)), .long (v0.2 0 12)] [] cv_RX12_166 (c_X12_findIn (ad0 := (fun i => ad0 (i + 8)))  e_y1) rfl rfl rfl rfl rfl rfl rfl rfl rfl rfl rfl (Nat.le_of_ble_eq_true rfl) ⟨Nat.le_of_ble_eq_true rfl, Nat.le_of_ble_eq_true rfl⟩ dX12_isTaken_15 (fun _ => ?_)
  refine a_iconst (pc := 18) X dX12_isTaken_18 q_ic_m1 ?_
  refine a_icmp_ne (pc := 19) X 68 dX12_isTaken_19 rfl (fun c_19 => ?_) (fun c_19 => ?_)
  · have h := x_ifn c_19 h
    refine a_iconst (pc := 68) X dX12_isTaken_68 q_ic_1 ?_
    refine a_goto (pc := 69) X 73 dX12_isTaken_69 rfl ?_
    have h := Option.some.inj h; subst h
    exact a_zret (pc := 73) X x_Z1 x_Z1 dX12_isTaken_73
  · have h := x_ifp c_19 h
    refine a_aload_n (pc := 22) X 0 dX12_isTaken_22 rfl rfl ?_
    refine a_getR (pc := 23) X 0 8 8 fl_RX12_117 rfl rfl rfl rfl rfl dX12_isTaken_23 ?_
    refine a_bipush (pc := 26) X dX12_isTaken_26 q_bp_8 ?_
    refine a_aload_n (pc := 28) X 0 dX12_isTaken_28 rfl rfl ?_
    refine a_getR (pc := 29) X 0 3 3 fl_RX12_101 rfl rfl rfl rfl rfl dX12_isTaken_29 ?_
    refine a_iconst (pc := 32) X dX12_isTaken_32 q_ic_2 ?_
    refine a_iald (pc := 33) X 0 rfl rfl rfl (x_inl (by decide)) dX12_isTaken_33 ?_
    refine a_aload_n (pc := 34) X 0 dX12_isTaken_34 rfl rfl ?_
    refine a_getL (pc := 35) X 0 fl_RX12_43 rfl rfl rfl rfl dX12_isTaken_35 ?_
    obtain ⟨y2, e_y2, h⟩ := x_bo_elim h
    refine a_callS (pc := 38) (st2 := [.int y2]) (vs2 := [v0]) X [(0, 8, 1)] [none] [.ref (ad0 8), .int (8 : Int32), .int (x_ga v0 3 (2 : Int32)), .long (v0.2 0 12)] [] cv_RX12_166 (c_X12_findIn (ad0 := (fun i => ad0 (i + 8)))  e_y2) rfl rfl rfl rfl rfl rfl rfl rfl rfl rfl rfl (Nat.le_of_ble_eq_true rfl) ⟨Nat.le_of_ble_eq_true rfl, Nat.le_of_ble_eq_true rfl⟩ dX12_isTaken_38 (fun _ => ?_)
    refine a_iconst (pc := 41) X dX12_isTaken_41 q_ic_m1 ?_
    refine a_icmp_ne (pc := 42) X 68 dX12_isTaken_42 rfl (fun c_42 => ?_) (fun c_42 => ?_)
    · have h := x_ifn c_42 h
      refine a_iconst (pc := 68) X dX12_isTaken_68 q_ic_1 ?_
      refine a_goto (pc := 69) X 73 dX12_isTaken_69 rfl ?_
      have h := Option.some.inj h; subst h
      exact a_zret (pc := 73) X x_Z1 x_Z1 dX12_isTaken_73
    · have h := x_ifp c_42 h
      refine a_aload_n (pc := 45) X 0 dX12_isTaken_45 rfl rfl ?_
      refine a_getR (pc := 46) X 0 8 8 fl_RX12_117 rfl rfl rfl rfl rfl dX12_isTaken_46 ?_
      refine a_bipush (pc := 49) X dX12_isTaken_49 q_bp_14 ?_
      refine a_aload_n (pc := 51) X 0 dX12_isTaken_51 rfl rfl ?_
      refine a_getR (pc := 52) X 0 3 3 fl_RX12_101 rfl rfl rfl rfl rfl dX12_isTaken_52 ?_
      refine a_iconst (pc := 55) X dX12_isTaken_55 q_ic_3 ?_
      refine a_iald (pc := 56) X 0 rfl rfl rfl (x_inl (by decide)) dX12_isTaken_56 ?_
      refine a_aload_n (pc := 57) X 0 dX12_isTaken_57 rfl rfl ?_
      refine a_getL (pc := 58) X 0 fl_RX12_43 rfl rfl rfl rfl dX12_isTaken_58 ?_
      obtain ⟨y3, e_y3, h⟩ := x_bo_elim h
      refine a_callS (pc := 61) (st2 := [.int y3]) (vs2 := [v0]) X [(0, 8, 1)] [none] [.ref (ad0 8), .int (14 : Int32), .int (x_ga v0 3 (3 : Int32)), .long (v0.2 0 12)] [] cv_RX12_166 (c_X12_findIn (ad0 := (fun i => ad0 (i + 8)))  e_y3) rfl rfl rfl rfl rfl rfl rfl rfl rfl rfl rfl (Nat.le_of_ble_eq_true rfl) ⟨Nat.le_of_ble_eq_true rfl, Nat.le_of_ble_eq_true rfl⟩ dX12_isTaken_61 (fun _ => ?_)
      refine a_iconst (pc := 64) X dX12_isTaken_64 q_ic_m1 ?_
      refine a_icmp_eq (pc := 65) X 72 dX12_isTaken_65 rfl (fun c_65 => ?_) (fun c_65 => ?_)
      · have h := x_ifp c_65 h
        refine a_iconst (pc := 72) X dX12_isTaken_72 q_ic_0 ?_
        have h := Option.some.inj h; subst h
        exact a_zret (pc := 73) X x_Z0 x_Z0 dX12_isTaken_73
      · have h := x_ifn c_65 h
        refine a_iconst (pc := 68) X dX12_isTaken_68 q_ic_1 ?_
        refine a_goto (pc := 69) X 73 dX12_isTaken_69 rfl ?_
        have h := Option.some.inj h; subst h
        exact a_zret (pc := 73) X x_Z1 x_Z1 dX12_isTaken_73
theorem dX12_readNew_0 : decode cX12_readNew 0 = .ok (.aload_n 0, 1) := by decide +kernel
theorem dX12_readNew_1 : decode cX12_readNew 1 = .ok (.invokevirtual 170, 3) := by decide +kernel
theorem dX12_readNew_4 : decode cX12_readNew 4 = .ok (.ifCond .ne 9, 3) := by decide +kernel
theorem dX12_readNew_7 : decode cX12_readNew 7 = .ok (.aload_n 0, 1) := by decide +kernel
theorem dX12_readNew_8 : decode cX12_readNew 8 = .ok (.iconst 1, 1) := by decide +kernel
theorem dX12_readNew_9 : decode cX12_readNew 9 = .ok (.invokevirtual 72, 3) := by decide +kernel
theorem dX12_readNew_12 : decode cX12_readNew 12 = .ok (.ireturn, 1) := by decide +kernel
theorem dX12_readNew_13 : decode cX12_readNew 13 = .ok (.aload_n 0, 1) := by decide +kernel
theorem dX12_readNew_14 : decode cX12_readNew 14 = .ok (.invokevirtual 174, 3) := by decide +kernel
theorem dX12_readNew_17 : decode cX12_readNew 17 = .ok (.ifCond .eq 9, 3) := by decide +kernel
theorem dX12_readNew_20 : decode cX12_readNew 20 = .ok (.aload_n 0, 1) := by decide +kernel
theorem dX12_readNew_21 : decode cX12_readNew 21 = .ok (.iconst 3, 1) := by decide +kernel
theorem dX12_readNew_22 : decode cX12_readNew 22 = .ok (.invokevirtual 72, 3) := by decide +kernel
theorem dX12_readNew_25 : decode cX12_readNew 25 = .ok (.ireturn, 1) := by decide +kernel
theorem dX12_readNew_26 : decode cX12_readNew 26 = .ok (.aload_n 0, 1) := by decide +kernel
theorem dX12_readNew_27 : decode cX12_readNew 27 = .ok (.getfield 117, 3) := by decide +kernel
theorem dX12_readNew_30 : decode cX12_readNew 30 = .ok (.iload_n 1, 1) := by decide +kernel
theorem dX12_readNew_31 : decode cX12_readNew 31 = .ok (.aload_n 0, 1) := by decide +kernel
theorem dX12_readNew_32 : decode cX12_readNew 32 = .ok (.getfield 43, 3) := by decide +kernel
theorem dX12_readNew_35 : decode cX12_readNew 35 = .ok (.lastore, 1) := by decide +kernel
theorem dX12_readNew_36 : decode cX12_readNew 36 = .ok (.aload_n 0, 1) := by decide +kernel
theorem dX12_readNew_37 : decode cX12_readNew 37 = .ok (.invokevirtual 82, 3) := by decide +kernel
theorem dX12_readNew_40 : decode cX12_readNew 40 = .ok (.iconst 1, 1) := by decide +kernel
theorem dX12_readNew_41 : decode cX12_readNew 41 = .ok (.ireturn, 1) := by decide +kernel
def f_X12_readNew (v0 : XM) (x0 : Int32) : Option (Int32 × XM) :=
  x_bo (f_X12_isName v0) (fun y1 =>
  if y1 = (0 : Int32) then
  (x_lt (f_X12_bad v0 (1 : Int32)) (fun y6 =>
  some (y6.1, y6.2)))
  else (x_bo (f_X12_isTaken v0) (fun y2 =>
  if y2 = (0 : Int32) then
  (x_ck x0 19 (
  x_lt (x_pl v0 8 x0 (v0.2 0 12)) (fun m3 =>
  x_bo (f_X12_go m3) (fun y4 =>
  some ((1 : Int32), y4)))))
  else (x_lt (f_X12_bad v0 (3 : Int32)) (fun y5 =>
  some (y5.1, y5.2))))))
set_option maxRecDepth 100000 in
set_option maxHeartbeats 4000000 in
theorem c_X12_readNew {l : Launch}  {ad0 : Nat → Nat} {v0 : XM} {x0 : Int32}  {o : Int32 × XM} (h : f_X12_readNew v0 x0 = some o) : CT l yX12_readNew cX12_readNew 2 (some .boolean) 3 [(shModel, ad0)] [v0] (fun aK => [.ref (ad0 0), .int x0]) (some (.int o.1)) (x_Z o.1) [o.2] := by
  refine CT_of (by decide) (fun _ => Nat.le_of_ble_eq_true rfl) ?_
  intro p e s m args below meth c D tc aK aV A X
  have X : Cx p s m args meth c cX12_readNew 2 (some .boolean) RX12 D tc aK aV A [(shModel, ad0)] := X
  show aW p l e (x_Rm 3) s m args below meth c D tc A 2 [(shModel, ad0)] (some (.int o.1)) (x_Z o.1) [o.2] 0 [(0, .ref (ad0 0)), (1, .int x0)] [] [v0]
  unfold f_X12_readNew at h
  refine a_aload_n (pc := 0) X 0 dX12_readNew_0 rfl rfl ?_
  obtain ⟨y1, e_y1, h⟩ := x_bo_elim h
  refine a_callV (pc := 1) (st2 := [.int y1]) (vs2 := [v0]) X [(0, 0, 20)] [none] 0 0 12 [] [] cv_RX12_170 (c_X12_isName (ad0 := ad0)  e_y1) rfl rfl rfl rfl rfl rfl rfl rfl rfl rfl rfl rfl rfl rfl rfl (Nat.le_of_ble_eq_true rfl) ⟨Nat.le_of_ble_eq_true rfl, Nat.le_of_ble_eq_true rfl⟩ dX12_readNew_1 (fun z_1 => ?_)
  refine a_if_ne (pc := 4) X 13 dX12_readNew_4 rfl (fun c_4 => ?_) (fun c_4 => ?_)
  · have h := x_ifn c_4 h
    refine a_aload_n (pc := 13) X 0 dX12_readNew_13 rfl rfl ?_
    obtain ⟨y2, e_y2, h⟩ := x_bo_elim h
    refine a_callV (pc := 14) (st2 := [.int y2]) (vs2 := [v0]) X [(0, 0, 20)] [none] 0 0 12 [] [] cv_RX12_174 (c_X12_isTaken (ad0 := ad0)  e_y2) rfl rfl rfl rfl rfl rfl rfl rfl rfl rfl rfl rfl rfl rfl rfl (Nat.le_of_ble_eq_true rfl) ⟨Nat.le_of_ble_eq_true rfl, Nat.le_of_ble_eq_true rfl⟩ dX12_readNew_14 (fun z_14 => ?_)
    refine a_if_eq (pc := 17) X 26 dX12_readNew_17 rfl (fun c_17 => ?_) (fun c_17 => ?_)
    · have h := x_ifp c_17 h
      refine a_aload_n (pc := 26) X 0 dX12_readNew_26 rfl rfl ?_
      refine a_getR (pc := 27) X 0 8 8 fl_RX12_117 rfl rfl rfl rfl rfl dX12_readNew_27 ?_
      refine a_iload_n (pc := 30) X 1 dX12_readNew_30 rfl rfl ?_
      refine a_aload_n (pc := 31) X 0 dX12_readNew_31 rfl rfl ?_
      refine a_getL (pc := 32) X 0 fl_RX12_43 rfl rfl rfl rfl dX12_readNew_32 ?_
      obtain ⟨c_35, h⟩ := x_ck_elim h
      refine a_last (pc := 35) X 0 rfl rfl rfl c_35 dX12_readNew_35 ?_
      obtain ⟨m3, e_m3, h⟩ := x_lt_elim h
      refine a_nm (vs2 := [m3]) (congrArg (fun q : XM => [q]) e_m3) ?_
      refine a_aload_n (pc := 36) X 0 dX12_readNew_36 rfl rfl ?_
      obtain ⟨y4, e_y4, h⟩ := x_bo_elim h
      refine a_callV (pc := 37) (st2 := []) (vs2 := [y4]) X [(0, 0, 20)] [some y4] 0 0 12 [] [] cv_RX12_82 (c_X12_go (ad0 := ad0)  e_y4) rfl rfl rfl rfl rfl rfl rfl rfl rfl rfl rfl rfl rfl rfl rfl (Nat.le_of_ble_eq_true rfl) ⟨Nat.le_of_ble_eq_true rfl, Nat.le_of_ble_eq_true rfl⟩ dX12_readNew_37 (fun _ => ?_)
      refine a_iconst (pc := 40) X dX12_readNew_40 q_ic_1 ?_
      have h := Option.some.inj h; subst h
      exact a_zret (pc := 41) X x_Z1 x_Z1 dX12_readNew_41
    · have h := x_ifn c_17 h
      refine a_aload_n (pc := 20) X 0 dX12_readNew_20 rfl rfl ?_
      refine a_iconst (pc := 21) X dX12_readNew_21 q_ic_3 ?_
      obtain ⟨y5, e_y5, h⟩ := x_lt_elim h
      refine a_callV (pc := 22) (st2 := [.int y5.1]) (vs2 := [y5.2]) X [(0, 0, 20)] [some y5.2] 0 0 12 [.int (3 : Int32)] [] cv_RX12_72 (c_X12_bad (ad0 := ad0)  e_y5) rfl rfl rfl rfl rfl rfl rfl rfl rfl rfl rfl rfl rfl rfl rfl (Nat.le_of_ble_eq_true rfl) ⟨Nat.le_of_ble_eq_true rfl, Nat.le_of_ble_eq_true rfl⟩ dX12_readNew_22 (fun z_22 => ?_)
      have h := Option.some.inj h; subst h
      exact a_zret (pc := 25) X z_22 z_22 dX12_readNew_25
  · have h := x_ifp c_4 h
    refine a_aload_n (pc := 7) X 0 dX12_readNew_7 rfl rfl ?_
    refine a_iconst (pc := 8) X dX12_readNew_8 q_ic_1 ?_
    obtain ⟨y6, e_y6, h⟩ := x_lt_elim h
    refine a_callV (pc := 9) (st2 := [.int y6.1]) (vs2 := [y6.2]) X [(0, 0, 20)] [some y6.2] 0 0 12 [.int (1 : Int32)] [] cv_RX12_72 (c_X12_bad (ad0 := ad0)  e_y6) rfl rfl rfl rfl rfl rfl rfl rfl rfl rfl rfl rfl rfl rfl rfl (Nat.le_of_ble_eq_true rfl) ⟨Nat.le_of_ble_eq_true rfl, Nat.le_of_ble_eq_true rfl⟩ dX12_readNew_9 (fun z_9 => ?_)
    have h := Option.some.inj h; subst h
    exact a_zret (pc := 12) X z_9 z_9 dX12_readNew_12
theorem dX12_isSpotHere_0 : decode cX12_isSpotHere 0 = .ok (.aload_n 0, 1) := by decide +kernel
theorem dX12_isSpotHere_1 : decode cX12_isSpotHere 1 = .ok (.invokevirtual 170, 3) := by decide +kernel
theorem dX12_isSpotHere_4 : decode cX12_isSpotHere 4 = .ok (.ifCond .ne 9, 3) := by decide +kernel
theorem dX12_isSpotHere_7 : decode cX12_isSpotHere 7 = .ok (.aload_n 0, 1) := by decide +kernel
theorem dX12_isSpotHere_8 : decode cX12_isSpotHere 8 = .ok (.iconst 1, 1) := by decide +kernel
theorem dX12_isSpotHere_9 : decode cX12_isSpotHere 9 = .ok (.invokevirtual 72, 3) := by decide +kernel
theorem dX12_isSpotHere_12 : decode cX12_isSpotHere 12 = .ok (.ireturn, 1) := by decide +kernel
theorem dX12_isSpotHere_13 : decode cX12_isSpotHere 13 = .ok (.aload_n 0, 1) := by decide +kernel
theorem dX12_isSpotHere_14 : decode cX12_isSpotHere 14 = .ok (.aload_n 0, 1) := by decide +kernel
theorem dX12_isSpotHere_15 : decode cX12_isSpotHere 15 = .ok (.getfield 117, 3) := by decide +kernel
theorem dX12_isSpotHere_18 : decode cX12_isSpotHere 18 = .ok (.iconst 0, 1) := by decide +kernel
theorem dX12_isSpotHere_19 : decode cX12_isSpotHere 19 = .ok (.aload_n 0, 1) := by decide +kernel
theorem dX12_isSpotHere_20 : decode cX12_isSpotHere 20 = .ok (.getfield 101, 3) := by decide +kernel
theorem dX12_isSpotHere_23 : decode cX12_isSpotHere 23 = .ok (.iconst 0, 1) := by decide +kernel
theorem dX12_isSpotHere_24 : decode cX12_isSpotHere 24 = .ok (.iaload, 1) := by decide +kernel
theorem dX12_isSpotHere_25 : decode cX12_isSpotHere 25 = .ok (.aload_n 0, 1) := by decide +kernel
theorem dX12_isSpotHere_26 : decode cX12_isSpotHere 26 = .ok (.getfield 43, 3) := by decide +kernel
theorem dX12_isSpotHere_29 : decode cX12_isSpotHere 29 = .ok (.invokestatic 166, 3) := by decide +kernel
theorem dX12_isSpotHere_32 : decode cX12_isSpotHere 32 = .ok (.putfield 79, 3) := by decide +kernel
theorem dX12_isSpotHere_35 : decode cX12_isSpotHere 35 = .ok (.aload_n 0, 1) := by decide +kernel
theorem dX12_isSpotHere_36 : decode cX12_isSpotHere 36 = .ok (.getfield 79, 3) := by decide +kernel
theorem dX12_isSpotHere_39 : decode cX12_isSpotHere 39 = .ok (.iconst (-1), 1) := by decide +kernel
theorem dX12_isSpotHere_40 : decode cX12_isSpotHere 40 = .ok (.if_icmp .ne 11, 3) := by decide +kernel
theorem dX12_isSpotHere_43 : decode cX12_isSpotHere 43 = .ok (.aload_n 0, 1) := by decide +kernel
theorem dX12_isSpotHere_44 : decode cX12_isSpotHere 44 = .ok (.iconst 3, 1) := by decide +kernel
theorem dX12_isSpotHere_45 : decode cX12_isSpotHere 45 = .ok (.invokevirtual 72, 3) := by decide +kernel
theorem dX12_isSpotHere_48 : decode cX12_isSpotHere 48 = .ok (.ifCond .eq 7, 3) := by decide +kernel
theorem dX12_isSpotHere_51 : decode cX12_isSpotHere 51 = .ok (.iconst 1, 1) := by decide +kernel
theorem dX12_isSpotHere_52 : decode cX12_isSpotHere 52 = .ok (.goto 4, 3) := by decide +kernel
theorem dX12_isSpotHere_55 : decode cX12_isSpotHere 55 = .ok (.iconst 0, 1) := by decide +kernel
theorem dX12_isSpotHere_56 : decode cX12_isSpotHere 56 = .ok (.ireturn, 1) := by decide +kernel
def f_X12_isSpotHere (v0 : XM) : Option (Int32 × XM) :=
  x_bo (f_X12_isName v0) (fun y1 =>
  if y1 = (0 : Int32) then
  (x_lt (f_X12_bad v0 (1 : Int32)) (fun y5 =>
  some (y5.1, y5.2)))
  else (x_bo (f_X12_findIn (x_sub v0 8) (0 : Int32) (x_ga v0 3 (0 : Int32)) (v0.2 0 12)) (fun y2 =>
  x_lt (x_si v0 0 13 y2) (fun m3 =>
  if ((m3.1 0 13) : Int32) = (-1 : Int32) then
  (x_lt (f_X12_bad m3 (3 : Int32)) (fun y4 =>
  if y4.1 = (0 : Int32) then
  (some ((0 : Int32), y4.2))
  else (some ((1 : Int32), y4.2))))
  else (some ((1 : Int32), m3))))))
set_option maxRecDepth 100000 in
set_option maxHeartbeats 4000000 in
theorem c_X12_isSpotHere {l : Launch}  {ad0 : Nat → Nat} {v0 : XM}   {o : Int32 × XM} (h : f_X12_isSpotHere v0 = some o) : CT l yX12_isSpotHere cX12_isSpotHere 1 (some .boolean) 3 [(shModel, ad0)] [v0] (fun aK => [.ref (ad0 0)]) (some (.int o.1)) (x_Z o.1) [o.2] := by
  refine CT_of (by decide) (fun _ => Nat.le_of_ble_eq_true rfl) ?_
  intro p e s m args below meth c D tc aK aV A X
  have X : Cx p s m args meth c cX12_isSpotHere 1 (some .boolean) RX12 D tc aK aV A [(shModel, ad0)] := X
  show aW p l e (x_Rm 3) s m args below meth c D tc A 1 [(shModel, ad0)] (some (.int o.1)) (x_Z o.1) [o.2] 0 [(0, .ref (ad0 0))] [] [v0]
  unfold f_X12_isSpotHere at h
  refine a_aload_n (pc := 0) X 0 dX12_isSpotHere_0 rfl rfl ?_
  obtain ⟨y1, e_y1, h⟩ := x_bo_elim h
  refine a_callV (pc := 1) (st2 := [.int y1]) (vs2 := [v0]) X [(0, 0, 20)] [none] 0 0 12 [] [] cv_RX12_170 (c_X12_isName (ad0 := ad0)  e_y1) rfl rfl rfl rfl rfl rfl rfl rfl rfl rfl rfl rfl rfl rfl rfl (Nat.le_of_ble_eq_true rfl) ⟨Nat.le_of_ble_eq_true rfl, Nat.le_of_ble_eq_true rfl⟩ dX12_isSpotHere_1 (fun z_1 => ?_)
  refine a_if_ne (pc := 4) X 13 dX12_isSpotHere_4 rfl (fun c_4 => ?_) (fun c_4 => ?_)
  · have h := x_ifn c_4 h
    refine a_aload_n (pc := 13) X 0 dX12_isSpotHere_13 rfl rfl ?_
    refine a_aload_n (pc := 14) X 0 dX12_isSpotHere_14 rfl rfl ?_
    refine a_getR (pc := 15) X 0 8 8 fl_RX12_117 rfl rfl rfl rfl rfl dX12_isSpotHere_15 ?_
    refine a_iconst (pc := 18) X dX12_isSpotHere_18 q_ic_0 ?_
    refine a_aload_n (pc := 19) X 0 dX12_isSpotHere_19 rfl rfl ?_
    refine a_getR (pc := 20) X 0 3 3 fl_RX12_101 rfl rfl rfl rfl rfl dX12_isSpotHere_20 ?_
    refine a_iconst (pc := 23) X dX12_isSpotHere_23 q_ic_0 ?_
    refine a_iald (pc := 24) X 0 rfl rfl rfl (x_inl (by decide)) dX12_isSpotHere_24 ?_
    refine a_aload_n (pc := 25) X 0 dX12_isSpotHere_25 rfl rfl ?_
    refine a_getL (pc := 26) X 0 fl_RX12_43 rfl rfl rfl rfl dX12_isSpotHere_26 ?_
    obtain ⟨y2, e_y2, h⟩ := x_bo_elim h
    refine a_callS (pc := 29) (st2 := [.int y2, .ref (ad0 0)]) (vs2 := [v0]) X [(0, 8, 1)] [none] [.ref (ad0 8), .int (0 : Int32), .int (x_ga v0 3 (0 : Int32)), .long (v0.2 0 12)] [.ref (ad0 0)] cv_RX12_166 (c_X12_findIn (ad0 := (fun i => ad0 (i + 8)))  e_y2) rfl rfl rfl rfl rfl rfl rfl rfl rfl rfl rfl (Nat.le_of_ble_eq_true rfl) ⟨Nat.le_of_ble_eq_true rfl, Nat.le_of_ble_eq_true rfl⟩ dX12_isSpotHere_29 (fun _ => ?_)
    refine a_putI (pc := 32) X 0 fl_RX12_79 rfl rfl rfl rfl dX12_isSpotHere_32 ?_
    obtain ⟨m3, e_m3, h⟩ := x_lt_elim h
    refine a_nm (vs2 := [m3]) (congrArg (fun q : XM => [q]) e_m3) ?_
    refine a_aload_n (pc := 35) X 0 dX12_isSpotHere_35 rfl rfl ?_
    refine a_getI (pc := 36) X 0 fl_RX12_79 rfl rfl rfl rfl dX12_isSpotHere_36 ?_
    refine a_iconst (pc := 39) X dX12_isSpotHere_39 q_ic_m1 ?_
    refine a_icmp_ne (pc := 40) X 51 dX12_isSpotHere_40 rfl (fun c_40 => ?_) (fun c_40 => ?_)
    · have h := x_ifn c_40 h
      refine a_iconst (pc := 51) X dX12_isSpotHere_51 q_ic_1 ?_
      refine a_goto (pc := 52) X 56 dX12_isSpotHere_52 rfl ?_
      have h := Option.some.inj h; subst h
      exact a_zret (pc := 56) X x_Z1 x_Z1 dX12_isSpotHere_56
    · have h := x_ifp c_40 h
      refine a_aload_n (pc := 43) X 0 dX12_isSpotHere_43 rfl rfl ?_
      refine a_iconst (pc := 44) X dX12_isSpotHere_44 q_ic_3 ?_
      obtain ⟨y4, e_y4, h⟩ := x_lt_elim h
      refine a_callV (pc := 45) (st2 := [.int y4.1]) (vs2 := [y4.2]) X [(0, 0, 20)] [some y4.2] 0 0 12 [.int (3 : Int32)] [] cv_RX12_72 (c_X12_bad (ad0 := ad0)  e_y4) rfl rfl rfl rfl rfl rfl rfl rfl rfl rfl rfl rfl rfl rfl rfl (Nat.le_of_ble_eq_true rfl) ⟨Nat.le_of_ble_eq_true rfl, Nat.le_of_ble_eq_true rfl⟩ dX12_isSpotHere_45 (fun z_45 => ?_)
      refine a_if_eq (pc := 48) X 55 dX12_isSpotHere_48 rfl (fun c_48 => ?_) (fun c_48 => ?_)
      · have h := x_ifp c_48 h
        refine a_iconst (pc := 55) X dX12_isSpotHere_55 q_ic_0 ?_
        have h := Option.some.inj h; subst h
        exact a_zret (pc := 56) X x_Z0 x_Z0 dX12_isSpotHere_56
      · have h := x_ifn c_48 h
        refine a_iconst (pc := 51) X dX12_isSpotHere_51 q_ic_1 ?_
        refine a_goto (pc := 52) X 56 dX12_isSpotHere_52 rfl ?_
        have h := Option.some.inj h; subst h
        exact a_zret (pc := 56) X x_Z1 x_Z1 dX12_isSpotHere_56
  · have h := x_ifp c_4 h
    refine a_aload_n (pc := 7) X 0 dX12_isSpotHere_7 rfl rfl ?_
    refine a_iconst (pc := 8) X dX12_isSpotHere_8 q_ic_1 ?_
    obtain ⟨y5, e_y5, h⟩ := x_lt_elim h
    refine a_callV (pc := 9) (st2 := [.int y5.1]) (vs2 := [y5.2]) X [(0, 0, 20)] [some y5.2] 0 0 12 [.int (1 : Int32)] [] cv_RX12_72 (c_X12_bad (ad0 := ad0)  e_y5) rfl rfl rfl rfl rfl rfl rfl rfl rfl rfl rfl rfl rfl rfl rfl (Nat.le_of_ble_eq_true rfl) ⟨Nat.le_of_ble_eq_true rfl, Nat.le_of_ble_eq_true rfl⟩ dX12_isSpotHere_9 (fun z_9 => ?_)
    have h := Option.some.inj h; subst h
    exact a_zret (pc := 12) X z_9 z_9 dX12_isSpotHere_12
theorem dX12_readSpotName_0 : decode cX12_readSpotName 0 = .ok (.aload_n 0, 1) := by decide +kernel
theorem dX12_readSpotName_1 : decode cX12_readSpotName 1 = .ok (.invokevirtual 177, 3) := by decide +kernel
theorem dX12_readSpotName_4 : decode cX12_readSpotName 4 = .ok (.ifCond .ne 5, 3) := by decide +kernel
theorem dX12_readSpotName_7 : decode cX12_readSpotName 7 = .ok (.iconst 0, 1) := by decide +kernel
theorem dX12_readSpotName_8 : decode cX12_readSpotName 8 = .ok (.ireturn, 1) := by decide +kernel
theorem dX12_readSpotName_9 : decode cX12_readSpotName 9 = .ok (.aload_n 0, 1) := by decide +kernel
theorem dX12_readSpotName_10 : decode cX12_readSpotName 10 = .ok (.invokevirtual 82, 3) := by decide +kernel
theorem dX12_readSpotName_13 : decode cX12_readSpotName 13 = .ok (.iconst 1, 1) := by decide +kernel
theorem dX12_readSpotName_14 : decode cX12_readSpotName 14 = .ok (.ireturn, 1) := by decide +kernel
def f_X12_readSpotName (v0 : XM) : Option (Int32 × XM) :=
  x_bo (f_X12_isSpotHere v0) (fun y1 =>
  if y1.1 = (0 : Int32) then
  (some ((0 : Int32), y1.2))
  else (x_bo (f_X12_go y1.2) (fun y2 =>
  some ((1 : Int32), y2))))
set_option maxRecDepth 100000 in
set_option maxHeartbeats 4000000 in
theorem c_X12_readSpotName {l : Launch}  {ad0 : Nat → Nat} {v0 : XM}   {o : Int32 × XM} (h : f_X12_readSpotName v0 = some o) : CT l yX12_readSpotName cX12_readSpotName 1 (some .boolean) 4 [(shModel, ad0)] [v0] (fun aK => [.ref (ad0 0)]) (some (.int o.1)) (x_Z o.1) [o.2] := by
  refine CT_of (by decide) (fun _ => Nat.le_of_ble_eq_true rfl) ?_
  intro p e s m args below meth c D tc aK aV A X
  have X : Cx p s m args meth c cX12_readSpotName 1 (some .boolean) RX12 D tc aK aV A [(shModel, ad0)] := X
  show aW p l e (x_Rm 4) s m args below meth c D tc A 1 [(shModel, ad0)] (some (.int o.1)) (x_Z o.1) [o.2] 0 [(0, .ref (ad0 0))] [] [v0]
  unfold f_X12_readSpotName at h
  refine a_aload_n (pc := 0) X 0 dX12_readSpotName_0 rfl rfl ?_
  obtain ⟨y1, e_y1, h⟩ := x_bo_elim h
  refine a_callV (pc := 1) (st2 := [.int y1.1]) (vs2 := [y1.2]) X [(0, 0, 20)] [some y1.2] 0 0 12 [] [] cv_RX12_177 (c_X12_isSpotHere (ad0 := ad0)  e_y1) rfl rfl rfl rfl rfl rfl rfl rfl rfl rfl rfl rfl rfl rfl rfl (Nat.le_of_ble_eq_true rfl) ⟨Nat.le_of_ble_eq_true rfl, Nat.le_of_ble_eq_true rfl⟩ dX12_readSpotName_1 (fun z_1 => ?_)
  refine a_if_ne (pc := 4) X 9 dX12_readSpotName_4 rfl (fun c_4 => ?_) (fun c_4 => ?_)
  · have h := x_ifn c_4 h
    refine a_aload_n (pc := 9) X 0 dX12_readSpotName_9 rfl rfl ?_
    obtain ⟨y2, e_y2, h⟩ := x_bo_elim h
    refine a_callV (pc := 10) (st2 := []) (vs2 := [y2]) X [(0, 0, 20)] [some y2] 0 0 12 [] [] cv_RX12_82 (c_X12_go (ad0 := ad0)  e_y2) rfl rfl rfl rfl rfl rfl rfl rfl rfl rfl rfl rfl rfl rfl rfl (Nat.le_of_ble_eq_true rfl) ⟨Nat.le_of_ble_eq_true rfl, Nat.le_of_ble_eq_true rfl⟩ dX12_readSpotName_10 (fun _ => ?_)
    refine a_iconst (pc := 13) X dX12_readSpotName_13 q_ic_1 ?_
    have h := Option.some.inj h; subst h
    exact a_zret (pc := 14) X x_Z1 x_Z1 dX12_readSpotName_14
  · have h := x_ifp c_4 h
    refine a_iconst (pc := 7) X dX12_readSpotName_7 q_ic_0 ?_
    have h := Option.some.inj h; subst h
    exact a_zret (pc := 8) X x_Z0 x_Z0 dX12_readSpotName_8
theorem dX12_readFirst_0 : decode cX12_readFirst 0 = .ok (.aload_n 0, 1) := by decide +kernel
theorem dX12_readFirst_1 : decode cX12_readFirst 1 = .ok (.getfield 101, 3) := by decide +kernel
theorem dX12_readFirst_4 : decode cX12_readFirst 4 = .ok (.iload_n 1, 1) := by decide +kernel
theorem dX12_readFirst_5 : decode cX12_readFirst 5 = .ok (.iaload, 1) := by decide +kernel
theorem dX12_readFirst_6 : decode cX12_readFirst 6 = .ok (.iload_n 2, 1) := by decide +kernel
theorem dX12_readFirst_7 : decode cX12_readFirst 7 = .ok (.if_icmp .ne 9, 3) := by decide +kernel
theorem dX12_readFirst_10 : decode cX12_readFirst 10 = .ok (.aload_n 0, 1) := by decide +kernel
theorem dX12_readFirst_11 : decode cX12_readFirst 11 = .ok (.iconst 4, 1) := by decide +kernel
theorem dX12_readFirst_12 : decode cX12_readFirst 12 = .ok (.invokevirtual 72, 3) := by decide +kernel
theorem dX12_readFirst_15 : decode cX12_readFirst 15 = .ok (.ireturn, 1) := by decide +kernel
theorem dX12_readFirst_16 : decode cX12_readFirst 16 = .ok (.aload_n 0, 1) := by decide +kernel
theorem dX12_readFirst_17 : decode cX12_readFirst 17 = .ok (.invokevirtual 82, 3) := by decide +kernel
theorem dX12_readFirst_20 : decode cX12_readFirst 20 = .ok (.iconst 1, 1) := by decide +kernel
theorem dX12_readFirst_21 : decode cX12_readFirst 21 = .ok (.ireturn, 1) := by decide +kernel
def f_X12_readFirst (v0 : XM) (x0 : Int32) (x1 : Int32) : Option (Int32 × XM) :=
  x_ck x0 70 (
  if ((x_ga v0 3 x0) : Int32) = x1 then
  (x_lt (f_X12_bad v0 (4 : Int32)) (fun y2 =>
  some (y2.1, y2.2)))
  else (x_bo (f_X12_go v0) (fun y1 =>
  some ((1 : Int32), y1))))
set_option maxRecDepth 100000 in
set_option maxHeartbeats 4000000 in
theorem c_X12_readFirst {l : Launch}  {ad0 : Nat → Nat} {v0 : XM} {x0 : Int32} {x1 : Int32}  {o : Int32 × XM} (h : f_X12_readFirst v0 x0 x1 = some o) : CT l yX12_readFirst cX12_readFirst 3 (some .boolean) 2 [(shModel, ad0)] [v0] (fun aK => [.ref (ad0 0), .int x0, .int x1]) (some (.int o.1)) (x_Z o.1) [o.2] := by
  refine CT_of (by decide) (fun _ => Nat.le_of_ble_eq_true rfl) ?_
  intro p e s m args below meth c D tc aK aV A X
  have X : Cx p s m args meth c cX12_readFirst 3 (some .boolean) RX12 D tc aK aV A [(shModel, ad0)] := X
  show aW p l e (x_Rm 2) s m args below meth c D tc A 3 [(shModel, ad0)] (some (.int o.1)) (x_Z o.1) [o.2] 0 [(0, .ref (ad0 0)), (1, .int x0), (2, .int x1)] [] [v0]
  unfold f_X12_readFirst at h
  refine a_aload_n (pc := 0) X 0 dX12_readFirst_0 rfl rfl ?_
  refine a_getR (pc := 1) X 0 3 3 fl_RX12_101 rfl rfl rfl rfl rfl dX12_readFirst_1 ?_
  refine a_iload_n (pc := 4) X 1 dX12_readFirst_4 rfl rfl ?_
  obtain ⟨c_5, h⟩ := x_ck_elim h
  refine a_iald (pc := 5) X 0 rfl rfl rfl c_5 dX12_readFirst_5 ?_
  refine a_iload_n (pc := 6) X 2 dX12_readFirst_6 rfl rfl ?_
  refine a_icmp_ne (pc := 7) X 16 dX12_readFirst_7 rfl (fun c_7 => ?_) (fun c_7 => ?_)
  · have h := x_ifn c_7 h
    refine a_aload_n (pc := 16) X 0 dX12_readFirst_16 rfl rfl ?_
    obtain ⟨y1, e_y1, h⟩ := x_bo_elim h
    refine a_callV (pc := 17) (st2 := []) (vs2 := [y1]) X [(0, 0, 20)] [some y1] 0 0 12 [] [] cv_RX12_82 (c_X12_go (ad0 := ad0)  e_y1) rfl rfl rfl rfl rfl rfl rfl rfl rfl rfl rfl rfl rfl rfl rfl (Nat.le_of_ble_eq_true rfl) ⟨Nat.le_of_ble_eq_true rfl, Nat.le_of_ble_eq_true rfl⟩ dX12_readFirst_17 (fun _ => ?_)
    refine a_iconst (pc := 20) X dX12_readFirst_20 q_ic_1 ?_
    have h := Option.some.inj h; subst h
    exact a_zret (pc := 21) X x_Z1 x_Z1 dX12_readFirst_21
  · have h := x_ifp c_7 h
    refine a_aload_n (pc := 10) X 0 dX12_readFirst_10 rfl rfl ?_
    refine a_iconst (pc := 11) X dX12_readFirst_11 q_ic_4 ?_
    obtain ⟨y2, e_y2, h⟩ := x_lt_elim h
    refine a_callV (pc := 12) (st2 := [.int y2.1]) (vs2 := [y2.2]) X [(0, 0, 20)] [some y2.2] 0 0 12 [.int (4 : Int32)] [] cv_RX12_72 (c_X12_bad (ad0 := ad0)  e_y2) rfl rfl rfl rfl rfl rfl rfl rfl rfl rfl rfl rfl rfl rfl rfl (Nat.le_of_ble_eq_true rfl) ⟨Nat.le_of_ble_eq_true rfl, Nat.le_of_ble_eq_true rfl⟩ dX12_readFirst_12 (fun z_12 => ?_)
    have h := Option.some.inj h; subst h
    exact a_zret (pc := 15) X z_12 z_12 dX12_readFirst_15
theorem dX12_put_0 : decode cX12_put 0 = .ok (.iload_n 2, 1) := by decide +kernel
theorem dX12_put_1 : decode cX12_put 1 = .ok (.ifCond .eq 13, 3) := by decide +kernel
theorem dX12_put_4 : decode cX12_put 4 = .ok (.aload_n 0, 1) := by decide +kernel
theorem dX12_put_5 : decode cX12_put 5 = .ok (.getfield 101, 3) := by decide +kernel
theorem dX12_put_8 : decode cX12_put 8 = .ok (.iload_n 1, 1) := by decide +kernel
theorem dX12_put_9 : decode cX12_put 9 = .ok (.aload_n 0, 1) := by decide +kernel
theorem dX12_put_10 : decode cX12_put 10 = .ok (.getfield 79, 3) := by decide +kernel
theorem dX12_put_13 : decode cX12_put 13 = .ok (.iastore, 1) := by decide +kernel
theorem dX12_put_14 : decode cX12_put 14 = .ok (.iload_n 2, 1) := by decide +kernel
theorem dX12_put_15 : decode cX12_put 15 = .ok (.ireturn, 1) := by decide +kernel
def f_X12_put (v0 : XM) (x0 : Int32) (x1 : Int32) : Option (Int32 × XM) :=
  if x1 = (0 : Int32) then
  (some (x1, v0))
  else (x_ck x0 70 (
  x_lt (x_pa v0 3 x0 (v0.1 0 13)) (fun m1 =>
  some (x1, m1))))
set_option maxRecDepth 100000 in
set_option maxHeartbeats 4000000 in
theorem c_X12_put {l : Launch}  {ad0 : Nat → Nat} {v0 : XM} {x0 : Int32} {x1 : Int32} (hz1 : x_Z x1) {o : Int32 × XM} (h : f_X12_put v0 x0 x1 = some o) : CT l yX12_put cX12_put 3 (some .boolean) 0 [(shModel, ad0)] [v0] (fun aK => [.ref (ad0 0), .int x0, .int x1]) (some (.int o.1)) (x_Z o.1) [o.2] := by
  refine CT_of (by decide) (fun _ => Nat.le_of_ble_eq_true rfl) ?_
  intro p e s m args below meth c D tc aK aV A X
  have X : Cx p s m args meth c cX12_put 3 (some .boolean) RX12 D tc aK aV A [(shModel, ad0)] := X
  show aW p l e (x_Rm 0) s m args below meth c D tc A 3 [(shModel, ad0)] (some (.int o.1)) (x_Z o.1) [o.2] 0 [(0, .ref (ad0 0)), (1, .int x0), (2, .int x1)] [] [v0]
  unfold f_X12_put at h
  refine a_iload_n (pc := 0) X 2 dX12_put_0 rfl rfl ?_
  refine a_if_eq (pc := 1) X 14 dX12_put_1 rfl (fun c_1 => ?_) (fun c_1 => ?_)
  · have h := x_ifp c_1 h
    refine a_iload_n (pc := 14) X 2 dX12_put_14 rfl rfl ?_
    have h := Option.some.inj h; subst h
    exact a_zret (pc := 15) X hz1 hz1 dX12_put_15
  · have h := x_ifn c_1 h
    refine a_aload_n (pc := 4) X 0 dX12_put_4 rfl rfl ?_
    refine a_getR (pc := 5) X 0 3 3 fl_RX12_101 rfl rfl rfl rfl rfl dX12_put_5 ?_
    refine a_iload_n (pc := 8) X 1 dX12_put_8 rfl rfl ?_
    refine a_aload_n (pc := 9) X 0 dX12_put_9 rfl rfl ?_
    refine a_getI (pc := 10) X 0 fl_RX12_79 rfl rfl rfl rfl dX12_put_10 ?_
    obtain ⟨c_13, h⟩ := x_ck_elim h
    refine a_iast (pc := 13) X 0 rfl rfl rfl c_13 dX12_put_13 ?_
    obtain ⟨m1, e_m1, h⟩ := x_lt_elim h
    refine a_nm (vs2 := [m1]) (congrArg (fun q : XM => [q]) e_m1) ?_
    refine a_iload_n (pc := 14) X 2 dX12_put_14 rfl rfl ?_
    have h := Option.some.inj h; subst h
    exact a_zret (pc := 15) X hz1 hz1 dX12_put_15
theorem dX12_readKind_0 : decode cX12_readKind 0 = .ok (.iconst 3, 1) := by decide +kernel
theorem dX12_readKind_1 : decode cX12_readKind 1 = .ok (.istore_n 1, 1) := by decide +kernel
theorem dX12_readKind_2 : decode cX12_readKind 2 = .ok (.iload_n 1, 1) := by decide +kernel
theorem dX12_readKind_3 : decode cX12_readKind 3 = .ok (.iconst 5, 1) := by decide +kernel
theorem dX12_readKind_4 : decode cX12_readKind 4 = .ok (.if_icmp .gt 17, 3) := by decide +kernel
theorem dX12_readKind_7 : decode cX12_readKind 7 = .ok (.aload_n 0, 1) := by decide +kernel
theorem dX12_readKind_8 : decode cX12_readKind 8 = .ok (.iload_n 1, 1) := by decide +kernel
theorem dX12_readKind_9 : decode cX12_readKind 9 = .ok (.invokevirtual 180, 3) := by decide +kernel
theorem dX12_readKind_12 : decode cX12_readKind 12 = .ok (.ifCond .ne 9, 3) := by decide +kernel
theorem dX12_readKind_15 : decode cX12_readKind 15 = .ok (.iinc 1 1, 3) := by decide +kernel
theorem dX12_readKind_18 : decode cX12_readKind 18 = .ok (.goto (-16), 3) := by decide +kernel
theorem dX12_readKind_21 : decode cX12_readKind 21 = .ok (.iload_n 1, 1) := by decide +kernel
theorem dX12_readKind_22 : decode cX12_readKind 22 = .ok (.iconst 5, 1) := by decide +kernel
theorem dX12_readKind_23 : decode cX12_readKind 23 = .ok (.if_icmp .le 9, 3) := by decide +kernel
theorem dX12_readKind_26 : decode cX12_readKind 26 = .ok (.aload_n 0, 1) := by decide +kernel
theorem dX12_readKind_27 : decode cX12_readKind 27 = .ok (.iconst 1, 1) := by decide +kernel
theorem dX12_readKind_28 : decode cX12_readKind 28 = .ok (.invokevirtual 72, 3) := by decide +kernel
theorem dX12_readKind_31 : decode cX12_readKind 31 = .ok (.ireturn, 1) := by decide +kernel
theorem dX12_readKind_32 : decode cX12_readKind 32 = .ok (.aload_n 0, 1) := by decide +kernel
theorem dX12_readKind_33 : decode cX12_readKind 33 = .ok (.iload_n 1, 1) := by decide +kernel
theorem dX12_readKind_34 : decode cX12_readKind 34 = .ok (.iconst 3, 1) := by decide +kernel
theorem dX12_readKind_35 : decode cX12_readKind 35 = .ok (.isub, 1) := by decide +kernel
theorem dX12_readKind_36 : decode cX12_readKind 36 = .ok (.putfield 79, 3) := by decide +kernel
theorem dX12_readKind_39 : decode cX12_readKind 39 = .ok (.aload_n 0, 1) := by decide +kernel
theorem dX12_readKind_40 : decode cX12_readKind 40 = .ok (.invokevirtual 82, 3) := by decide +kernel
theorem dX12_readKind_43 : decode cX12_readKind 43 = .ok (.iconst 1, 1) := by decide +kernel
theorem dX12_readKind_44 : decode cX12_readKind 44 = .ok (.ireturn, 1) := by decide +kernel
def f_X12_readKind_21 (w0 : XM) (l1 : Int32) : Option (Int32 × XM) :=
  if (l1 : Int32) ≤ (5 : Int32) then
  (x_lt (x_si w0 0 13 (l1 - (3 : Int32))) (fun m1 =>
  x_bo (f_X12_go m1) (fun y2 =>
  some ((1 : Int32), y2))))
  else (x_lt (f_X12_bad w0 (1 : Int32)) (fun y3 =>
  some (y3.1, y3.2)))
def f_X12_readKind_2 (k2 : XM → Int32 → Option (Int32 × XM)) (w0 : XM) (l1 : Int32) : Option (Int32 × XM) :=
  if ((5 : Int32) : Int32) < l1 then
  (f_X12_readKind_21   w0 l1)
  else (x_lt (f_X12_isWord w0 l1) (fun y4 =>
  if y4 = (0 : Int32) then
  (k2 w0 (l1 + 1))
  else (f_X12_readKind_21   w0 l1)))
def f_X12_readKind (v0 : XM) : Option (Int32 × XM) :=
  x_lp (φ := XM → Int32 → Option (Int32 × XM)) (fun _ _ => none) (f_X12_readKind_2  ) x_NN v0 (3 : Int32)
set_option maxRecDepth 100000 in
set_option maxHeartbeats 4000000 in
theorem w_X12_readKind_21 {p : Program} {l : Launch} {e : Env} {s : State} {m : MethodId} {args : Array Value} {below : List Frame} {meth : Method} {c : Code} {D : va_G} {tc : Nat → ClassId} {aK aV : Nat → Nat} {A : Nat → Prop} {ad0 : Nat → Nat}  (X : Cx p s m args meth c cX12_readKind 2 (some .boolean) RX12 D tc aK aV A [(shModel, ad0)])  {o : Int32 × XM}  {w0 : XM} {l1 : Int32}  (h : f_X12_readKind_21   w0 l1 = some o) : aW p l e (x_Rm 3) s m args below meth c D tc A 2 [(shModel, ad0)] (some (.int o.1)) (x_Z o.1) [o.2] 21 [(0, .ref (ad0 0)), (1, .int l1)] [] [w0] := by
  unfold f_X12_readKind_21 at h
  refine a_iload_n (pc := 21) X 1 dX12_readKind_21 rfl rfl ?_
  refine a_iconst (pc := 22) X dX12_readKind_22 q_ic_5 ?_
  refine a_icmp_le (pc := 23) X 32 dX12_readKind_23 rfl (fun c_23 => ?_) (fun c_23 => ?_)
  · have h := x_ifp c_23 h
    refine a_aload_n (pc := 32) X 0 dX12_readKind_32 rfl rfl ?_
    refine a_iload_n (pc := 33) X 1 dX12_readKind_33 rfl rfl ?_
    refine a_iconst (pc := 34) X dX12_readKind_34 q_ic_3 ?_
    refine a_isub (pc := 35) X dX12_readKind_35 ?_
    refine a_putI (pc := 36) X 0 fl_RX12_79 rfl rfl rfl rfl dX12_readKind_36 ?_
    obtain ⟨m1, e_m1, h⟩ := x_lt_elim h
    refine a_nm (vs2 := [m1]) (congrArg (fun q : XM => [q]) e_m1) ?_
    refine a_aload_n (pc := 39) X 0 dX12_readKind_39 rfl rfl ?_
    obtain ⟨y2, e_y2, h⟩ := x_bo_elim h
    refine a_callV (pc := 40) (st2 := []) (vs2 := [y2]) X [(0, 0, 20)] [some y2] 0 0 12 [] [] cv_RX12_82 (c_X12_go (ad0 := ad0)  e_y2) rfl rfl rfl rfl rfl rfl rfl rfl rfl rfl rfl rfl rfl rfl rfl (Nat.le_of_ble_eq_true rfl) ⟨Nat.le_of_ble_eq_true rfl, Nat.le_of_ble_eq_true rfl⟩ dX12_readKind_40 (fun _ => ?_)
    refine a_iconst (pc := 43) X dX12_readKind_43 q_ic_1 ?_
    have h := Option.some.inj h; subst h
    exact a_zret (pc := 44) X x_Z1 x_Z1 dX12_readKind_44
  · have h := x_ifn c_23 h
    refine a_aload_n (pc := 26) X 0 dX12_readKind_26 rfl rfl ?_
    refine a_iconst (pc := 27) X dX12_readKind_27 q_ic_1 ?_
    obtain ⟨y3, e_y3, h⟩ := x_lt_elim h
    refine a_callV (pc := 28) (st2 := [.int y3.1]) (vs2 := [y3.2]) X [(0, 0, 20)] [some y3.2] 0 0 12 [.int (1 : Int32)] [] cv_RX12_72 (c_X12_bad (ad0 := ad0)  e_y3) rfl rfl rfl rfl rfl rfl rfl rfl rfl rfl rfl rfl rfl rfl rfl (Nat.le_of_ble_eq_true rfl) ⟨Nat.le_of_ble_eq_true rfl, Nat.le_of_ble_eq_true rfl⟩ dX12_readKind_28 (fun z_28 => ?_)
    have h := Option.some.inj h; subst h
    exact a_zret (pc := 31) X z_28 z_28 dX12_readKind_31
set_option maxRecDepth 100000 in
set_option maxHeartbeats 4000000 in
theorem w_X12_readKind_2 {p : Program} {l : Launch} {e : Env} {s : State} {m : MethodId} {args : Array Value} {below : List Frame} {meth : Method} {c : Code} {D : va_G} {tc : Nat → ClassId} {aK aV : Nat → Nat} {A : Nat → Prop} {ad0 : Nat → Nat}  (X : Cx p s m args meth c cX12_readKind 2 (some .boolean) RX12 D tc aK aV A [(shModel, ad0)])  {o : Int32 × XM}  : ∀ (n : Nat), ∀ (w0 : XM) (l1 : Int32), x_lp (φ := XM → Int32 → Option (Int32 × XM)) (fun _ _ => none) (f_X12_readKind_2  ) n w0 l1 = some o → aW p l e (x_Rm 3) s m args below meth c D tc A 2 [(shModel, ad0)] (some (.int o.1)) (x_Z o.1) [o.2] 2 [(0, .ref (ad0 0)), (1, .int l1)] [] [w0] := by
  intro n
  induction n with
  | zero => intro w0 l1 h; exact absurd h (fun q => by cases q)
  | succ n ih =>
    intro w0 l1 h
    have h : f_X12_readKind_2   (x_lp (φ := XM → Int32 → Option (Int32 × XM)) (fun _ _ => none) (f_X12_readKind_2  ) n) w0 l1 = some o := h
    generalize x_lp (φ := XM → Int32 → Option (Int32 × XM)) (fun _ _ => none) (f_X12_readKind_2  ) n = k2 at h ih
    have hk2 := ih
    unfold f_X12_readKind_2 at h
    refine a_iload_n (pc := 2) X 1 dX12_readKind_2 rfl rfl ?_
    refine a_iconst (pc := 3) X dX12_readKind_3 q_ic_5 ?_
    refine a_icmp_gt (pc := 4) X 21 dX12_readKind_4 rfl (fun c_4 => ?_) (fun c_4 => ?_)
    · have h := x_ifp c_4 h
      exact w_X12_readKind_21 X     h
    · have h := x_ifn c_4 h
      refine a_aload_n (pc := 7) X 0 dX12_readKind_7 rfl rfl ?_
      refine a_iload_n (pc := 8) X 1 dX12_readKind_8 rfl rfl ?_
      obtain ⟨y4, e_y4, h⟩ := x_lt_elim h
      refine a_callV (pc := 9) (st2 := [.int y4]) (vs2 := [w0]) X [(0, 0, 20)] [none] 0 0 12 [.int l1] [] cv_RX12_180 (c_X12_isWord (ad0 := ad0)  e_y4) rfl rfl rfl rfl rfl rfl rfl rfl rfl rfl rfl rfl rfl rfl rfl (Nat.le_of_ble_eq_true rfl) ⟨Nat.le_of_ble_eq_true rfl, Nat.le_of_ble_eq_true rfl⟩ dX12_readKind_9 (fun z_9 => ?_)
      refine a_if_ne (pc := 12) X 21 dX12_readKind_12 rfl (fun c_12 => ?_) (fun c_12 => ?_)
      · have h := x_ifn c_12 h
        exact w_X12_readKind_21 X     h
      · have h := x_ifp c_12 h
        refine a_iinc (pc := 15) X 1 [(1, .int (l1 + 1)), (0, .ref (ad0 0))] dX12_readKind_15 rfl (congrArg (HAdd.hAdd l1) q_ic_1) (by decide) rfl ?_
        refine a_goto (pc := 18) X 2 dX12_readKind_18 rfl ?_
        refine a_sub [1, 0] rfl ?_
        exact hk2 _ _ h
set_option maxRecDepth 100000 in
set_option maxHeartbeats 4000000 in
theorem c_X12_readKind {l : Launch}  {ad0 : Nat → Nat} {v0 : XM}   {o : Int32 × XM} (h : f_X12_readKind v0 = some o) : CT l yX12_readKind cX12_readKind 2 (some .boolean) 3 [(shModel, ad0)] [v0] (fun aK => [.ref (ad0 0)]) (some (.int o.1)) (x_Z o.1) [o.2] := by
  refine CT_of (by decide) (fun _ => Nat.le_of_ble_eq_true rfl) ?_
  intro p e s m args below meth c D tc aK aV A X
  have X : Cx p s m args meth c cX12_readKind 2 (some .boolean) RX12 D tc aK aV A [(shModel, ad0)] := X
  show aW p l e (x_Rm 3) s m args below meth c D tc A 2 [(shModel, ad0)] (some (.int o.1)) (x_Z o.1) [o.2] 0 [(0, .ref (ad0 0))] [] [v0]
  unfold f_X12_readKind at h
  refine a_iconst (pc := 0) X dX12_readKind_0 q_ic_3 ?_
  refine a_istore_n (pc := 1) X [(1, .int (3 : Int32)), (0, .ref (ad0 0))] dX12_readKind_1 rfl (by decide) rfl ?_
  refine a_sub [1, 0] rfl ?_
  exact w_X12_readKind_2 X    x_NN _ _ h
theorem dX12_readSpot_0 : decode cX12_readSpot 0 = .ok (.aload_n 0, 1) := by decide +kernel
theorem dX12_readSpot_1 : decode cX12_readSpot 1 = .ok (.iconst 0, 1) := by decide +kernel
theorem dX12_readSpot_2 : decode cX12_readSpot 2 = .ok (.bipush 8, 2) := by decide +kernel
theorem dX12_readSpot_4 : decode cX12_readSpot 4 = .ok (.invokevirtual 183, 3) := by decide +kernel
theorem dX12_readSpot_7 : decode cX12_readSpot 7 = .ok (.ifCond .eq 16, 3) := by decide +kernel
theorem dX12_readSpot_10 : decode cX12_readSpot 10 = .ok (.aload_n 0, 1) := by decide +kernel
theorem dX12_readSpot_11 : decode cX12_readSpot 11 = .ok (.aload_n 0, 1) := by decide +kernel
theorem dX12_readSpot_12 : decode cX12_readSpot 12 = .ok (.getfield 101, 3) := by decide +kernel
theorem dX12_readSpot_15 : decode cX12_readSpot 15 = .ok (.iconst 0, 1) := by decide +kernel
theorem dX12_readSpot_16 : decode cX12_readSpot 16 = .ok (.iaload, 1) := by decide +kernel
theorem dX12_readSpot_17 : decode cX12_readSpot 17 = .ok (.invokevirtual 187, 3) := by decide +kernel
theorem dX12_readSpot_20 : decode cX12_readSpot 20 = .ok (.ifCond .ne 5, 3) := by decide +kernel
theorem dX12_readSpot_23 : decode cX12_readSpot 23 = .ok (.iconst 0, 1) := by decide +kernel
theorem dX12_readSpot_24 : decode cX12_readSpot 24 = .ok (.ireturn, 1) := by decide +kernel
theorem dX12_readSpot_25 : decode cX12_readSpot 25 = .ok (.aload_n 0, 1) := by decide +kernel
theorem dX12_readSpot_26 : decode cX12_readSpot 26 = .ok (.iconst 1, 1) := by decide +kernel
theorem dX12_readSpot_27 : decode cX12_readSpot 27 = .ok (.invokevirtual 180, 3) := by decide +kernel
theorem dX12_readSpot_30 : decode cX12_readSpot 30 = .ok (.ifCond .eq 24, 3) := by decide +kernel
theorem dX12_readSpot_33 : decode cX12_readSpot 33 = .ok (.aload_n 0, 1) := by decide +kernel
theorem dX12_readSpot_34 : decode cX12_readSpot 34 = .ok (.getfield 101, 3) := by decide +kernel
theorem dX12_readSpot_37 : decode cX12_readSpot 37 = .ok (.iconst 5, 1) := by decide +kernel
theorem dX12_readSpot_38 : decode cX12_readSpot 38 = .ok (.dup2, 1) := by decide +kernel
theorem dX12_readSpot_39 : decode cX12_readSpot 39 = .ok (.iaload, 1) := by decide +kernel
theorem dX12_readSpot_40 : decode cX12_readSpot 40 = .ok (.iconst 1, 1) := by decide +kernel
theorem dX12_readSpot_41 : decode cX12_readSpot 41 = .ok (.aload_n 0, 1) := by decide +kernel
theorem dX12_readSpot_42 : decode cX12_readSpot 42 = .ok (.getfield 101, 3) := by decide +kernel
theorem dX12_readSpot_45 : decode cX12_readSpot 45 = .ok (.iconst 0, 1) := by decide +kernel
theorem dX12_readSpot_46 : decode cX12_readSpot 46 = .ok (.iaload, 1) := by decide +kernel
theorem dX12_readSpot_47 : decode cX12_readSpot 47 = .ok (.ishl, 1) := by decide +kernel
theorem dX12_readSpot_48 : decode cX12_readSpot 48 = .ok (.ior, 1) := by decide +kernel
theorem dX12_readSpot_49 : decode cX12_readSpot 49 = .ok (.iastore, 1) := by decide +kernel
theorem dX12_readSpot_50 : decode cX12_readSpot 50 = .ok (.aload_n 0, 1) := by decide +kernel
theorem dX12_readSpot_51 : decode cX12_readSpot 51 = .ok (.invokevirtual 82, 3) := by decide +kernel
theorem dX12_readSpot_54 : decode cX12_readSpot 54 = .ok (.aload_n 0, 1) := by decide +kernel
theorem dX12_readSpot_55 : decode cX12_readSpot 55 = .ok (.getfield 101, 3) := by decide +kernel
theorem dX12_readSpot_58 : decode cX12_readSpot 58 = .ok (.iconst 0, 1) := by decide +kernel
theorem dX12_readSpot_59 : decode cX12_readSpot 59 = .ok (.dup2, 1) := by decide +kernel
theorem dX12_readSpot_60 : decode cX12_readSpot 60 = .ok (.iaload, 1) := by decide +kernel
theorem dX12_readSpot_61 : decode cX12_readSpot 61 = .ok (.iconst 1, 1) := by decide +kernel
theorem dX12_readSpot_62 : decode cX12_readSpot 62 = .ok (.iadd, 1) := by decide +kernel
theorem dX12_readSpot_63 : decode cX12_readSpot 63 = .ok (.iastore, 1) := by decide +kernel
theorem dX12_readSpot_64 : decode cX12_readSpot 64 = .ok (.iconst 1, 1) := by decide +kernel
theorem dX12_readSpot_65 : decode cX12_readSpot 65 = .ok (.ireturn, 1) := by decide +kernel
def f_X12_readSpot_54 (w0 : XM) : Option (Int32 × XM) :=
  x_lt (x_pa w0 3 (0 : Int32) ((x_ga w0 3 (0 : Int32)) + (1 : Int32))) (fun m1 =>
  some ((1 : Int32), m1))
def f_X12_readSpot (v0 : XM) : Option (Int32 × XM) :=
  x_bo (f_X12_readFirst v0 (0 : Int32) (8 : Int32)) (fun y2 =>
  if y2.1 = (0 : Int32) then
  (some ((0 : Int32), y2.2))
  else (x_bo (f_X12_readNew y2.2 (x_ga y2.2 3 (0 : Int32))) (fun y3 =>
  if y3.1 = (0 : Int32) then
  (some ((0 : Int32), y3.2))
  else (x_lt (f_X12_isWord y3.2 (1 : Int32)) (fun y4 =>
  if y4 = (0 : Int32) then
  (f_X12_readSpot_54   y3.2)
  else (x_lt ((1 : Int32) <<< ((x_ga y3.2 3 (0 : Int32)) &&& 31)) (fun y5 =>
  x_lt (x_pa y3.2 3 (5 : Int32) ((x_ga y3.2 3 (5 : Int32)) ||| y5)) (fun m6 =>
  x_bo (f_X12_go m6) (fun y7 =>
  f_X12_readSpot_54   y7)))))))))
set_option maxRecDepth 100000 in
set_option maxHeartbeats 4000000 in
theorem w_X12_readSpot_54 {p : Program} {l : Launch} {e : Env} {s : State} {m : MethodId} {args : Array Value} {below : List Frame} {meth : Method} {c : Code} {D : va_G} {tc : Nat → ClassId} {aK aV : Nat → Nat} {A : Nat → Prop} {ad0 : Nat → Nat}  (X : Cx p s m args meth c cX12_readSpot 1 (some .boolean) RX12 D tc aK aV A [(shModel, ad0)])  {o : Int32 × XM}  {w0 : XM}  (h : f_X12_readSpot_54   w0 = some o) : aW p l e (x_Rm 4) s m args below meth c D tc A 1 [(shModel, ad0)] (some (.int o.1)) (x_Z o.1) [o.2] 54 [(0, .ref (ad0 0))] [] [w0] := by
  unfold f_X12_readSpot_54 at h
  refine a_aload_n (pc := 54) X 0 dX12_readSpot_54 rfl rfl ?_
  refine a_getR (pc := 55) X 0 3 3 fl_RX12_101 rfl rfl rfl rfl rfl dX12_readSpot_55 ?_
  refine a_iconst (pc := 58) X dX12_readSpot_58 q_ic_0 ?_
  refine a_dup2 (pc := 59) X dX12_readSpot_59 rfl rfl ?_
  refine a_iald (pc := 60) X 0 rfl rfl rfl (x_inl (by decide)) dX12_readSpot_60 ?_
  refine a_iconst (pc := 61) X dX12_readSpot_61 q_ic_1 ?_
  refine a_iadd (pc := 62) X dX12_readSpot_62 ?_
  refine a_iast (pc := 63) X 0 rfl rfl rfl (x_inl (by decide)) dX12_readSpot_63 ?_
  obtain ⟨m1, e_m1, h⟩ := x_lt_elim h
  refine a_nm (vs2 := [m1]) (congrArg (fun q : XM => [q]) e_m1) ?_
  refine a_iconst (pc := 64) X dX12_readSpot_64 q_ic_1 ?_
  have h := Option.some.inj h; subst h
  exact a_zret (pc := 65) X x_Z1 x_Z1 dX12_readSpot_65
set_option maxRecDepth 100000 in
set_option maxHeartbeats 4000000 in
theorem c_X12_readSpot {l : Launch}  {ad0 : Nat → Nat} {v0 : XM}   {o : Int32 × XM} (h : f_X12_readSpot v0 = some o) : CT l yX12_readSpot cX12_readSpot 1 (some .boolean) 4 [(shModel, ad0)] [v0] (fun aK => [.ref (ad0 0)]) (some (.int o.1)) (x_Z o.1) [o.2] := by
  refine CT_of (by decide) (fun _ => Nat.le_of_ble_eq_true rfl) ?_
  intro p e s m args below meth c D tc aK aV A X
  have X : Cx p s m args meth c cX12_readSpot 1 (some .boolean) RX12 D tc aK aV A [(shModel, ad0)] := X
  show aW p l e (x_Rm 4) s m args below meth c D tc A 1 [(shModel, ad0)] (some (.int o.1)) (x_Z o.1) [o.2] 0 [(0, .ref (ad0 0))] [] [v0]
  unfold f_X12_readSpot at h
  refine a_aload_n (pc := 0) X 0 dX12_readSpot_0 rfl rfl ?_
  refine a_iconst (pc := 1) X dX12_readSpot_1 q_ic_0 ?_
  refine a_bipush (pc := 2) X dX12_readSpot_2 q_bp_8 ?_
  obtain ⟨y2, e_y2, h⟩ := x_bo_elim h
  refine a_callV (pc := 4) (st2 := [.int y2.1]) (vs2 := [y2.2]) X [(0, 0, 20)] [some y2.2] 0 0 12 [.int (0 : Int32), .int (8 : Int32)] [] cv_RX12_183 (c_X12_readFirst (ad0 := ad0)  e_y2) rfl rfl rfl rfl rfl rfl rfl rfl rfl rfl rfl rfl rfl rfl rfl (Nat.le_of_ble_eq_true rfl) ⟨Nat.le_of_ble_eq_true rfl, Nat.le_of_ble_eq_true rfl⟩ dX12_readSpot_4 (fun z_4 => ?_)
  refine a_if_eq (pc := 7) X 23 dX12_readSpot_7 rfl (fun c_7 => ?_) (fun c_7 => ?_)
  · have h := x_ifp c_7 h
    refine a_iconst (pc := 23) X dX12_readSpot_23 q_ic_0 ?_
    have h := Option.some.inj h; subst h
    exact a_zret (pc := 24) X x_Z0 x_Z0 dX12_readSpot_24
  · have h := x_ifn c_7 h
    refine a_aload_n (pc := 10) X 0 dX12_readSpot_10 rfl rfl ?_
    refine a_aload_n (pc := 11) X 0 dX12_readSpot_11 rfl rfl ?_
    refine a_getR (pc := 12) X 0 3 3 fl_RX12_101 rfl rfl rfl rfl rfl dX12_readSpot_12 ?_
    refine a_iconst (pc := 15) X dX12_readSpot_15 q_ic_0 ?_
    refine a_iald (pc := 16) X 0 rfl rfl rfl (x_inl (by decide)) dX12_readSpot_16 ?_
    obtain ⟨y3, e_y3, h⟩ := x_bo_elim h
    refine a_callV (pc := 17) (st2 := [.int y3.1]) (vs2 := [y3.2]) X [(0, 0, 20)] [some y3.2] 0 0 12 [.int (x_ga y2.2 3 (0 : Int32))] [] cv_RX12_187 (c_X12_readNew (ad0 := ad0)  e_y3) rfl rfl rfl rfl rfl rfl rfl rfl rfl rfl rfl rfl rfl rfl rfl (Nat.le_of_ble_eq_true rfl) ⟨Nat.le_of_ble_eq_true rfl, Nat.le_of_ble_eq_true rfl⟩ dX12_readSpot_17 (fun z_17 => ?_)
    refine a_if_ne (pc := 20) X 25 dX12_readSpot_20 rfl (fun c_20 => ?_) (fun c_20 => ?_)
    · have h := x_ifn c_20 h
      refine a_aload_n (pc := 25) X 0 dX12_readSpot_25 rfl rfl ?_
      refine a_iconst (pc := 26) X dX12_readSpot_26 q_ic_1 ?_
      obtain ⟨y4, e_y4, h⟩ := x_lt_elim h
      refine a_callV (pc := 27) (st2 := [.int y4]) (vs2 := [y3.2]) X [(0, 0, 20)] [none] 0 0 12 [.int (1 : Int32)] [] cv_RX12_180 (c_X12_isWord (ad0 := ad0)  e_y4) rfl rfl rfl rfl rfl rfl rfl rfl rfl rfl rfl rfl rfl rfl rfl (Nat.le_of_ble_eq_true rfl) ⟨Nat.le_of_ble_eq_true rfl, Nat.le_of_ble_eq_true rfl⟩ dX12_readSpot_27 (fun z_27 => ?_)
      refine a_if_eq (pc := 30) X 54 dX12_readSpot_30 rfl (fun c_30 => ?_) (fun c_30 => ?_)
      · have h := x_ifp c_30 h
        exact w_X12_readSpot_54 X     h
      · have h := x_ifn c_30 h
        refine a_aload_n (pc := 33) X 0 dX12_readSpot_33 rfl rfl ?_
        refine a_getR (pc := 34) X 0 3 3 fl_RX12_101 rfl rfl rfl rfl rfl dX12_readSpot_34 ?_
        refine a_iconst (pc := 37) X dX12_readSpot_37 q_ic_5 ?_
        refine a_dup2 (pc := 38) X dX12_readSpot_38 rfl rfl ?_
        refine a_iald (pc := 39) X 0 rfl rfl rfl (x_inl (by decide)) dX12_readSpot_39 ?_
        refine a_iconst (pc := 40) X dX12_readSpot_40 q_ic_1 ?_
        refine a_aload_n (pc := 41) X 0 dX12_readSpot_41 rfl rfl ?_
        refine a_getR (pc := 42) X 0 3 3 fl_RX12_101 rfl rfl rfl rfl rfl dX12_readSpot_42 ?_
        refine a_iconst (pc := 45) X dX12_readSpot_45 q_ic_0 ?_
        refine a_iald (pc := 46) X 0 rfl rfl rfl (x_inl (by decide)) dX12_readSpot_46 ?_
        refine a_ishl (pc := 47) X dX12_readSpot_47 ?_
        obtain ⟨y5, e_y5, h⟩ := x_lt_elim h
        refine a_ni e_y5 ?_
        refine a_ior (pc := 48) X dX12_readSpot_48 ?_
        refine a_iast (pc := 49) X 0 rfl rfl rfl (x_inl (by decide)) dX12_readSpot_49 ?_
        obtain ⟨m6, e_m6, h⟩ := x_lt_elim h
        refine a_nm (vs2 := [m6]) (congrArg (fun q : XM => [q]) e_m6) ?_
        refine a_aload_n (pc := 50) X 0 dX12_readSpot_50 rfl rfl ?_
        obtain ⟨y7, e_y7, h⟩ := x_bo_elim h
        refine a_callV (pc := 51) (st2 := []) (vs2 := [y7]) X [(0, 0, 20)] [some y7] 0 0 12 [] [] cv_RX12_82 (c_X12_go (ad0 := ad0)  e_y7) rfl rfl rfl rfl rfl rfl rfl rfl rfl rfl rfl rfl rfl rfl rfl (Nat.le_of_ble_eq_true rfl) ⟨Nat.le_of_ble_eq_true rfl, Nat.le_of_ble_eq_true rfl⟩ dX12_readSpot_51 (fun _ => ?_)
        exact w_X12_readSpot_54 X     h
    · have h := x_ifp c_20 h
      refine a_iconst (pc := 23) X dX12_readSpot_23 q_ic_0 ?_
      have h := Option.some.inj h; subst h
      exact a_zret (pc := 24) X x_Z0 x_Z0 dX12_readSpot_24
theorem dX12_isLaid_0 : decode cX12_isLaid 0 = .ok (.iconst 0, 1) := by decide +kernel
theorem dX12_isLaid_1 : decode cX12_isLaid 1 = .ok (.istore_n 3, 1) := by decide +kernel
theorem dX12_isLaid_2 : decode cX12_isLaid 2 = .ok (.iload_n 3, 1) := by decide +kernel
theorem dX12_isLaid_3 : decode cX12_isLaid 3 = .ok (.aload_n 0, 1) := by decide +kernel
theorem dX12_isLaid_4 : decode cX12_isLaid 4 = .ok (.getfield 101, 3) := by decide +kernel
theorem dX12_isLaid_7 : decode cX12_isLaid 7 = .ok (.iconst 1, 1) := by decide +kernel
theorem dX12_isLaid_8 : decode cX12_isLaid 8 = .ok (.iaload, 1) := by decide +kernel
theorem dX12_isLaid_9 : decode cX12_isLaid 9 = .ok (.if_icmp .ge 63, 3) := by decide +kernel
theorem dX12_isLaid_12 : decode cX12_isLaid 12 = .ok (.aload_n 0, 1) := by decide +kernel
theorem dX12_isLaid_13 : decode cX12_isLaid 13 = .ok (.getfield 101, 3) := by decide +kernel
theorem dX12_isLaid_16 : decode cX12_isLaid 16 = .ok (.bipush 6, 2) := by decide +kernel
theorem dX12_isLaid_18 : decode cX12_isLaid 18 = .ok (.iload_n 3, 1) := by decide +kernel
theorem dX12_isLaid_19 : decode cX12_isLaid 19 = .ok (.iadd, 1) := by decide +kernel
theorem dX12_isLaid_20 : decode cX12_isLaid 20 = .ok (.iaload, 1) := by decide +kernel
theorem dX12_isLaid_21 : decode cX12_isLaid 21 = .ok (.iload_n 1, 1) := by decide +kernel
theorem dX12_isLaid_22 : decode cX12_isLaid 22 = .ok (.if_icmp .ne 16, 3) := by decide +kernel
theorem dX12_isLaid_25 : decode cX12_isLaid 25 = .ok (.aload_n 0, 1) := by decide +kernel
theorem dX12_isLaid_26 : decode cX12_isLaid 26 = .ok (.getfield 101, 3) := by decide +kernel
theorem dX12_isLaid_29 : decode cX12_isLaid 29 = .ok (.bipush 18, 2) := by decide +kernel
theorem dX12_isLaid_31 : decode cX12_isLaid 31 = .ok (.iload_n 3, 1) := by decide +kernel
theorem dX12_isLaid_32 : decode cX12_isLaid 32 = .ok (.iadd, 1) := by decide +kernel
theorem dX12_isLaid_33 : decode cX12_isLaid 33 = .ok (.iaload, 1) := by decide +kernel
theorem dX12_isLaid_34 : decode cX12_isLaid 34 = .ok (.iload_n 2, 1) := by decide +kernel
theorem dX12_isLaid_35 : decode cX12_isLaid 35 = .ok (.if_icmp .eq 29, 3) := by decide +kernel
theorem dX12_isLaid_38 : decode cX12_isLaid 38 = .ok (.aload_n 0, 1) := by decide +kernel
theorem dX12_isLaid_39 : decode cX12_isLaid 39 = .ok (.getfield 101, 3) := by decide +kernel
theorem dX12_isLaid_42 : decode cX12_isLaid 42 = .ok (.bipush 6, 2) := by decide +kernel
theorem dX12_isLaid_44 : decode cX12_isLaid 44 = .ok (.iload_n 3, 1) := by decide +kernel
theorem dX12_isLaid_45 : decode cX12_isLaid 45 = .ok (.iadd, 1) := by decide +kernel
theorem dX12_isLaid_46 : decode cX12_isLaid 46 = .ok (.iaload, 1) := by decide +kernel
theorem dX12_isLaid_47 : decode cX12_isLaid 47 = .ok (.iload_n 2, 1) := by decide +kernel
theorem dX12_isLaid_48 : decode cX12_isLaid 48 = .ok (.if_icmp .ne 18, 3) := by decide +kernel
theorem dX12_isLaid_51 : decode cX12_isLaid 51 = .ok (.aload_n 0, 1) := by decide +kernel
theorem dX12_isLaid_52 : decode cX12_isLaid 52 = .ok (.getfield 101, 3) := by decide +kernel
theorem dX12_isLaid_55 : decode cX12_isLaid 55 = .ok (.bipush 18, 2) := by decide +kernel
theorem dX12_isLaid_57 : decode cX12_isLaid 57 = .ok (.iload_n 3, 1) := by decide +kernel
theorem dX12_isLaid_58 : decode cX12_isLaid 58 = .ok (.iadd, 1) := by decide +kernel
theorem dX12_isLaid_59 : decode cX12_isLaid 59 = .ok (.iaload, 1) := by decide +kernel
theorem dX12_isLaid_60 : decode cX12_isLaid 60 = .ok (.iload_n 1, 1) := by decide +kernel
theorem dX12_isLaid_61 : decode cX12_isLaid 61 = .ok (.if_icmp .ne 5, 3) := by decide +kernel
theorem dX12_isLaid_64 : decode cX12_isLaid 64 = .ok (.iconst 1, 1) := by decide +kernel
theorem dX12_isLaid_65 : decode cX12_isLaid 65 = .ok (.ireturn, 1) := by decide +kernel
theorem dX12_isLaid_66 : decode cX12_isLaid 66 = .ok (.iinc 3 1, 3) := by decide +kernel
theorem dX12_isLaid_69 : decode cX12_isLaid 69 = .ok (.goto (-67), 3) := by decide +kernel
theorem dX12_isLaid_72 : decode cX12_isLaid 72 = .ok (.iconst 0, 1) := by decide +kernel
theorem dX12_isLaid_73 : decode cX12_isLaid 73 = .ok (.ireturn, 1) := by decide +kernel
def f_X12_isLaid_66 (v0 : XM) (k2 : Int32 → Int32 → Int32 → Option (Int32)) (l1 : Int32) (l2 : Int32) (l3 : Int32) : Option (Int32) :=
  k2 l1 l2 (l3 + 1)
def f_X12_isLaid_38 (v0 : XM) (k2 : Int32 → Int32 → Int32 → Option (Int32)) (l1 : Int32) (l2 : Int32) (l3 : Int32) : Option (Int32) :=
  x_ck ((6 : Int32) + l3) 70 (
  if ((x_ga v0 3 ((6 : Int32) + l3)) : Int32) = l2 then
  (x_ck ((18 : Int32) + l3) 70 (
  if ((x_ga v0 3 ((18 : Int32) + l3)) : Int32) = l1 then
  (some ((1 : Int32) : Int32))
  else (f_X12_isLaid_66 v0 k2 l1 l2 l3)))
  else (f_X12_isLaid_66 v0 k2 l1 l2 l3))
def f_X12_isLaid_2 (v0 : XM) (k2 : Int32 → Int32 → Int32 → Option (Int32)) (l1 : Int32) (l2 : Int32) (l3 : Int32) : Option (Int32) :=
  if ((x_ga v0 3 (1 : Int32)) : Int32) ≤ l3 then
  (some ((0 : Int32) : Int32))
  else (x_ck ((6 : Int32) + l3) 70 (
  if ((x_ga v0 3 ((6 : Int32) + l3)) : Int32) = l1 then
  (x_ck ((18 : Int32) + l3) 70 (
  if ((x_ga v0 3 ((18 : Int32) + l3)) : Int32) = l2 then
  (some ((1 : Int32) : Int32))
  else (f_X12_isLaid_38 v0 k2 l1 l2 l3)))
  else (f_X12_isLaid_38 v0 k2 l1 l2 l3)))
def f_X12_isLaid (v0 : XM) (x0 : Int32) (x1 : Int32) : Option (Int32) :=
  x_lp (φ := Int32 → Int32 → Int32 → Option (Int32)) (fun _ _ _ => none) (f_X12_isLaid_2 v0 ) x_NN x0 x1 (0 : Int32)
set_option maxRecDepth 100000 in
set_option maxHeartbeats 4000000 in
theorem w_X12_isLaid_66 {p : Program} {l : Launch} {e : Env} {s : State} {m : MethodId} {args : Array Value} {below : List Frame} {meth : Method} {c : Code} {D : va_G} {tc : Nat → ClassId} {aK aV : Nat → Nat} {A : Nat → Prop} {ad0 : Nat → Nat} {v0 : XM} (X : Cx p s m args meth c cX12_isLaid 4 (some .boolean) RX12 D tc aK aV A [(shModel, ad0)])  {o : Int32} {k2 : Int32 → Int32 → Int32 → Option (Int32)} (hk2 : ∀ (l1 : Int32) (l2 : Int32) (l3 : Int32), k2 l1 l2 l3 = some o → aW p l e (x_Rm 0) s m args below meth c D tc A 4 [(shModel, ad0)] (some (.int o)) (x_Z o) [v0] 2 [(0, .ref (ad0 0)), (1, .int l1), (2, .int l2), (3, .int l3)] [] [v0]) {l1 : Int32} {l2 : Int32} {l3 : Int32}  (h : f_X12_isLaid_66 v0 k2 l1 l2 l3 = some o) : aW p l e (x_Rm 0) s m args below meth c D tc A 4 [(shModel, ad0)] (some (.int o)) (x_Z o) [v0] 66 [(0, .ref (ad0 0)), (1, .int l1), (2, .int l2), (3, .int l3)] [] [v0] := by
  unfold f_X12_isLaid_66 at h
  refine a_iinc (pc := 66) X 3 [(3, .int (l3 + 1)), (0, .ref (ad0 0)), (1, .int l1), (2, .int l2)] dX12_isLaid_66 rfl (congrArg (HAdd.hAdd l3) q_ic_1) (by decide) rfl ?_
  refine a_goto (pc := 69) X 2 dX12_isLaid_69 rfl ?_
  refine a_sub [1, 2, 3, 0] rfl ?_
  exact hk2 _ _ _ h
set_option maxRecDepth 100000 in
set_option maxHeartbeats 4000000 in
theorem w_X12_isLaid_38 {p : Program} {l : Launch} {e : Env} {s : State} {m : MethodId} {args : Array Value} {below : List Frame} {meth : Method} {c : Code} {D : va_G} {tc : Nat → ClassId} {aK aV : Nat → Nat} {A : Nat → Prop} {ad0 : Nat → Nat} {v0 : XM} (X : Cx p s m args meth c cX12_isLaid 4 (some .boolean) RX12 D tc aK aV A [(shModel, ad0)])  {o : Int32} {k2 : Int32 → Int32 → Int32 → Option (Int32)} (hk2 : ∀ (l1 : Int32) (l2 : Int32) (l3 : Int32), k2 l1 l2 l3 = some o → aW p l e (x_Rm 0) s m args below meth c D tc A 4 [(shModel, ad0)] (some (.int o)) (x_Z o) [v0] 2 [(0, .ref (ad0 0)), (1, .int l1), (2, .int l2), (3, .int l3)] [] [v0]) {l1 : Int32} {l2 : Int32} {l3 : Int32}  (h : f_X12_isLaid_38 v0 k2 l1 l2 l3 = some o) : aW p l e (x_Rm 0) s m args below meth c D tc A 4 [(shModel, ad0)] (some (.int o)) (x_Z o) [v0] 38 [(0, .ref (ad0 0)), (1, .int l1), (2, .int l2), (3, .int l3)] [] [v0] := by
  unfold f_X12_isLaid_38 at h
  refine a_aload_n (pc := 38) X 0 dX12_isLaid_38 rfl rfl ?_
  refine a_getR (pc := 39) X 0 3 3 fl_RX12_101 rfl rfl rfl rfl rfl dX12_isLaid_39 ?_
  refine a_bipush (pc := 42) X dX12_isLaid_42 q_bp_6 ?_
  refine a_iload_n (pc := 44) X 3 dX12_isLaid_44 rfl rfl ?_
  refine a_iadd (pc := 45) X dX12_isLaid_45 ?_
  obtain ⟨c_46, h⟩ := x_ck_elim h
  refine a_iald (pc := 46) X 0 rfl rfl rfl c_46 dX12_isLaid_46 ?_
  refine a_iload_n (pc := 47) X 2 dX12_isLaid_47 rfl rfl ?_
  refine a_icmp_ne (pc := 48) X 66 dX12_isLaid_48 rfl (fun c_48 => ?_) (fun c_48 => ?_)
  · have h := x_ifn c_48 h
    exact w_X12_isLaid_66 X   hk2  h
  · have h := x_ifp c_48 h
    refine a_aload_n (pc := 51) X 0 dX12_isLaid_51 rfl rfl ?_
    refine a_getR (pc := 52) X 0 3 3 fl_RX12_101 rfl rfl rfl rfl rfl dX12_isLaid_52 ?_
    refine a_bipush (pc := 55) X dX12_isLaid_55 q_bp_18 ?_
    refine a_iload_n (pc := 57) X 3 dX12_isLaid_57 rfl rfl ?_
    refine a_iadd (pc := 58) X dX12_isLaid_58 ?_
    obtain ⟨c_59, h⟩ := x_ck_elim h
    refine a_iald (pc := 59) X 0 rfl rfl rfl c_59 dX12_isLaid_59 ?_
    refine a_iload_n (pc := 60) X 1 dX12_isLaid_60 rfl rfl ?_
    refine a_icmp_ne (pc := 61) X 66 dX12_isLaid_61 rfl (fun c_61 => ?_) (fun c_61 => ?_)
    · have h := x_ifn c_61 h
      exact w_X12_isLaid_66 X   hk2  h
    · have h := x_ifp c_61 h
      refine a_iconst (pc := 64) X dX12_isLaid_64 q_ic_1 ?_
      have h := Option.some.inj h; subst h
      exact a_zret (pc := 65) X x_Z1 x_Z1 dX12_isLaid_65
set_option maxRecDepth 100000 in
set_option maxHeartbeats 4000000 in
theorem w_X12_isLaid_2 {p : Program} {l : Launch} {e : Env} {s : State} {m : MethodId} {args : Array Value} {below : List Frame} {meth : Method} {c : Code} {D : va_G} {tc : Nat → ClassId} {aK aV : Nat → Nat} {A : Nat → Prop} {ad0 : Nat → Nat} {v0 : XM} (X : Cx p s m args meth c cX12_isLaid 4 (some .boolean) RX12 D tc aK aV A [(shModel, ad0)])  {o : Int32}  : ∀ (n : Nat), ∀ (l1 : Int32) (l2 : Int32) (l3 : Int32), x_lp (φ := Int32 → Int32 → Int32 → Option (Int32)) (fun _ _ _ => none) (f_X12_isLaid_2 v0 ) n l1 l2 l3 = some o → aW p l e (x_Rm 0) s m args below meth c D tc A 4 [(shModel, ad0)] (some (.int o)) (x_Z o) [v0] 2 [(0, .ref (ad0 0)), (1, .int l1), (2, .int l2), (3, .int l3)] [] [v0] := by
  intro n
  induction n with
  | zero => intro l1 l2 l3 h; exact absurd h (fun q => by cases q)
  | succ n ih =>
    intro l1 l2 l3 h
    have h : f_X12_isLaid_2 v0  (x_lp (φ := Int32 → Int32 → Int32 → Option (Int32)) (fun _ _ _ => none) (f_X12_isLaid_2 v0 ) n) l1 l2 l3 = some o := h
    generalize x_lp (φ := Int32 → Int32 → Int32 → Option (Int32)) (fun _ _ _ => none) (f_X12_isLaid_2 v0 ) n = k2 at h ih
    have hk2 := ih
    unfold f_X12_isLaid_2 at h
    refine a_iload_n (pc := 2) X 3 dX12_isLaid_2 rfl rfl ?_
    refine a_aload_n (pc := 3) X 0 dX12_isLaid_3 rfl rfl ?_
    refine a_getR (pc := 4) X 0 3 3 fl_RX12_101 rfl rfl rfl rfl rfl dX12_isLaid_4 ?_
    refine a_iconst (pc := 7) X dX12_isLaid_7 q_ic_1 ?_
    refine a_iald (pc := 8) X 0 rfl rfl rfl (x_inl (by decide)) dX12_isLaid_8 ?_
    refine a_icmp_ge (pc := 9) X 72 dX12_isLaid_9 rfl (fun c_9 => ?_) (fun c_9 => ?_)
    · have h := x_ifp c_9 h
      refine a_iconst (pc := 72) X dX12_isLaid_72 q_ic_0 ?_
      have h := Option.some.inj h; subst h
      exact a_zret (pc := 73) X x_Z0 x_Z0 dX12_isLaid_73
    · have h := x_ifn c_9 h
      refine a_aload_n (pc := 12) X 0 dX12_isLaid_12 rfl rfl ?_
      refine a_getR (pc := 13) X 0 3 3 fl_RX12_101 rfl rfl rfl rfl rfl dX12_isLaid_13 ?_
      refine a_bipush (pc := 16) X dX12_isLaid_16 q_bp_6 ?_
      refine a_iload_n (pc := 18) X 3 dX12_isLaid_18 rfl rfl ?_
      refine a_iadd (pc := 19) X dX12_isLaid_19 ?_
      obtain ⟨c_20, h⟩ := x_ck_elim h
      refine a_iald (pc := 20) X 0 rfl rfl rfl c_20 dX12_isLaid_20 ?_
      refine a_iload_n (pc := 21) X 1 dX12_isLaid_21 rfl rfl ?_
      refine a_icmp_ne (pc := 22) X 38 dX12_isLaid_22 rfl (fun c_22 => ?_) (fun c_22 => ?_)
      · have h := x_ifn c_22 h
        exact w_X12_isLaid_38 X   hk2  h
      · have h := x_ifp c_22 h
        refine a_aload_n (pc := 25) X 0 dX12_isLaid_25 rfl rfl ?_
        refine a_getR (pc := 26) X 0 3 3 fl_RX12_101 rfl rfl rfl rfl rfl dX12_isLaid_26 ?_
        refine a_bipush (pc := 29) X dX12_isLaid_29 q_bp_18 ?_
        refine a_iload_n (pc := 31) X 3 dX12_isLaid_31 rfl rfl ?_
        refine a_iadd (pc := 32) X dX12_isLaid_32 ?_
        obtain ⟨c_33, h⟩ := x_ck_elim h
        refine a_iald (pc := 33) X 0 rfl rfl rfl c_33 dX12_isLaid_33 ?_
        refine a_iload_n (pc := 34) X 2 dX12_isLaid_34 rfl rfl ?_
        refine a_icmp_eq (pc := 35) X 64 dX12_isLaid_35 rfl (fun c_35 => ?_) (fun c_35 => ?_)
        · have h := x_ifp c_35 h
          refine a_iconst (pc := 64) X dX12_isLaid_64 q_ic_1 ?_
          have h := Option.some.inj h; subst h
          exact a_zret (pc := 65) X x_Z1 x_Z1 dX12_isLaid_65
        · have h := x_ifn c_35 h
          exact w_X12_isLaid_38 X   hk2  h
set_option maxRecDepth 100000 in
set_option maxHeartbeats 4000000 in
theorem c_X12_isLaid {l : Launch}  {ad0 : Nat → Nat} {v0 : XM} {x0 : Int32} {x1 : Int32}  {o : Int32} (h : f_X12_isLaid v0 x0 x1 = some o) : CT l yX12_isLaid cX12_isLaid 4 (some .boolean) 0 [(shModel, ad0)] [v0] (fun aK => [.ref (ad0 0), .int x0, .int x1]) (some (.int o)) (x_Z o) [v0] := by
  refine CT_of (by decide) (fun _ => Nat.le_of_ble_eq_true rfl) ?_
  intro p e s m args below meth c D tc aK aV A X
  have X : Cx p s m args meth c cX12_isLaid 4 (some .boolean) RX12 D tc aK aV A [(shModel, ad0)] := X
  show aW p l e (x_Rm 0) s m args below meth c D tc A 4 [(shModel, ad0)] (some (.int o)) (x_Z o) [v0] 0 [(0, .ref (ad0 0)), (1, .int x0), (2, .int x1)] [] [v0]
  unfold f_X12_isLaid at h
  refine a_iconst (pc := 0) X dX12_isLaid_0 q_ic_0 ?_
  refine a_istore_n (pc := 1) X [(3, .int (0 : Int32)), (0, .ref (ad0 0)), (1, .int x0), (2, .int x1)] dX12_isLaid_1 rfl (by decide) rfl ?_
  refine a_sub [1, 2, 3, 0] rfl ?_
  exact w_X12_isLaid_2 X    x_NN _ _ _ h
theorem dX12_readFold_0 : decode cX12_readFold 0 = .ok (.aload_n 0, 1) := by decide +kernel
theorem dX12_readFold_1 : decode cX12_readFold 1 = .ok (.iconst 1, 1) := by decide +kernel
theorem dX12_readFold_2 : decode cX12_readFold 2 = .ok (.bipush 12, 2) := by decide +kernel
theorem dX12_readFold_4 : decode cX12_readFold 4 = .ok (.invokevirtual 183, 3) := by decide +kernel
theorem dX12_readFold_7 : decode cX12_readFold 7 = .ok (.ifCond .ne 5, 3) := by decide +kernel
theorem dX12_readFold_10 : decode cX12_readFold 10 = .ok (.iconst 0, 1) := by decide +kernel
theorem dX12_readFold_11 : decode cX12_readFold 11 = .ok (.ireturn, 1) := by decide +kernel
theorem dX12_readFold_12 : decode cX12_readFold 12 = .ok (.aload_n 0, 1) := by decide +kernel
theorem dX12_readFold_13 : decode cX12_readFold 13 = .ok (.getfield 101, 3) := by decide +kernel
theorem dX12_readFold_16 : decode cX12_readFold 16 = .ok (.iconst 1, 1) := by decide +kernel
theorem dX12_readFold_17 : decode cX12_readFold 17 = .ok (.iaload, 1) := by decide +kernel
theorem dX12_readFold_18 : decode cX12_readFold 18 = .ok (.istore_n 1, 1) := by decide +kernel
theorem dX12_readFold_19 : decode cX12_readFold 19 = .ok (.aload_n 0, 1) := by decide +kernel
theorem dX12_readFold_20 : decode cX12_readFold 20 = .ok (.invokevirtual 190, 3) := by decide +kernel
theorem dX12_readFold_23 : decode cX12_readFold 23 = .ok (.ifCond .ne 5, 3) := by decide +kernel
theorem dX12_readFold_26 : decode cX12_readFold 26 = .ok (.iconst 0, 1) := by decide +kernel
theorem dX12_readFold_27 : decode cX12_readFold 27 = .ok (.ireturn, 1) := by decide +kernel
theorem dX12_readFold_28 : decode cX12_readFold 28 = .ok (.aload_n 0, 1) := by decide +kernel
theorem dX12_readFold_29 : decode cX12_readFold 29 = .ok (.getfield 79, 3) := by decide +kernel
theorem dX12_readFold_32 : decode cX12_readFold 32 = .ok (.istore_n 2, 1) := by decide +kernel
theorem dX12_readFold_33 : decode cX12_readFold 33 = .ok (.aload_n 0, 1) := by decide +kernel
theorem dX12_readFold_34 : decode cX12_readFold 34 = .ok (.invokevirtual 177, 3) := by decide +kernel
theorem dX12_readFold_37 : decode cX12_readFold 37 = .ok (.ifCond .ne 5, 3) := by decide +kernel
theorem dX12_readFold_40 : decode cX12_readFold 40 = .ok (.iconst 0, 1) := by decide +kernel
theorem dX12_readFold_41 : decode cX12_readFold 41 = .ok (.ireturn, 1) := by decide +kernel
theorem dX12_readFold_42 : decode cX12_readFold 42 = .ok (.aload_n 0, 1) := by decide +kernel
theorem dX12_readFold_43 : decode cX12_readFold 43 = .ok (.getfield 79, 3) := by decide +kernel
theorem dX12_readFold_46 : decode cX12_readFold 46 = .ok (.iload_n 2, 1) := by decide +kernel
theorem dX12_readFold_47 : decode cX12_readFold 47 = .ok (.if_icmp .eq 15, 3) := by decide +kernel
theorem dX12_readFold_50 : decode cX12_readFold 50 = .ok (.aload_n 0, 1) := by decide +kernel
theorem dX12_readFold_51 : decode cX12_readFold 51 = .ok (.iload_n 2, 1) := by decide +kernel
theorem dX12_readFold_52 : decode cX12_readFold 52 = .ok (.aload_n 0, 1) := by decide +kernel
theorem dX12_readFold_53 : decode cX12_readFold 53 = .ok (.getfield 79, 3) := by decide +kernel
theorem dX12_readFold_56 : decode cX12_readFold 56 = .ok (.invokevirtual 193, 3) := by decide +kernel
theorem dX12_readFold_59 : decode cX12_readFold 59 = .ok (.ifCond .eq 9, 3) := by decide +kernel
theorem dX12_readFold_62 : decode cX12_readFold 62 = .ok (.aload_n 0, 1) := by decide +kernel
theorem dX12_readFold_63 : decode cX12_readFold 63 = .ok (.iconst 3, 1) := by decide +kernel
theorem dX12_readFold_64 : decode cX12_readFold 64 = .ok (.invokevirtual 72, 3) := by decide +kernel
theorem dX12_readFold_67 : decode cX12_readFold 67 = .ok (.ireturn, 1) := by decide +kernel
theorem dX12_readFold_68 : decode cX12_readFold 68 = .ok (.aload_n 0, 1) := by decide +kernel
theorem dX12_readFold_69 : decode cX12_readFold 69 = .ok (.getfield 101, 3) := by decide +kernel
theorem dX12_readFold_72 : decode cX12_readFold 72 = .ok (.bipush 6, 2) := by decide +kernel
theorem dX12_readFold_74 : decode cX12_readFold 74 = .ok (.iload_n 1, 1) := by decide +kernel
theorem dX12_readFold_75 : decode cX12_readFold 75 = .ok (.iadd, 1) := by decide +kernel
theorem dX12_readFold_76 : decode cX12_readFold 76 = .ok (.iload_n 2, 1) := by decide +kernel
theorem dX12_readFold_77 : decode cX12_readFold 77 = .ok (.iastore, 1) := by decide +kernel
theorem dX12_readFold_78 : decode cX12_readFold 78 = .ok (.aload_n 0, 1) := by decide +kernel
theorem dX12_readFold_79 : decode cX12_readFold 79 = .ok (.getfield 101, 3) := by decide +kernel
theorem dX12_readFold_82 : decode cX12_readFold 82 = .ok (.bipush 18, 2) := by decide +kernel
theorem dX12_readFold_84 : decode cX12_readFold 84 = .ok (.iload_n 1, 1) := by decide +kernel
theorem dX12_readFold_85 : decode cX12_readFold 85 = .ok (.iadd, 1) := by decide +kernel
theorem dX12_readFold_86 : decode cX12_readFold 86 = .ok (.aload_n 0, 1) := by decide +kernel
theorem dX12_readFold_87 : decode cX12_readFold 87 = .ok (.getfield 79, 3) := by decide +kernel
theorem dX12_readFold_90 : decode cX12_readFold 90 = .ok (.iastore, 1) := by decide +kernel
theorem dX12_readFold_91 : decode cX12_readFold 91 = .ok (.aload_n 0, 1) := by decide +kernel
theorem dX12_readFold_92 : decode cX12_readFold 92 = .ok (.invokevirtual 82, 3) := by decide +kernel
theorem dX12_readFold_95 : decode cX12_readFold 95 = .ok (.aload_n 0, 1) := by decide +kernel
theorem dX12_readFold_96 : decode cX12_readFold 96 = .ok (.bipush 30, 2) := by decide +kernel
theorem dX12_readFold_98 : decode cX12_readFold 98 = .ok (.iload_n 1, 1) := by decide +kernel
theorem dX12_readFold_99 : decode cX12_readFold 99 = .ok (.iadd, 1) := by decide +kernel
theorem dX12_readFold_100 : decode cX12_readFold 100 = .ok (.aload_n 0, 1) := by decide +kernel
theorem dX12_readFold_101 : decode cX12_readFold 101 = .ok (.iconst 1, 1) := by decide +kernel
theorem dX12_readFold_102 : decode cX12_readFold 102 = .ok (.bipush 9, 2) := by decide +kernel
theorem dX12_readFold_104 : decode cX12_readFold 104 = .ok (.invokevirtual 196, 3) := by decide +kernel
theorem dX12_readFold_107 : decode cX12_readFold 107 = .ok (.invokevirtual 199, 3) := by decide +kernel
theorem dX12_readFold_110 : decode cX12_readFold 110 = .ok (.ifCond .eq 18, 3) := by decide +kernel
theorem dX12_readFold_113 : decode cX12_readFold 113 = .ok (.aload_n 0, 1) := by decide +kernel
theorem dX12_readFold_114 : decode cX12_readFold 114 = .ok (.bipush 42, 2) := by decide +kernel
theorem dX12_readFold_116 : decode cX12_readFold 116 = .ok (.iload_n 1, 1) := by decide +kernel
theorem dX12_readFold_117 : decode cX12_readFold 117 = .ok (.iadd, 1) := by decide +kernel
theorem dX12_readFold_118 : decode cX12_readFold 118 = .ok (.aload_n 0, 1) := by decide +kernel
theorem dX12_readFold_119 : decode cX12_readFold 119 = .ok (.invokevirtual 203, 3) := by decide +kernel
theorem dX12_readFold_122 : decode cX12_readFold 122 = .ok (.invokevirtual 199, 3) := by decide +kernel
theorem dX12_readFold_125 : decode cX12_readFold 125 = .ok (.ifCond .ne 5, 3) := by decide +kernel
theorem dX12_readFold_128 : decode cX12_readFold 128 = .ok (.iconst 0, 1) := by decide +kernel
theorem dX12_readFold_129 : decode cX12_readFold 129 = .ok (.ireturn, 1) := by decide +kernel
theorem dX12_readFold_130 : decode cX12_readFold 130 = .ok (.aload_n 0, 1) := by decide +kernel
theorem dX12_readFold_131 : decode cX12_readFold 131 = .ok (.getfield 101, 3) := by decide +kernel
theorem dX12_readFold_134 : decode cX12_readFold 134 = .ok (.iconst 1, 1) := by decide +kernel
theorem dX12_readFold_135 : decode cX12_readFold 135 = .ok (.dup2, 1) := by decide +kernel
theorem dX12_readFold_136 : decode cX12_readFold 136 = .ok (.iaload, 1) := by decide +kernel
theorem dX12_readFold_137 : decode cX12_readFold 137 = .ok (.iconst 1, 1) := by decide +kernel
theorem dX12_readFold_138 : decode cX12_readFold 138 = .ok (.iadd, 1) := by decide +kernel
theorem dX12_readFold_139 : decode cX12_readFold 139 = .ok (.iastore, 1) := by decide +kernel
theorem dX12_readFold_140 : decode cX12_readFold 140 = .ok (.iconst 1, 1) := by decide +kernel
theorem dX12_readFold_141 : decode cX12_readFold 141 = .ok (.ireturn, 1) := by decide +kernel
def f_X12_readFold_62 (w0 : XM) : Option (Int32 × XM) :=
  x_lt (f_X12_bad w0 (3 : Int32)) (fun y1 =>
  some (y1.1, y1.2))
def f_X12_readFold (v0 : XM) : Option (Int32 × XM) :=
  x_bo (f_X12_readFirst v0 (1 : Int32) (12 : Int32)) (fun y2 =>
  if y2.1 = (0 : Int32) then
  (some ((0 : Int32), y2.2))
  else (x_bo (f_X12_readSpotName y2.2) (fun y3 =>
  if y3.1 = (0 : Int32) then
  (some ((0 : Int32), y3.2))
  else (x_bo (f_X12_isSpotHere y3.2) (fun y4 =>
  if y4.1 = (0 : Int32) then
  (some ((0 : Int32), y4.2))
  else (if ((y4.2.1 0 13) : Int32) = (y3.2.1 0 13) then
  (f_X12_readFold_62   y4.2)
  else (x_bo (f_X12_isLaid y4.2 (y3.2.1 0 13) (y4.2.1 0 13)) (fun y5 =>
  if y5 = (0 : Int32) then
  (x_ck ((6 : Int32) + (x_ga y2.2 3 (1 : Int32))) 70 (
  x_lt (x_pa y4.2 3 ((6 : Int32) + (x_ga y2.2 3 (1 : Int32))) (y3.2.1 0 13)) (fun m6 =>
  x_ck ((18 : Int32) + (x_ga y2.2 3 (1 : Int32))) 70 (
  x_lt (x_pa m6 3 ((18 : Int32) + (x_ga y2.2 3 (1 : Int32))) (m6.1 0 13)) (fun m7 =>
  x_bo (f_X12_go m7) (fun y8 =>
  x_bo (f_X12_readNumber y8 (1 : Int32) (9 : Int32)) (fun y9 =>
  x_bo (f_X12_put y9.2 ((30 : Int32) + (x_ga y2.2 3 (1 : Int32))) y9.1) (fun y10 =>
  if y10.1 = (0 : Int32) then
  (some ((0 : Int32), y10.2))
  else (x_bo (f_X12_readKind y10.2) (fun y11 =>
  x_bo (f_X12_put y11.2 ((42 : Int32) + (x_ga y2.2 3 (1 : Int32))) y11.1) (fun y12 =>
  if y12.1 = (0 : Int32) then
  (some ((0 : Int32), y12.2))
  else (x_lt (x_pa y12.2 3 (1 : Int32) ((x_ga y12.2 3 (1 : Int32)) + (1 : Int32))) (fun m13 =>
  some ((1 : Int32), m13))))))))))))))
  else (f_X12_readFold_62   y4.2)))))))))
set_option maxRecDepth 100000 in
set_option maxHeartbeats 4000000 in
theorem w_X12_readFold_62 {p : Program} {l : Launch} {e : Env} {s : State} {m : MethodId} {args : Array Value} {below : List Frame} {meth : Method} {c : Code} {D : va_G} {tc : Nat → ClassId} {aK aV : Nat → Nat} {A : Nat → Prop} {ad0 : Nat → Nat}  (X : Cx p s m args meth c cX12_readFold 3 (some .boolean) RX12 D tc aK aV A [(shModel, ad0)])  {o : Int32 × XM}  {w0 : XM}  (h : f_X12_readFold_62   w0 = some o) : aW p l e (x_Rm 5) s m args below meth c D tc A 3 [(shModel, ad0)] (some (.int o.1)) (x_Z o.1) [o.2] 62 [(0, .ref (ad0 0))] [] [w0] := by
  unfold f_X12_readFold_62 at h
  refine a_aload_n (pc := 62) X 0 dX12_readFold_62 rfl rfl ?_
  refine a_iconst (pc := 63) X dX12_readFold_63 q_ic_3 ?_
  obtain ⟨y1, e_y1, h⟩ := x_lt_elim h
  refine a_callV (pc := 64) (st2 := [.int y1.1]) (vs2 := [y1.2]) X [(0, 0, 20)] [some y1.2] 0 0 12 [.int (3 : Int32)] [] cv_RX12_72 (c_X12_bad (ad0 := ad0)  e_y1) rfl rfl rfl rfl rfl rfl rfl rfl rfl rfl rfl rfl rfl rfl rfl (Nat.le_of_ble_eq_true rfl) ⟨Nat.le_of_ble_eq_true rfl, Nat.le_of_ble_eq_true rfl⟩ dX12_readFold_64 (fun z_64 => ?_)
  have h := Option.some.inj h; subst h
  exact a_zret (pc := 67) X z_64 z_64 dX12_readFold_67
set_option maxRecDepth 100000 in
set_option maxHeartbeats 4000000 in
theorem c_X12_readFold {l : Launch}  {ad0 : Nat → Nat} {v0 : XM}   {o : Int32 × XM} (h : f_X12_readFold v0 = some o) : CT l yX12_readFold cX12_readFold 3 (some .boolean) 5 [(shModel, ad0)] [v0] (fun aK => [.ref (ad0 0)]) (some (.int o.1)) (x_Z o.1) [o.2] := by
  refine CT_of (by decide) (fun _ => Nat.le_of_ble_eq_true rfl) ?_
  intro p e s m args below meth c D tc aK aV A X
  have X : Cx p s m args meth c cX12_readFold 3 (some .boolean) RX12 D tc aK aV A [(shModel, ad0)] := X
  show aW p l e (x_Rm 5) s m args below meth c D tc A 3 [(shModel, ad0)] (some (.int o.1)) (x_Z o.1) [o.2] 0 [(0, .ref (ad0 0))] [] [v0]
  unfold f_X12_readFold at h
  refine a_aload_n (pc := 0) X 0 dX12_readFold_0 rfl rfl ?_
  refine a_iconst (pc := 1) X dX12_readFold_1 q_ic_1 ?_
  refine a_bipush (pc := 2) X dX12_readFold_2 q_bp_12 ?_
  obtain ⟨y2, e_y2, h⟩ := x_bo_elim h
  refine a_callV (pc := 4) (st2 := [.int y2.1]) (vs2 := [y2.2]) X [(0, 0, 20)] [some y2.2] 0 0 12 [.int (1 : Int32), .int (12 : Int32)] [] cv_RX12_183 (c_X12_readFirst (ad0 := ad0)  e_y2) rfl rfl rfl rfl rfl rfl rfl rfl rfl rfl rfl rfl rfl rfl rfl (Nat.le_of_ble_eq_true rfl) ⟨Nat.le_of_ble_eq_true rfl, Nat.le_of_ble_eq_true rfl⟩ dX12_readFold_4 (fun z_4 => ?_)
  refine a_if_ne (pc := 7) X 12 dX12_readFold_7 rfl (fun c_7 => ?_) (fun c_7 => ?_)
  · have h := x_ifn c_7 h
    refine a_aload_n (pc := 12) X 0 dX12_readFold_12 rfl rfl ?_
    refine a_getR (pc := 13) X 0 3 3 fl_RX12_101 rfl rfl rfl rfl rfl dX12_readFold_13 ?_
    refine a_iconst (pc := 16) X dX12_readFold_16 q_ic_1 ?_
    refine a_iald (pc := 17) X 0 rfl rfl rfl (x_inl (by decide)) dX12_readFold_17 ?_
    refine a_istore_n (pc := 18) X [(1, .int (x_ga y2.2 3 (1 : Int32))), (0, .ref (ad0 0))] dX12_readFold_18 rfl (by decide) rfl ?_
    refine a_aload_n (pc := 19) X 1 dX12_readFold_19 rfl rfl ?_
    obtain ⟨y3, e_y3, h⟩ := x_bo_elim h
    refine a_callV (pc := 20) (st2 := [.int y3.1]) (vs2 := [y3.2]) X [(0, 0, 20)] [some y3.2] 0 0 12 [] [] cv_RX12_190 (c_X12_readSpotName (ad0 := ad0)  e_y3) rfl rfl rfl rfl rfl rfl rfl rfl rfl rfl rfl rfl rfl rfl rfl (Nat.le_of_ble_eq_true rfl) ⟨Nat.le_of_ble_eq_true rfl, Nat.le_of_ble_eq_true rfl⟩ dX12_readFold_20 (fun z_20 => ?_)
    refine a_if_ne (pc := 23) X 28 dX12_readFold_23 rfl (fun c_23 => ?_) (fun c_23 => ?_)
    · have h := x_ifn c_23 h
      refine a_aload_n (pc := 28) X 1 dX12_readFold_28 rfl rfl ?_
      refine a_getI (pc := 29) X 0 fl_RX12_79 rfl rfl rfl rfl dX12_readFold_29 ?_
      refine a_istore_n (pc := 32) X [(2, .int (y3.2.1 0 13)), (1, .int (x_ga y2.2 3 (1 : Int32))), (0, .ref (ad0 0))] dX12_readFold_32 rfl (by decide) rfl ?_
      refine a_aload_n (pc := 33) X 2 dX12_readFold_33 rfl rfl ?_
      obtain ⟨y4, e_y4, h⟩ := x_bo_elim h
      refine a_callV (pc := 34) (st2 := [.int y4.1]) (vs2 := [y4.2]) X [(0, 0, 20)] [some y4.2] 0 0 12 [] [] cv_RX12_177 (c_X12_isSpotHere (ad0 := ad0)  e_y4) rfl rfl rfl rfl rfl rfl rfl rfl rfl rfl rfl rfl rfl rfl rfl (Nat.le_of_ble_eq_true rfl) ⟨Nat.le_of_ble_eq_true rfl, Nat.le_of_ble_eq_true rfl⟩ dX12_readFold_34 (fun z_34 => ?_)
      refine a_if_ne (pc := 37) X 42 dX12_readFold_37 rfl (fun c_37 => ?_) (fun c_37 => ?_)
      · have h := x_ifn c_37 h
        refine a_aload_n (pc := 42) X 2 dX12_readFold_42 rfl rfl ?_
        refine a_getI (pc := 43) X 0 fl_RX12_79 rfl rfl rfl rfl dX12_readFold_43 ?_
        refine a_iload_n (pc := 46) X 0 dX12_readFold_46 rfl rfl ?_
        refine a_icmp_eq (pc := 47) X 62 dX12_readFold_47 rfl (fun c_47 => ?_) (fun c_47 => ?_)
        · have h := x_ifp c_47 h
          refine a_sub [2] rfl ?_
          exact w_X12_readFold_62 X     h
        · have h := x_ifn c_47 h
          refine a_aload_n (pc := 50) X 2 dX12_readFold_50 rfl rfl ?_
          refine a_iload_n (pc := 51) X 0 dX12_readFold_51 rfl rfl ?_
          refine a_aload_n (pc := 52) X 2 dX12_readFold_52 rfl rfl ?_
          refine a_getI (pc := 53) X 0 fl_RX12_79 rfl rfl rfl rfl dX12_readFold_53 ?_
          obtain ⟨y5, e_y5, h⟩ := x_bo_elim h
          refine a_callV (pc := 56) (st2 := [.int y5]) (vs2 := [y4.2]) X [(0, 0, 20)] [none] 0 0 12 [.int (y3.2.1 0 13), .int (y4.2.1 0 13)] [] cv_RX12_193 (c_X12_isLaid (ad0 := ad0)  e_y5) rfl rfl rfl rfl rfl rfl rfl rfl rfl rfl rfl rfl rfl rfl rfl (Nat.le_of_ble_eq_true rfl) ⟨Nat.le_of_ble_eq_true rfl, Nat.le_of_ble_eq_true rfl⟩ dX12_readFold_56 (fun z_56 => ?_)
          refine a_if_eq (pc := 59) X 68 dX12_readFold_59 rfl (fun c_59 => ?_) (fun c_59 => ?_)
          · have h := x_ifp c_59 h
            refine a_aload_n (pc := 68) X 2 dX12_readFold_68 rfl rfl ?_
            refine a_getR (pc := 69) X 0 3 3 fl_RX12_101 rfl rfl rfl rfl rfl dX12_readFold_69 ?_
            refine a_bipush (pc := 72) X dX12_readFold_72 q_bp_6 ?_
            refine a_iload_n (pc := 74) X 1 dX12_readFold_74 rfl rfl ?_
            refine a_iadd (pc := 75) X dX12_readFold_75 ?_
            refine a_iload_n (pc := 76) X 0 dX12_readFold_76 rfl rfl ?_
            obtain ⟨c_77, h⟩ := x_ck_elim h
            refine a_iast (pc := 77) X 0 rfl rfl rfl c_77 dX12_readFold_77 ?_
            obtain ⟨m6, e_m6, h⟩ := x_lt_elim h
            refine a_nm (vs2 := [m6]) (congrArg (fun q : XM => [q]) e_m6) ?_
            refine a_aload_n (pc := 78) X 2 dX12_readFold_78 rfl rfl ?_
            refine a_getR (pc := 79) X 0 3 3 fl_RX12_101 rfl rfl rfl rfl rfl dX12_readFold_79 ?_
            refine a_bipush (pc := 82) X dX12_readFold_82 q_bp_18 ?_
            refine a_iload_n (pc := 84) X 1 dX12_readFold_84 rfl rfl ?_
            refine a_iadd (pc := 85) X dX12_readFold_85 ?_
            refine a_aload_n (pc := 86) X 2 dX12_readFold_86 rfl rfl ?_
            refine a_getI (pc := 87) X 0 fl_RX12_79 rfl rfl rfl rfl dX12_readFold_87 ?_
            obtain ⟨c_90, h⟩ := x_ck_elim h
            refine a_iast (pc := 90) X 0 rfl rfl rfl c_90 dX12_readFold_90 ?_
            obtain ⟨m7, e_m7, h⟩ := x_lt_elim h
            refine a_nm (vs2 := [m7]) (congrArg (fun q : XM => [q]) e_m7) ?_
            refine a_aload_n (pc := 91) X 2 dX12_readFold_91 rfl rfl ?_
            obtain ⟨y8, e_y8, h⟩ := x_bo_elim h
            refine a_callV (pc := 92) (st2 := []) (vs2 := [y8]) X [(0, 0, 20)] [some y8] 0 0 12 [] [] cv_RX12_82 (c_X12_go (ad0 := ad0)  e_y8) rfl rfl rfl rfl rfl rfl rfl rfl rfl rfl rfl rfl rfl rfl rfl (Nat.le_of_ble_eq_true rfl) ⟨Nat.le_of_ble_eq_true rfl, Nat.le_of_ble_eq_true rfl⟩ dX12_readFold_92 (fun _ => ?_)
            refine a_aload_n (pc := 95) X 2 dX12_readFold_95 rfl rfl ?_
            refine a_bipush (pc := 96) X dX12_readFold_96 q_bp_30 ?_
            refine a_iload_n (pc := 98) X 1 dX12_readFold_98 rfl rfl ?_
            refine a_iadd (pc := 99) X dX12_readFold_99 ?_
            refine a_aload_n (pc := 100) X 2 dX12_readFold_100 rfl rfl ?_
            refine a_iconst (pc := 101) X dX12_readFold_101 q_ic_1 ?_
            refine a_bipush (pc := 102) X dX12_readFold_102 q_bp_9 ?_
            obtain ⟨y9, e_y9, h⟩ := x_bo_elim h
            refine a_callV (pc := 104) (st2 := [.int y9.1, .int ((30 : Int32) + (x_ga y2.2 3 (1 : Int32))), .ref (ad0 0)]) (vs2 := [y9.2]) X [(0, 0, 20)] [some y9.2] 0 0 12 [.int (1 : Int32), .int (9 : Int32)] [.int ((30 : Int32) + (x_ga y2.2 3 (1 : Int32))), .ref (ad0 0)] cv_RX12_196 (c_X12_readNumber (ad0 := ad0)  e_y9) rfl rfl rfl rfl rfl rfl rfl rfl rfl rfl rfl rfl rfl rfl rfl (Nat.le_of_ble_eq_true rfl) ⟨Nat.le_of_ble_eq_true rfl, Nat.le_of_ble_eq_true rfl⟩ dX12_readFold_104 (fun z_104 => ?_)
            obtain ⟨y10, e_y10, h⟩ := x_bo_elim h
            refine a_callV (pc := 107) (st2 := [.int y10.1]) (vs2 := [y10.2]) X [(0, 0, 20)] [some y10.2] 0 0 12 [.int ((30 : Int32) + (x_ga y2.2 3 (1 : Int32))), .int y9.1] [] cv_RX12_199 (c_X12_put (ad0 := ad0) z_104 e_y10) rfl rfl rfl rfl rfl rfl rfl rfl rfl rfl rfl rfl rfl rfl rfl (Nat.le_of_ble_eq_true rfl) ⟨Nat.le_of_ble_eq_true rfl, Nat.le_of_ble_eq_true rfl⟩ dX12_readFold_107 (fun z_107 => ?_)
            refine a_if_eq (pc := 110) X 128 dX12_readFold_110 rfl (fun c_110 => ?_) (fun c_110 => ?_)
            · have h := x_ifp c_110 h
              refine a_iconst (pc := 128) X dX12_readFold_128 q_ic_0 ?_
              have h := Option.some.inj h; subst h
              exact a_zret (pc := 129) X x_Z0 x_Z0 dX12_readFold_129
            · have h := x_ifn c_110 h
              refine a_aload_n (pc := 113) X 2 dX12_readFold_113 rfl rfl ?_
              refine a_bipush (pc := 114) X dX12_readFold_114 q_bp_42 ?_
              refine a_iload_n (pc := 116) X 1 dX12_readFold_116 rfl rfl ?_
              refine a_iadd (pc := 117) X dX12_readFold_117 ?_
              refine a_aload_n (pc := 118) X 2 dX12_readFold_118 rfl rfl ?_
              obtain ⟨y11, e_y11, h⟩ := x_bo_elim h
              refine a_callV (pc := 119) (st2 := [.int y11.1, .int ((42 : Int32) + (x_ga y2.2 3 (1 : Int32))), .ref (ad0 0)]) (vs2 := [y11.2]) X [(0, 0, 20)] [some y11.2] 0 0 12 [] [.int ((42 : Int32) + (x_ga y2.2 3 (1 : Int32))), .ref (ad0 0)] cv_RX12_203 (c_X12_readKind (ad0 := ad0)  e_y11) rfl rfl rfl rfl rfl rfl rfl rfl rfl rfl rfl rfl rfl rfl rfl (Nat.le_of_ble_eq_true rfl) ⟨Nat.le_of_ble_eq_true rfl, Nat.le_of_ble_eq_true rfl⟩ dX12_readFold_119 (fun z_119 => ?_)
              obtain ⟨y12, e_y12, h⟩ := x_bo_elim h
              refine a_callV (pc := 122) (st2 := [.int y12.1]) (vs2 := [y12.2]) X [(0, 0, 20)] [some y12.2] 0 0 12 [.int ((42 : Int32) + (x_ga y2.2 3 (1 : Int32))), .int y11.1] [] cv_RX12_199 (c_X12_put (ad0 := ad0) z_119 e_y12) rfl rfl rfl rfl rfl rfl rfl rfl rfl rfl rfl rfl rfl rfl rfl (Nat.le_of_ble_eq_true rfl) ⟨Nat.le_of_ble_eq_true rfl, Nat.le_of_ble_eq_true rfl⟩ dX12_readFold_122 (fun z_122 => ?_)
              refine a_if_ne (pc := 125) X 130 dX12_readFold_125 rfl (fun c_125 => ?_) (fun c_125 => ?_)
              · have h := x_ifn c_125 h
                refine a_aload_n (pc := 130) X 2 dX12_readFold_130 rfl rfl ?_
                refine a_getR (pc := 131) X 0 3 3 fl_RX12_101 rfl rfl rfl rfl rfl dX12_readFold_131 ?_
                refine a_iconst (pc := 134) X dX12_readFold_134 q_ic_1 ?_
                refine a_dup2 (pc := 135) X dX12_readFold_135 rfl rfl ?_
                refine a_iald (pc := 136) X 0 rfl rfl rfl (x_inl (by decide)) dX12_readFold_136 ?_
                refine a_iconst (pc := 137) X dX12_readFold_137 q_ic_1 ?_
                refine a_iadd (pc := 138) X dX12_readFold_138 ?_
                refine a_iast (pc := 139) X 0 rfl rfl rfl (x_inl (by decide)) dX12_readFold_139 ?_
                obtain ⟨m13, e_m13, h⟩ := x_lt_elim h
                refine a_nm (vs2 := [m13]) (congrArg (fun q : XM => [q]) e_m13) ?_
                refine a_iconst (pc := 140) X dX12_readFold_140 q_ic_1 ?_
                have h := Option.some.inj h; subst h
                exact a_zret (pc := 141) X x_Z1 x_Z1 dX12_readFold_141
              · have h := x_ifp c_125 h
                refine a_iconst (pc := 128) X dX12_readFold_128 q_ic_0 ?_
                have h := Option.some.inj h; subst h
                exact a_zret (pc := 129) X x_Z0 x_Z0 dX12_readFold_129
          · have h := x_ifn c_59 h
            refine a_sub [2] rfl ?_
            exact w_X12_readFold_62 X     h
      · have h := x_ifp c_37 h
        refine a_iconst (pc := 40) X dX12_readFold_40 q_ic_0 ?_
        have h := Option.some.inj h; subst h
        exact a_zret (pc := 41) X x_Z0 x_Z0 dX12_readFold_41
    · have h := x_ifp c_23 h
      refine a_iconst (pc := 26) X dX12_readFold_26 q_ic_0 ?_
      have h := Option.some.inj h; subst h
      exact a_zret (pc := 27) X x_Z0 x_Z0 dX12_readFold_27
  · have h := x_ifp c_7 h
    refine a_iconst (pc := 10) X dX12_readFold_10 q_ic_0 ?_
    have h := Option.some.inj h; subst h
    exact a_zret (pc := 11) X x_Z0 x_Z0 dX12_readFold_11
theorem dX12_readThing_0 : decode cX12_readThing 0 = .ok (.aload_n 0, 1) := by decide +kernel
theorem dX12_readThing_1 : decode cX12_readThing 1 = .ok (.iconst 2, 1) := by decide +kernel
theorem dX12_readThing_2 : decode cX12_readThing 2 = .ok (.bipush 6, 2) := by decide +kernel
theorem dX12_readThing_4 : decode cX12_readThing 4 = .ok (.invokevirtual 183, 3) := by decide +kernel
theorem dX12_readThing_7 : decode cX12_readThing 7 = .ok (.ifCond .ne 5, 3) := by decide +kernel
theorem dX12_readThing_10 : decode cX12_readThing 10 = .ok (.iconst 0, 1) := by decide +kernel
theorem dX12_readThing_11 : decode cX12_readThing 11 = .ok (.ireturn, 1) := by decide +kernel
theorem dX12_readThing_12 : decode cX12_readThing 12 = .ok (.aload_n 0, 1) := by decide +kernel
theorem dX12_readThing_13 : decode cX12_readThing 13 = .ok (.getfield 101, 3) := by decide +kernel
theorem dX12_readThing_16 : decode cX12_readThing 16 = .ok (.iconst 2, 1) := by decide +kernel
theorem dX12_readThing_17 : decode cX12_readThing 17 = .ok (.iaload, 1) := by decide +kernel
theorem dX12_readThing_18 : decode cX12_readThing 18 = .ok (.istore_n 1, 1) := by decide +kernel
theorem dX12_readThing_19 : decode cX12_readThing 19 = .ok (.aload_n 0, 1) := by decide +kernel
theorem dX12_readThing_20 : decode cX12_readThing 20 = .ok (.bipush 8, 2) := by decide +kernel
theorem dX12_readThing_22 : decode cX12_readThing 22 = .ok (.iload_n 1, 1) := by decide +kernel
theorem dX12_readThing_23 : decode cX12_readThing 23 = .ok (.iadd, 1) := by decide +kernel
theorem dX12_readThing_24 : decode cX12_readThing 24 = .ok (.invokevirtual 187, 3) := by decide +kernel
theorem dX12_readThing_27 : decode cX12_readThing 27 = .ok (.ifCond .eq 18, 3) := by decide +kernel
theorem dX12_readThing_30 : decode cX12_readThing 30 = .ok (.aload_n 0, 1) := by decide +kernel
theorem dX12_readThing_31 : decode cX12_readThing 31 = .ok (.bipush 54, 2) := by decide +kernel
theorem dX12_readThing_33 : decode cX12_readThing 33 = .ok (.iload_n 1, 1) := by decide +kernel
theorem dX12_readThing_34 : decode cX12_readThing 34 = .ok (.iadd, 1) := by decide +kernel
theorem dX12_readThing_35 : decode cX12_readThing 35 = .ok (.aload_n 0, 1) := by decide +kernel
theorem dX12_readThing_36 : decode cX12_readThing 36 = .ok (.invokevirtual 190, 3) := by decide +kernel
theorem dX12_readThing_39 : decode cX12_readThing 39 = .ok (.invokevirtual 199, 3) := by decide +kernel
theorem dX12_readThing_42 : decode cX12_readThing 42 = .ok (.ifCond .ne 5, 3) := by decide +kernel
theorem dX12_readThing_45 : decode cX12_readThing 45 = .ok (.iconst 0, 1) := by decide +kernel
theorem dX12_readThing_46 : decode cX12_readThing 46 = .ok (.ireturn, 1) := by decide +kernel
theorem dX12_readThing_47 : decode cX12_readThing 47 = .ok (.aload_n 0, 1) := by decide +kernel
theorem dX12_readThing_48 : decode cX12_readThing 48 = .ok (.getfield 101, 3) := by decide +kernel
theorem dX12_readThing_51 : decode cX12_readThing 51 = .ok (.iconst 2, 1) := by decide +kernel
theorem dX12_readThing_52 : decode cX12_readThing 52 = .ok (.dup2, 1) := by decide +kernel
theorem dX12_readThing_53 : decode cX12_readThing 53 = .ok (.iaload, 1) := by decide +kernel
theorem dX12_readThing_54 : decode cX12_readThing 54 = .ok (.iconst 1, 1) := by decide +kernel
theorem dX12_readThing_55 : decode cX12_readThing 55 = .ok (.iadd, 1) := by decide +kernel
theorem dX12_readThing_56 : decode cX12_readThing 56 = .ok (.iastore, 1) := by decide +kernel
theorem dX12_readThing_57 : decode cX12_readThing 57 = .ok (.iconst 1, 1) := by decide +kernel
theorem dX12_readThing_58 : decode cX12_readThing 58 = .ok (.ireturn, 1) := by decide +kernel
def f_X12_readThing (v0 : XM) : Option (Int32 × XM) :=
  x_bo (f_X12_readFirst v0 (2 : Int32) (6 : Int32)) (fun y1 =>
  if y1.1 = (0 : Int32) then
  (some ((0 : Int32), y1.2))
  else (x_bo (f_X12_readNew y1.2 ((8 : Int32) + (x_ga y1.2 3 (2 : Int32)))) (fun y2 =>
  if y2.1 = (0 : Int32) then
  (some ((0 : Int32), y2.2))
  else (x_bo (f_X12_readSpotName y2.2) (fun y3 =>
  x_bo (f_X12_put y3.2 ((54 : Int32) + (x_ga y1.2 3 (2 : Int32))) y3.1) (fun y4 =>
  if y4.1 = (0 : Int32) then
  (some ((0 : Int32), y4.2))
  else (x_lt (x_pa y4.2 3 (2 : Int32) ((x_ga y4.2 3 (2 : Int32)) + (1 : Int32))) (fun m5 =>
  some ((1 : Int32), m5)))))))))
set_option maxRecDepth 100000 in
set_option maxHeartbeats 4000000 in
theorem c_X12_readThing {l : Launch}  {ad0 : Nat → Nat} {v0 : XM}   {o : Int32 × XM} (h : f_X12_readThing v0 = some o) : CT l yX12_readThing cX12_readThing 2 (some .boolean) 5 [(shModel, ad0)] [v0] (fun aK => [.ref (ad0 0)]) (some (.int o.1)) (x_Z o.1) [o.2] := by
  refine CT_of (by decide) (fun _ => Nat.le_of_ble_eq_true rfl) ?_
  intro p e s m args below meth c D tc aK aV A X
  have X : Cx p s m args meth c cX12_readThing 2 (some .boolean) RX12 D tc aK aV A [(shModel, ad0)] := X
  show aW p l e (x_Rm 5) s m args below meth c D tc A 2 [(shModel, ad0)] (some (.int o.1)) (x_Z o.1) [o.2] 0 [(0, .ref (ad0 0))] [] [v0]
  unfold f_X12_readThing at h
  refine a_aload_n (pc := 0) X 0 dX12_readThing_0 rfl rfl ?_
  refine a_iconst (pc := 1) X dX12_readThing_1 q_ic_2 ?_
  refine a_bipush (pc := 2) X dX12_readThing_2 q_bp_6 ?_
  obtain ⟨y1, e_y1, h⟩ := x_bo_elim h
  refine a_callV (pc := 4) (st2 := [.int y1.1]) (vs2 := [y1.2]) X [(0, 0, 20)] [some y1.2] 0 0 12 [.int (2 : Int32), .int (6 : Int32)] [] cv_RX12_183 (c_X12_readFirst (ad0 := ad0)  e_y1) rfl rfl rfl rfl rfl rfl rfl rfl rfl rfl rfl rfl rfl rfl rfl (Nat.le_of_ble_eq_true rfl) ⟨Nat.le_of_ble_eq_true rfl, Nat.le_of_ble_eq_true rfl⟩ dX12_readThing_4 (fun z_4 => ?_)
  refine a_if_ne (pc := 7) X 12 dX12_readThing_7 rfl (fun c_7 => ?_) (fun c_7 => ?_)
  · have h := x_ifn c_7 h
    refine a_aload_n (pc := 12) X 0 dX12_readThing_12 rfl rfl ?_
    refine a_getR (pc := 13) X 0 3 3 fl_RX12_101 rfl rfl rfl rfl rfl dX12_readThing_13 ?_
    refine a_iconst (pc := 16) X dX12_readThing_16 q_ic_2 ?_
    refine a_iald (pc := 17) X 0 rfl rfl rfl (x_inl (by decide)) dX12_readThing_17 ?_
    refine a_istore_n (pc := 18) X [(1, .int (x_ga y1.2 3 (2 : Int32))), (0, .ref (ad0 0))] dX12_readThing_18 rfl (by decide) rfl ?_
    refine a_aload_n (pc := 19) X 1 dX12_readThing_19 rfl rfl ?_
    refine a_bipush (pc := 20) X dX12_readThing_20 q_bp_8 ?_
    refine a_iload_n (pc := 22) X 0 dX12_readThing_22 rfl rfl ?_
    refine a_iadd (pc := 23) X dX12_readThing_23 ?_
    obtain ⟨y2, e_y2, h⟩ := x_bo_elim h
    refine a_callV (pc := 24) (st2 := [.int y2.1]) (vs2 := [y2.2]) X [(0, 0, 20)] [some y2.2] 0 0 12 [.int ((8 : Int32) + (x_ga y1.2 3 (2 : Int32)))] [] cv_RX12_187 (c_X12_readNew (ad0 := ad0)  e_y2) rfl rfl rfl rfl rfl rfl rfl rfl rfl rfl rfl rfl rfl rfl rfl (Nat.le_of_ble_eq_true rfl) ⟨Nat.le_of_ble_eq_true rfl, Nat.le_of_ble_eq_true rfl⟩ dX12_readThing_24 (fun z_24 => ?_)
    refine a_if_eq (pc := 27) X 45 dX12_readThing_27 rfl (fun c_27 => ?_) (fun c_27 => ?_)
    · have h := x_ifp c_27 h
      refine a_iconst (pc := 45) X dX12_readThing_45 q_ic_0 ?_
      have h := Option.some.inj h; subst h
      exact a_zret (pc := 46) X x_Z0 x_Z0 dX12_readThing_46
    · have h := x_ifn c_27 h
      refine a_aload_n (pc := 30) X 1 dX12_readThing_30 rfl rfl ?_
      refine a_bipush (pc := 31) X dX12_readThing_31 q_bp_54 ?_
      refine a_iload_n (pc := 33) X 0 dX12_readThing_33 rfl rfl ?_
      refine a_iadd (pc := 34) X dX12_readThing_34 ?_
      refine a_aload_n (pc := 35) X 1 dX12_readThing_35 rfl rfl ?_
      obtain ⟨y3, e_y3, h⟩ := x_bo_elim h
      refine a_callV (pc := 36) (st2 := [.int y3.1, .int ((54 : Int32) + (x_ga y1.2 3 (2 : Int32))), .ref (ad0 0)]) (vs2 := [y3.2]) X [(0, 0, 20)] [some y3.2] 0 0 12 [] [.int ((54 : Int32) + (x_ga y1.2 3 (2 : Int32))), .ref (ad0 0)] cv_RX12_190 (c_X12_readSpotName (ad0 := ad0)  e_y3) rfl rfl rfl rfl rfl rfl rfl rfl rfl rfl rfl rfl rfl rfl rfl (Nat.le_of_ble_eq_true rfl) ⟨Nat.le_of_ble_eq_true rfl, Nat.le_of_ble_eq_true rfl⟩ dX12_readThing_36 (fun z_36 => ?_)
      obtain ⟨y4, e_y4, h⟩ := x_bo_elim h
      refine a_callV (pc := 39) (st2 := [.int y4.1]) (vs2 := [y4.2]) X [(0, 0, 20)] [some y4.2] 0 0 12 [.int ((54 : Int32) + (x_ga y1.2 3 (2 : Int32))), .int y3.1] [] cv_RX12_199 (c_X12_put (ad0 := ad0) z_36 e_y4) rfl rfl rfl rfl rfl rfl rfl rfl rfl rfl rfl rfl rfl rfl rfl (Nat.le_of_ble_eq_true rfl) ⟨Nat.le_of_ble_eq_true rfl, Nat.le_of_ble_eq_true rfl⟩ dX12_readThing_39 (fun z_39 => ?_)
      refine a_if_ne (pc := 42) X 47 dX12_readThing_42 rfl (fun c_42 => ?_) (fun c_42 => ?_)
      · have h := x_ifn c_42 h
        refine a_aload_n (pc := 47) X 1 dX12_readThing_47 rfl rfl ?_
        refine a_getR (pc := 48) X 0 3 3 fl_RX12_101 rfl rfl rfl rfl rfl dX12_readThing_48 ?_
        refine a_iconst (pc := 51) X dX12_readThing_51 q_ic_2 ?_
        refine a_dup2 (pc := 52) X dX12_readThing_52 rfl rfl ?_
        refine a_iald (pc := 53) X 0 rfl rfl rfl (x_inl (by decide)) dX12_readThing_53 ?_
        refine a_iconst (pc := 54) X dX12_readThing_54 q_ic_1 ?_
        refine a_iadd (pc := 55) X dX12_readThing_55 ?_
        refine a_iast (pc := 56) X 0 rfl rfl rfl (x_inl (by decide)) dX12_readThing_56 ?_
        obtain ⟨m5, e_m5, h⟩ := x_lt_elim h
        refine a_nm (vs2 := [m5]) (congrArg (fun q : XM => [q]) e_m5) ?_
        refine a_iconst (pc := 57) X dX12_readThing_57 q_ic_1 ?_
        have h := Option.some.inj h; subst h
        exact a_zret (pc := 58) X x_Z1 x_Z1 dX12_readThing_58
      · have h := x_ifp c_42 h
        refine a_iconst (pc := 45) X dX12_readThing_45 q_ic_0 ?_
        have h := Option.some.inj h; subst h
        exact a_zret (pc := 46) X x_Z0 x_Z0 dX12_readThing_46
  · have h := x_ifp c_7 h
    refine a_iconst (pc := 10) X dX12_readThing_10 q_ic_0 ?_
    have h := Option.some.inj h; subst h
    exact a_zret (pc := 11) X x_Z0 x_Z0 dX12_readThing_11
theorem dX12_readWalker_0 : decode cX12_readWalker 0 = .ok (.aload_n 0, 1) := by decide +kernel
theorem dX12_readWalker_1 : decode cX12_readWalker 1 = .ok (.iconst 3, 1) := by decide +kernel
theorem dX12_readWalker_2 : decode cX12_readWalker 2 = .ok (.iconst 5, 1) := by decide +kernel
theorem dX12_readWalker_3 : decode cX12_readWalker 3 = .ok (.invokevirtual 183, 3) := by decide +kernel
theorem dX12_readWalker_6 : decode cX12_readWalker 6 = .ok (.ifCond .ne 5, 3) := by decide +kernel
theorem dX12_readWalker_9 : decode cX12_readWalker 9 = .ok (.iconst 0, 1) := by decide +kernel
theorem dX12_readWalker_10 : decode cX12_readWalker 10 = .ok (.ireturn, 1) := by decide +kernel
theorem dX12_readWalker_11 : decode cX12_readWalker 11 = .ok (.aload_n 0, 1) := by decide +kernel
theorem dX12_readWalker_12 : decode cX12_readWalker 12 = .ok (.getfield 101, 3) := by decide +kernel
theorem dX12_readWalker_15 : decode cX12_readWalker 15 = .ok (.iconst 3, 1) := by decide +kernel
theorem dX12_readWalker_16 : decode cX12_readWalker 16 = .ok (.iaload, 1) := by decide +kernel
theorem dX12_readWalker_17 : decode cX12_readWalker 17 = .ok (.istore_n 1, 1) := by decide +kernel
theorem dX12_readWalker_18 : decode cX12_readWalker 18 = .ok (.aload_n 0, 1) := by decide +kernel
theorem dX12_readWalker_19 : decode cX12_readWalker 19 = .ok (.bipush 14, 2) := by decide +kernel
theorem dX12_readWalker_21 : decode cX12_readWalker 21 = .ok (.iload_n 1, 1) := by decide +kernel
theorem dX12_readWalker_22 : decode cX12_readWalker 22 = .ok (.iadd, 1) := by decide +kernel
theorem dX12_readWalker_23 : decode cX12_readWalker 23 = .ok (.invokevirtual 187, 3) := by decide +kernel
theorem dX12_readWalker_26 : decode cX12_readWalker 26 = .ok (.ifCond .eq 35, 3) := by decide +kernel
theorem dX12_readWalker_29 : decode cX12_readWalker 29 = .ok (.aload_n 0, 1) := by decide +kernel
theorem dX12_readWalker_30 : decode cX12_readWalker 30 = .ok (.bipush 60, 2) := by decide +kernel
theorem dX12_readWalker_32 : decode cX12_readWalker 32 = .ok (.iload_n 1, 1) := by decide +kernel
theorem dX12_readWalker_33 : decode cX12_readWalker 33 = .ok (.iadd, 1) := by decide +kernel
theorem dX12_readWalker_34 : decode cX12_readWalker 34 = .ok (.aload_n 0, 1) := by decide +kernel
theorem dX12_readWalker_35 : decode cX12_readWalker 35 = .ok (.invokevirtual 190, 3) := by decide +kernel
theorem dX12_readWalker_38 : decode cX12_readWalker 38 = .ok (.invokevirtual 199, 3) := by decide +kernel
theorem dX12_readWalker_41 : decode cX12_readWalker 41 = .ok (.ifCond .eq 20, 3) := by decide +kernel
theorem dX12_readWalker_44 : decode cX12_readWalker 44 = .ok (.aload_n 0, 1) := by decide +kernel
theorem dX12_readWalker_45 : decode cX12_readWalker 45 = .ok (.bipush 65, 2) := by decide +kernel
theorem dX12_readWalker_47 : decode cX12_readWalker 47 = .ok (.iload_n 1, 1) := by decide +kernel
theorem dX12_readWalker_48 : decode cX12_readWalker 48 = .ok (.iadd, 1) := by decide +kernel
theorem dX12_readWalker_49 : decode cX12_readWalker 49 = .ok (.aload_n 0, 1) := by decide +kernel
theorem dX12_readWalker_50 : decode cX12_readWalker 50 = .ok (.iconst 1, 1) := by decide +kernel
theorem dX12_readWalker_51 : decode cX12_readWalker 51 = .ok (.iconst 5, 1) := by decide +kernel
theorem dX12_readWalker_52 : decode cX12_readWalker 52 = .ok (.invokevirtual 196, 3) := by decide +kernel
theorem dX12_readWalker_55 : decode cX12_readWalker 55 = .ok (.invokevirtual 199, 3) := by decide +kernel
theorem dX12_readWalker_58 : decode cX12_readWalker 58 = .ok (.ifCond .ne 5, 3) := by decide +kernel
theorem dX12_readWalker_61 : decode cX12_readWalker 61 = .ok (.iconst 0, 1) := by decide +kernel
theorem dX12_readWalker_62 : decode cX12_readWalker 62 = .ok (.ireturn, 1) := by decide +kernel
theorem dX12_readWalker_63 : decode cX12_readWalker 63 = .ok (.aload_n 0, 1) := by decide +kernel
theorem dX12_readWalker_64 : decode cX12_readWalker 64 = .ok (.getfield 101, 3) := by decide +kernel
theorem dX12_readWalker_67 : decode cX12_readWalker 67 = .ok (.iconst 3, 1) := by decide +kernel
theorem dX12_readWalker_68 : decode cX12_readWalker 68 = .ok (.dup2, 1) := by decide +kernel
theorem dX12_readWalker_69 : decode cX12_readWalker 69 = .ok (.iaload, 1) := by decide +kernel
theorem dX12_readWalker_70 : decode cX12_readWalker 70 = .ok (.iconst 1, 1) := by decide +kernel
theorem dX12_readWalker_71 : decode cX12_readWalker 71 = .ok (.iadd, 1) := by decide +kernel
theorem dX12_readWalker_72 : decode cX12_readWalker 72 = .ok (.iastore, 1) := by decide +kernel
theorem dX12_readWalker_73 : decode cX12_readWalker 73 = .ok (.iconst 1, 1) := by decide +kernel
theorem dX12_readWalker_74 : decode cX12_readWalker 74 = .ok (.ireturn, 1) := by decide +kernel
def f_X12_readWalker (v0 : XM) : Option (Int32 × XM) :=
  x_bo (f_X12_readFirst v0 (3 : Int32) (5 : Int32)) (fun y1 =>
  if y1.1 = (0 : Int32) then
  (some ((0 : Int32), y1.2))
  else (x_bo (f_X12_readNew y1.2 ((14 : Int32) + (x_ga y1.2 3 (3 : Int32)))) (fun y2 =>
  if y2.1 = (0 : Int32) then
  (some ((0 : Int32), y2.2))
  else (x_bo (f_X12_readSpotName y2.2) (fun y3 =>
  x_bo (f_X12_put y3.2 ((60 : Int32) + (x_ga y1.2 3 (3 : Int32))) y3.1) (fun y4 =>
  if y4.1 = (0 : Int32) then
  (some ((0 : Int32), y4.2))
  else (x_bo (f_X12_readNumber y4.2 (1 : Int32) (5 : Int32)) (fun y5 =>
  x_bo (f_X12_put y5.2 ((65 : Int32) + (x_ga y1.2 3 (3 : Int32))) y5.1) (fun y6 =>
  if y6.1 = (0 : Int32) then
  (some ((0 : Int32), y6.2))
  else (x_lt (x_pa y6.2 3 (3 : Int32) ((x_ga y6.2 3 (3 : Int32)) + (1 : Int32))) (fun m7 =>
  some ((1 : Int32), m7))))))))))))
set_option maxRecDepth 100000 in
set_option maxHeartbeats 4000000 in
theorem c_X12_readWalker {l : Launch}  {ad0 : Nat → Nat} {v0 : XM}   {o : Int32 × XM} (h : f_X12_readWalker v0 = some o) : CT l yX12_readWalker cX12_readWalker 2 (some .boolean) 5 [(shModel, ad0)] [v0] (fun aK => [.ref (ad0 0)]) (some (.int o.1)) (x_Z o.1) [o.2] := by
  refine CT_of (by decide) (fun _ => Nat.le_of_ble_eq_true rfl) ?_
  intro p e s m args below meth c D tc aK aV A X
  have X : Cx p s m args meth c cX12_readWalker 2 (some .boolean) RX12 D tc aK aV A [(shModel, ad0)] := X
  show aW p l e (x_Rm 5) s m args below meth c D tc A 2 [(shModel, ad0)] (some (.int o.1)) (x_Z o.1) [o.2] 0 [(0, .ref (ad0 0))] [] [v0]
  unfold f_X12_readWalker at h
  refine a_aload_n (pc := 0) X 0 dX12_readWalker_0 rfl rfl ?_
  refine a_iconst (pc := 1) X dX12_readWalker_1 q_ic_3 ?_
  refine a_iconst (pc := 2) X dX12_readWalker_2 q_ic_5 ?_
  obtain ⟨y1, e_y1, h⟩ := x_bo_elim h
  refine a_callV (pc := 3) (st2 := [.int y1.1]) (vs2 := [y1.2]) X [(0, 0, 20)] [some y1.2] 0 0 12 [.int (3 : Int32), .int (5 : Int32)] [] cv_RX12_183 (c_X12_readFirst (ad0 := ad0)  e_y1) rfl rfl rfl rfl rfl rfl rfl rfl rfl rfl rfl rfl rfl rfl rfl (Nat.le_of_ble_eq_true rfl) ⟨Nat.le_of_ble_eq_true rfl, Nat.le_of_ble_eq_true rfl⟩ dX12_readWalker_3 (fun z_3 => ?_)
  refine a_if_ne (pc := 6) X 11 dX12_readWalker_6 rfl (fun c_6 => ?_) (fun c_6 => ?_)
  · have h := x_ifn c_6 h
    refine a_aload_n (pc := 11) X 0 dX12_readWalker_11 rfl rfl ?_
    refine a_getR (pc := 12) X 0 3 3 fl_RX12_101 rfl rfl rfl rfl rfl dX12_readWalker_12 ?_
    refine a_iconst (pc := 15) X dX12_readWalker_15 q_ic_3 ?_
    refine a_iald (pc := 16) X 0 rfl rfl rfl (x_inl (by decide)) dX12_readWalker_16 ?_
    refine a_istore_n (pc := 17) X [(1, .int (x_ga y1.2 3 (3 : Int32))), (0, .ref (ad0 0))] dX12_readWalker_17 rfl (by decide) rfl ?_
    refine a_aload_n (pc := 18) X 1 dX12_readWalker_18 rfl rfl ?_
    refine a_bipush (pc := 19) X dX12_readWalker_19 q_bp_14 ?_
    refine a_iload_n (pc := 21) X 0 dX12_readWalker_21 rfl rfl ?_
    refine a_iadd (pc := 22) X dX12_readWalker_22 ?_
    obtain ⟨y2, e_y2, h⟩ := x_bo_elim h
    refine a_callV (pc := 23) (st2 := [.int y2.1]) (vs2 := [y2.2]) X [(0, 0, 20)] [some y2.2] 0 0 12 [.int ((14 : Int32) + (x_ga y1.2 3 (3 : Int32)))] [] cv_RX12_187 (c_X12_readNew (ad0 := ad0)  e_y2) rfl rfl rfl rfl rfl rfl rfl rfl rfl rfl rfl rfl rfl rfl rfl (Nat.le_of_ble_eq_true rfl) ⟨Nat.le_of_ble_eq_true rfl, Nat.le_of_ble_eq_true rfl⟩ dX12_readWalker_23 (fun z_23 => ?_)
    refine a_if_eq (pc := 26) X 61 dX12_readWalker_26 rfl (fun c_26 => ?_) (fun c_26 => ?_)
    · have h := x_ifp c_26 h
      refine a_iconst (pc := 61) X dX12_readWalker_61 q_ic_0 ?_
      have h := Option.some.inj h; subst h
      exact a_zret (pc := 62) X x_Z0 x_Z0 dX12_readWalker_62
    · have h := x_ifn c_26 h
      refine a_aload_n (pc := 29) X 1 dX12_readWalker_29 rfl rfl ?_
      refine a_bipush (pc := 30) X dX12_readWalker_30 q_bp_60 ?_
      refine a_iload_n (pc := 32) X 0 dX12_readWalker_32 rfl rfl ?_
      refine a_iadd (pc := 33) X dX12_readWalker_33 ?_
      refine a_aload_n (pc := 34) X 1 dX12_readWalker_34 rfl rfl ?_
      obtain ⟨y3, e_y3, h⟩ := x_bo_elim h
      refine a_callV (pc := 35) (st2 := [.int y3.1, .int ((60 : Int32) + (x_ga y1.2 3 (3 : Int32))), .ref (ad0 0)]) (vs2 := [y3.2]) X [(0, 0, 20)] [some y3.2] 0 0 12 [] [.int ((60 : Int32) + (x_ga y1.2 3 (3 : Int32))), .ref (ad0 0)] cv_RX12_190 (c_X12_readSpotName (ad0 := ad0)  e_y3) rfl rfl rfl rfl rfl rfl rfl rfl rfl rfl rfl rfl rfl rfl rfl (Nat.le_of_ble_eq_true rfl) ⟨Nat.le_of_ble_eq_true rfl, Nat.le_of_ble_eq_true rfl⟩ dX12_readWalker_35 (fun z_35 => ?_)
      obtain ⟨y4, e_y4, h⟩ := x_bo_elim h
      refine a_callV (pc := 38) (st2 := [.int y4.1]) (vs2 := [y4.2]) X [(0, 0, 20)] [some y4.2] 0 0 12 [.int ((60 : Int32) + (x_ga y1.2 3 (3 : Int32))), .int y3.1] [] cv_RX12_199 (c_X12_put (ad0 := ad0) z_35 e_y4) rfl rfl rfl rfl rfl rfl rfl rfl rfl rfl rfl rfl rfl rfl rfl (Nat.le_of_ble_eq_true rfl) ⟨Nat.le_of_ble_eq_true rfl, Nat.le_of_ble_eq_true rfl⟩ dX12_readWalker_38 (fun z_38 => ?_)
      refine a_if_eq (pc := 41) X 61 dX12_readWalker_41 rfl (fun c_41 => ?_) (fun c_41 => ?_)
      · have h := x_ifp c_41 h
        refine a_iconst (pc := 61) X dX12_readWalker_61 q_ic_0 ?_
        have h := Option.some.inj h; subst h
        exact a_zret (pc := 62) X x_Z0 x_Z0 dX12_readWalker_62
      · have h := x_ifn c_41 h
        refine a_aload_n (pc := 44) X 1 dX12_readWalker_44 rfl rfl ?_
        refine a_bipush (pc := 45) X dX12_readWalker_45 q_bp_65 ?_
        refine a_iload_n (pc := 47) X 0 dX12_readWalker_47 rfl rfl ?_
        refine a_iadd (pc := 48) X dX12_readWalker_48 ?_
        refine a_aload_n (pc := 49) X 1 dX12_readWalker_49 rfl rfl ?_
        refine a_iconst (pc := 50) X dX12_readWalker_50 q_ic_1 ?_
        refine a_iconst (pc := 51) X dX12_readWalker_51 q_ic_5 ?_
        obtain ⟨y5, e_y5, h⟩ := x_bo_elim h
        refine a_callV (pc := 52) (st2 := [.int y5.1, .int ((65 : Int32) + (x_ga y1.2 3 (3 : Int32))), .ref (ad0 0)]) (vs2 := [y5.2]) X [(0, 0, 20)] [some y5.2] 0 0 12 [.int (1 : Int32), .int (5 : Int32)] [.int ((65 : Int32) + (x_ga y1.2 3 (3 : Int32))), .ref (ad0 0)] cv_RX12_196 (c_X12_readNumber (ad0 := ad0)  e_y5) rfl rfl rfl rfl rfl rfl rfl rfl rfl rfl rfl rfl rfl rfl rfl (Nat.le_of_ble_eq_true rfl) ⟨Nat.le_of_ble_eq_true rfl, Nat.le_of_ble_eq_true rfl⟩ dX12_readWalker_52 (fun z_52 => ?_)
        obtain ⟨y6, e_y6, h⟩ := x_bo_elim h
        refine a_callV (pc := 55) (st2 := [.int y6.1]) (vs2 := [y6.2]) X [(0, 0, 20)] [some y6.2] 0 0 12 [.int ((65 : Int32) + (x_ga y1.2 3 (3 : Int32))), .int y5.1] [] cv_RX12_199 (c_X12_put (ad0 := ad0) z_52 e_y6) rfl rfl rfl rfl rfl rfl rfl rfl rfl rfl rfl rfl rfl rfl rfl (Nat.le_of_ble_eq_true rfl) ⟨Nat.le_of_ble_eq_true rfl, Nat.le_of_ble_eq_true rfl⟩ dX12_readWalker_55 (fun z_55 => ?_)
        refine a_if_ne (pc := 58) X 63 dX12_readWalker_58 rfl (fun c_58 => ?_) (fun c_58 => ?_)
        · have h := x_ifn c_58 h
          refine a_aload_n (pc := 63) X 1 dX12_readWalker_63 rfl rfl ?_
          refine a_getR (pc := 64) X 0 3 3 fl_RX12_101 rfl rfl rfl rfl rfl dX12_readWalker_64 ?_
          refine a_iconst (pc := 67) X dX12_readWalker_67 q_ic_3 ?_
          refine a_dup2 (pc := 68) X dX12_readWalker_68 rfl rfl ?_
          refine a_iald (pc := 69) X 0 rfl rfl rfl (x_inl (by decide)) dX12_readWalker_69 ?_
          refine a_iconst (pc := 70) X dX12_readWalker_70 q_ic_1 ?_
          refine a_iadd (pc := 71) X dX12_readWalker_71 ?_
          refine a_iast (pc := 72) X 0 rfl rfl rfl (x_inl (by decide)) dX12_readWalker_72 ?_
          obtain ⟨m7, e_m7, h⟩ := x_lt_elim h
          refine a_nm (vs2 := [m7]) (congrArg (fun q : XM => [q]) e_m7) ?_
          refine a_iconst (pc := 73) X dX12_readWalker_73 q_ic_1 ?_
          have h := Option.some.inj h; subst h
          exact a_zret (pc := 74) X x_Z1 x_Z1 dX12_readWalker_74
        · have h := x_ifp c_58 h
          refine a_iconst (pc := 61) X dX12_readWalker_61 q_ic_0 ?_
          have h := Option.some.inj h; subst h
          exact a_zret (pc := 62) X x_Z0 x_Z0 dX12_readWalker_62
  · have h := x_ifp c_6 h
    refine a_iconst (pc := 9) X dX12_readWalker_9 q_ic_0 ?_
    have h := Option.some.inj h; subst h
    exact a_zret (pc := 10) X x_Z0 x_Z0 dX12_readWalker_10
theorem dX12_readBreath_0 : decode cX12_readBreath 0 = .ok (.aload_n 0, 1) := by decide +kernel
theorem dX12_readBreath_1 : decode cX12_readBreath 1 = .ok (.getfield 206, 3) := by decide +kernel
theorem dX12_readBreath_4 : decode cX12_readBreath 4 = .ok (.ifCond .eq 9, 3) := by decide +kernel
theorem dX12_readBreath_7 : decode cX12_readBreath 7 = .ok (.aload_n 0, 1) := by decide +kernel
theorem dX12_readBreath_8 : decode cX12_readBreath 8 = .ok (.iconst 3, 1) := by decide +kernel
theorem dX12_readBreath_9 : decode cX12_readBreath 9 = .ok (.invokevirtual 72, 3) := by decide +kernel
theorem dX12_readBreath_12 : decode cX12_readBreath 12 = .ok (.ireturn, 1) := by decide +kernel
theorem dX12_readBreath_13 : decode cX12_readBreath 13 = .ok (.aload_n 0, 1) := by decide +kernel
theorem dX12_readBreath_14 : decode cX12_readBreath 14 = .ok (.iconst 1, 1) := by decide +kernel
theorem dX12_readBreath_15 : decode cX12_readBreath 15 = .ok (.putfield 206, 3) := by decide +kernel
theorem dX12_readBreath_18 : decode cX12_readBreath 18 = .ok (.aload_n 0, 1) := by decide +kernel
theorem dX12_readBreath_19 : decode cX12_readBreath 19 = .ok (.invokevirtual 82, 3) := by decide +kernel
theorem dX12_readBreath_22 : decode cX12_readBreath 22 = .ok (.aload_n 0, 1) := by decide +kernel
theorem dX12_readBreath_23 : decode cX12_readBreath 23 = .ok (.iconst 4, 1) := by decide +kernel
theorem dX12_readBreath_24 : decode cX12_readBreath 24 = .ok (.aload_n 0, 1) := by decide +kernel
theorem dX12_readBreath_25 : decode cX12_readBreath 25 = .ok (.iconst 2, 1) := by decide +kernel
theorem dX12_readBreath_26 : decode cX12_readBreath 26 = .ok (.bipush 40, 2) := by decide +kernel
theorem dX12_readBreath_28 : decode cX12_readBreath 28 = .ok (.invokevirtual 196, 3) := by decide +kernel
theorem dX12_readBreath_31 : decode cX12_readBreath 31 = .ok (.invokevirtual 199, 3) := by decide +kernel
theorem dX12_readBreath_34 : decode cX12_readBreath 34 = .ok (.ireturn, 1) := by decide +kernel
def f_X12_readBreath (v0 : XM) : Option (Int32 × XM) :=
  if (v0.1 0 23) = (0 : Int32) then
  (x_lt (x_si v0 0 23 (1 : Int32)) (fun m1 =>
  x_bo (f_X12_go m1) (fun y2 =>
  x_bo (f_X12_readNumber y2 (2 : Int32) (40 : Int32)) (fun y3 =>
  x_bo (f_X12_put y3.2 (4 : Int32) y3.1) (fun y4 =>
  some (y4.1, y4.2))))))
  else (x_lt (f_X12_bad v0 (3 : Int32)) (fun y5 =>
  some (y5.1, y5.2)))
set_option maxRecDepth 100000 in
set_option maxHeartbeats 4000000 in
theorem c_X12_readBreath {l : Launch}  {ad0 : Nat → Nat} {v0 : XM}   {o : Int32 × XM} (h : f_X12_readBreath v0 = some o) : CT l yX12_readBreath cX12_readBreath 1 (some .boolean) 3 [(shModel, ad0)] [v0] (fun aK => [.ref (ad0 0)]) (some (.int o.1)) (x_Z o.1) [o.2] := by
  refine CT_of (by decide) (fun _ => Nat.le_of_ble_eq_true rfl) ?_
  intro p e s m args below meth c D tc aK aV A X
  have X : Cx p s m args meth c cX12_readBreath 1 (some .boolean) RX12 D tc aK aV A [(shModel, ad0)] := X
  show aW p l e (x_Rm 3) s m args below meth c D tc A 1 [(shModel, ad0)] (some (.int o.1)) (x_Z o.1) [o.2] 0 [(0, .ref (ad0 0))] [] [v0]
  unfold f_X12_readBreath at h
  refine a_aload_n (pc := 0) X 0 dX12_readBreath_0 rfl rfl ?_
  refine a_getI (pc := 1) X 0 fl_RX12_206 rfl rfl rfl rfl dX12_readBreath_1 ?_
  refine a_if_eq (pc := 4) X 13 dX12_readBreath_4 rfl (fun c_4 => ?_) (fun c_4 => ?_)
  · have h := x_ifp c_4 h
    refine a_aload_n (pc := 13) X 0 dX12_readBreath_13 rfl rfl ?_
    refine a_iconst (pc := 14) X dX12_readBreath_14 q_ic_1 ?_
    refine a_putZ (pc := 15) X 0 x_Z1 fl_RX12_206 rfl rfl rfl rfl dX12_readBreath_15 ?_
    obtain ⟨m1, e_m1, h⟩ := x_lt_elim h
    refine a_nm (vs2 := [m1]) (congrArg (fun q : XM => [q]) e_m1) ?_
    refine a_aload_n (pc := 18) X 0 dX12_readBreath_18 rfl rfl ?_
    obtain ⟨y2, e_y2, h⟩ := x_bo_elim h
    refine a_callV (pc := 19) (st2 := []) (vs2 := [y2]) X [(0, 0, 20)] [some y2] 0 0 12 [] [] cv_RX12_82 (c_X12_go (ad0 := ad0)  e_y2) rfl rfl rfl rfl rfl rfl rfl rfl rfl rfl rfl rfl rfl rfl rfl (Nat.le_of_ble_eq_true rfl) ⟨Nat.le_of_ble_eq_true rfl, Nat.le_of_ble_eq_true rfl⟩ dX12_readBreath_19 (fun _ => ?_)
    refine a_aload_n (pc := 22) X 0 dX12_readBreath_22 rfl rfl ?_
    refine a_iconst (pc := 23) X dX12_readBreath_23 q_ic_4 ?_
    refine a_aload_n (pc := 24) X 0 dX12_readBreath_24 rfl rfl ?_
    refine a_iconst (pc := 25) X dX12_readBreath_25 q_ic_2 ?_
    refine a_bipush (pc := 26) X dX12_readBreath_26 q_bp_40 ?_
    obtain ⟨y3, e_y3, h⟩ := x_bo_elim h
    refine a_callV (pc := 28) (st2 := [.int y3.1, .int (4 : Int32), .ref (ad0 0)]) (vs2 := [y3.2]) X [(0, 0, 20)] [some y3.2] 0 0 12 [.int (2 : Int32), .int (40 : Int32)] [.int (4 : Int32), .ref (ad0 0)] cv_RX12_196 (c_X12_readNumber (ad0 := ad0)  e_y3) rfl rfl rfl rfl rfl rfl rfl rfl rfl rfl rfl rfl rfl rfl rfl (Nat.le_of_ble_eq_true rfl) ⟨Nat.le_of_ble_eq_true rfl, Nat.le_of_ble_eq_true rfl⟩ dX12_readBreath_28 (fun z_28 => ?_)
    obtain ⟨y4, e_y4, h⟩ := x_bo_elim h
    refine a_callV (pc := 31) (st2 := [.int y4.1]) (vs2 := [y4.2]) X [(0, 0, 20)] [some y4.2] 0 0 12 [.int (4 : Int32), .int y3.1] [] cv_RX12_199 (c_X12_put (ad0 := ad0) z_28 e_y4) rfl rfl rfl rfl rfl rfl rfl rfl rfl rfl rfl rfl rfl rfl rfl (Nat.le_of_ble_eq_true rfl) ⟨Nat.le_of_ble_eq_true rfl, Nat.le_of_ble_eq_true rfl⟩ dX12_readBreath_31 (fun z_31 => ?_)
    have h := Option.some.inj h; subst h
    exact a_zret (pc := 34) X z_31 z_31 dX12_readBreath_34
  · have h := x_ifn c_4 h
    refine a_aload_n (pc := 7) X 0 dX12_readBreath_7 rfl rfl ?_
    refine a_iconst (pc := 8) X dX12_readBreath_8 q_ic_3 ?_
    obtain ⟨y5, e_y5, h⟩ := x_lt_elim h
    refine a_callV (pc := 9) (st2 := [.int y5.1]) (vs2 := [y5.2]) X [(0, 0, 20)] [some y5.2] 0 0 12 [.int (3 : Int32)] [] cv_RX12_72 (c_X12_bad (ad0 := ad0)  e_y5) rfl rfl rfl rfl rfl rfl rfl rfl rfl rfl rfl rfl rfl rfl rfl (Nat.le_of_ble_eq_true rfl) ⟨Nat.le_of_ble_eq_true rfl, Nat.le_of_ble_eq_true rfl⟩ dX12_readBreath_9 (fun z_9 => ?_)
    have h := Option.some.inj h; subst h
    exact a_zret (pc := 12) X z_9 z_9 dX12_readBreath_12
theorem dX12_readLine_0 : decode cX12_readLine 0 = .ok (.aload_n 0, 1) := by decide +kernel
theorem dX12_readLine_1 : decode cX12_readLine 1 = .ok (.iconst 0, 1) := by decide +kernel
theorem dX12_readLine_2 : decode cX12_readLine 2 = .ok (.invokevirtual 180, 3) := by decide +kernel
theorem dX12_readLine_5 : decode cX12_readLine 5 = .ok (.ifCond .eq 8, 3) := by decide +kernel
theorem dX12_readLine_8 : decode cX12_readLine 8 = .ok (.aload_n 0, 1) := by decide +kernel
theorem dX12_readLine_9 : decode cX12_readLine 9 = .ok (.invokevirtual 210, 3) := by decide +kernel
theorem dX12_readLine_12 : decode cX12_readLine 12 = .ok (.ireturn, 1) := by decide +kernel
theorem dX12_readLine_13 : decode cX12_readLine 13 = .ok (.aload_n 0, 1) := by decide +kernel
theorem dX12_readLine_14 : decode cX12_readLine 14 = .ok (.iconst 2, 1) := by decide +kernel
theorem dX12_readLine_15 : decode cX12_readLine 15 = .ok (.invokevirtual 180, 3) := by decide +kernel
theorem dX12_readLine_18 : decode cX12_readLine 18 = .ok (.ifCond .eq 8, 3) := by decide +kernel
theorem dX12_readLine_21 : decode cX12_readLine 21 = .ok (.aload_n 0, 1) := by decide +kernel
theorem dX12_readLine_22 : decode cX12_readLine 22 = .ok (.invokevirtual 213, 3) := by decide +kernel
theorem dX12_readLine_25 : decode cX12_readLine 25 = .ok (.ireturn, 1) := by decide +kernel
theorem dX12_readLine_26 : decode cX12_readLine 26 = .ok (.aload_n 0, 1) := by decide +kernel
theorem dX12_readLine_27 : decode cX12_readLine 27 = .ok (.bipush 6, 2) := by decide +kernel
theorem dX12_readLine_29 : decode cX12_readLine 29 = .ok (.invokevirtual 180, 3) := by decide +kernel
theorem dX12_readLine_32 : decode cX12_readLine 32 = .ok (.ifCond .eq 8, 3) := by decide +kernel
theorem dX12_readLine_35 : decode cX12_readLine 35 = .ok (.aload_n 0, 1) := by decide +kernel
theorem dX12_readLine_36 : decode cX12_readLine 36 = .ok (.invokevirtual 216, 3) := by decide +kernel
theorem dX12_readLine_39 : decode cX12_readLine 39 = .ok (.ireturn, 1) := by decide +kernel
theorem dX12_readLine_40 : decode cX12_readLine 40 = .ok (.aload_n 0, 1) := by decide +kernel
theorem dX12_readLine_41 : decode cX12_readLine 41 = .ok (.bipush 7, 2) := by decide +kernel
theorem dX12_readLine_43 : decode cX12_readLine 43 = .ok (.invokevirtual 180, 3) := by decide +kernel
theorem dX12_readLine_46 : decode cX12_readLine 46 = .ok (.ifCond .eq 8, 3) := by decide +kernel
theorem dX12_readLine_49 : decode cX12_readLine 49 = .ok (.aload_n 0, 1) := by decide +kernel
theorem dX12_readLine_50 : decode cX12_readLine 50 = .ok (.invokevirtual 219, 3) := by decide +kernel
theorem dX12_readLine_53 : decode cX12_readLine 53 = .ok (.ireturn, 1) := by decide +kernel
theorem dX12_readLine_54 : decode cX12_readLine 54 = .ok (.aload_n 0, 1) := by decide +kernel
theorem dX12_readLine_55 : decode cX12_readLine 55 = .ok (.bipush 8, 2) := by decide +kernel
theorem dX12_readLine_57 : decode cX12_readLine 57 = .ok (.invokevirtual 180, 3) := by decide +kernel
theorem dX12_readLine_60 : decode cX12_readLine 60 = .ok (.ifCond .eq 10, 3) := by decide +kernel
theorem dX12_readLine_63 : decode cX12_readLine 63 = .ok (.aload_n 0, 1) := by decide +kernel
theorem dX12_readLine_64 : decode cX12_readLine 64 = .ok (.invokevirtual 222, 3) := by decide +kernel
theorem dX12_readLine_67 : decode cX12_readLine 67 = .ok (.goto 8, 3) := by decide +kernel
theorem dX12_readLine_70 : decode cX12_readLine 70 = .ok (.aload_n 0, 1) := by decide +kernel
theorem dX12_readLine_71 : decode cX12_readLine 71 = .ok (.iconst 1, 1) := by decide +kernel
theorem dX12_readLine_72 : decode cX12_readLine 72 = .ok (.invokevirtual 72, 3) := by decide +kernel
theorem dX12_readLine_75 : decode cX12_readLine 75 = .ok (.ireturn, 1) := by decide +kernel
def f_X12_readLine (v0 : XM) : Option (Int32 × XM) :=
  x_lt (f_X12_isWord v0 (0 : Int32)) (fun y1 =>
  if y1 = (0 : Int32) then
  (x_lt (f_X12_isWord v0 (2 : Int32)) (fun y2 =>
  if y2 = (0 : Int32) then
  (x_lt (f_X12_isWord v0 (6 : Int32)) (fun y3 =>
  if y3 = (0 : Int32) then
  (x_lt (f_X12_isWord v0 (7 : Int32)) (fun y4 =>
  if y4 = (0 : Int32) then
  (x_lt (f_X12_isWord v0 (8 : Int32)) (fun y5 =>
  if y5 = (0 : Int32) then
  (x_lt (f_X12_bad v0 (1 : Int32)) (fun y6 =>
  some (y6.1, y6.2)))
  else (x_bo (f_X12_readBreath v0) (fun y7 =>
  some (y7.1, y7.2)))))
  else (x_bo (f_X12_readWalker v0) (fun y8 =>
  some (y8.1, y8.2)))))
  else (x_bo (f_X12_readThing v0) (fun y9 =>
  some (y9.1, y9.2)))))
  else (x_bo (f_X12_readFold v0) (fun y10 =>
  some (y10.1, y10.2)))))
  else (x_bo (f_X12_readSpot v0) (fun y11 =>
  some (y11.1, y11.2))))
set_option maxRecDepth 100000 in
set_option maxHeartbeats 4000000 in
theorem c_X12_readLine {l : Launch}  {ad0 : Nat → Nat} {v0 : XM}   {o : Int32 × XM} (h : f_X12_readLine v0 = some o) : CT l yX12_readLine cX12_readLine 1 (some .boolean) 6 [(shModel, ad0)] [v0] (fun aK => [.ref (ad0 0)]) (some (.int o.1)) (x_Z o.1) [o.2] := by
  refine CT_of (by decide) (fun _ => Nat.le_of_ble_eq_true rfl) ?_
  intro p e s m args below meth c D tc aK aV A X
  have X : Cx p s m args meth c cX12_readLine 1 (some .boolean) RX12 D tc aK aV A [(shModel, ad0)] := X
  show aW p l e (x_Rm 6) s m args below meth c D tc A 1 [(shModel, ad0)] (some (.int o.1)) (x_Z o.1) [o.2] 0 [(0, .ref (ad0 0))] [] [v0]
  unfold f_X12_readLine at h
  refine a_aload_n (pc := 0) X 0 dX12_readLine_0 rfl rfl ?_
  refine a_iconst (pc := 1) X dX12_readLine_1 q_ic_0 ?_
  obtain ⟨y1, e_y1, h⟩ := x_lt_elim h
  refine a_callV (pc := 2) (st2 := [.int y1]) (vs2 := [v0]) X [(0, 0, 20)] [none] 0 0 12 [.int (0 : Int32)] [] cv_RX12_180 (c_X12_isWord (ad0 := ad0)  e_y1) rfl rfl rfl rfl rfl rfl rfl rfl rfl rfl rfl rfl rfl rfl rfl (Nat.le_of_ble_eq_true rfl) ⟨Nat.le_of_ble_eq_true rfl, Nat.le_of_ble_eq_true rfl⟩ dX12_readLine_2 (fun z_2 => ?_)
  refine a_if_eq (pc := 5) X 13 dX12_readLine_5 rfl (fun c_5 => ?_) (fun c_5 => ?_)
  · have h := x_ifp c_5 h
    refine a_aload_n (pc := 13) X 0 dX12_readLine_13 rfl rfl ?_
    refine a_iconst (pc := 14) X dX12_readLine_14 q_ic_2 ?_
    obtain ⟨y2, e_y2, h⟩ := x_lt_elim h
    refine a_callV (pc := 15) (st2 := [.int y2]) (vs2 := [v0]) X [(0, 0, 20)] [none] 0 0 12 [.int (2 : Int32)] [] cv_RX12_180 (c_X12_isWord (ad0 := ad0)  e_y2) rfl rfl rfl rfl rfl rfl rfl rfl rfl rfl rfl rfl rfl rfl rfl (Nat.le_of_ble_eq_true rfl) ⟨Nat.le_of_ble_eq_true rfl, Nat.le_of_ble_eq_true rfl⟩ dX12_readLine_15 (fun z_15 => ?_)
    refine a_if_eq (pc := 18) X 26 dX12_readLine_18 rfl (fun c_18 => ?_) (fun c_18 => ?_)
    · have h := x_ifp c_18 h
      refine a_aload_n (pc := 26) X 0 dX12_readLine_26 rfl rfl ?_
      refine a_bipush (pc := 27) X dX12_readLine_27 q_bp_6 ?_
      obtain ⟨y3, e_y3, h⟩ := x_lt_elim h
      refine a_callV (pc := 29) (st2 := [.int y3]) (vs2 := [v0]) X [(0, 0, 20)] [none] 0 0 12 [.int (6 : Int32)] [] cv_RX12_180 (c_X12_isWord (ad0 := ad0)  e_y3) rfl rfl rfl rfl rfl rfl rfl rfl rfl rfl rfl rfl rfl rfl rfl (Nat.le_of_ble_eq_true rfl) ⟨Nat.le_of_ble_eq_true rfl, Nat.le_of_ble_eq_true rfl⟩ dX12_readLine_29 (fun z_29 => ?_)
      refine a_if_eq (pc := 32) X 40 dX12_readLine_32 rfl (fun c_32 => ?_) (fun c_32 => ?_)
      · have h := x_ifp c_32 h
        refine a_aload_n (pc := 40) X 0 dX12_readLine_40 rfl rfl ?_
        refine a_bipush (pc := 41) X dX12_readLine_41 q_bp_7 ?_
        obtain ⟨y4, e_y4, h⟩ := x_lt_elim h
        refine a_callV (pc := 43) (st2 := [.int y4]) (vs2 := [v0]) X [(0, 0, 20)] [none] 0 0 12 [.int (7 : Int32)] [] cv_RX12_180 (c_X12_isWord (ad0 := ad0)  e_y4) rfl rfl rfl rfl rfl rfl rfl rfl rfl rfl rfl rfl rfl rfl rfl (Nat.le_of_ble_eq_true rfl) ⟨Nat.le_of_ble_eq_true rfl, Nat.le_of_ble_eq_true rfl⟩ dX12_readLine_43 (fun z_43 => ?_)
        refine a_if_eq (pc := 46) X 54 dX12_readLine_46 rfl (fun c_46 => ?_) (fun c_46 => ?_)
        · have h := x_ifp c_46 h
          refine a_aload_n (pc := 54) X 0 dX12_readLine_54 rfl rfl ?_
          refine a_bipush (pc := 55) X dX12_readLine_55 q_bp_8 ?_
          obtain ⟨y5, e_y5, h⟩ := x_lt_elim h
          refine a_callV (pc := 57) (st2 := [.int y5]) (vs2 := [v0]) X [(0, 0, 20)] [none] 0 0 12 [.int (8 : Int32)] [] cv_RX12_180 (c_X12_isWord (ad0 := ad0)  e_y5) rfl rfl rfl rfl rfl rfl rfl rfl rfl rfl rfl rfl rfl rfl rfl (Nat.le_of_ble_eq_true rfl) ⟨Nat.le_of_ble_eq_true rfl, Nat.le_of_ble_eq_true rfl⟩ dX12_readLine_57 (fun z_57 => ?_)
          refine a_if_eq (pc := 60) X 70 dX12_readLine_60 rfl (fun c_60 => ?_) (fun c_60 => ?_)
          · have h := x_ifp c_60 h
            refine a_aload_n (pc := 70) X 0 dX12_readLine_70 rfl rfl ?_
            refine a_iconst (pc := 71) X dX12_readLine_71 q_ic_1 ?_
            obtain ⟨y6, e_y6, h⟩ := x_lt_elim h
            refine a_callV (pc := 72) (st2 := [.int y6.1]) (vs2 := [y6.2]) X [(0, 0, 20)] [some y6.2] 0 0 12 [.int (1 : Int32)] [] cv_RX12_72 (c_X12_bad (ad0 := ad0)  e_y6) rfl rfl rfl rfl rfl rfl rfl rfl rfl rfl rfl rfl rfl rfl rfl (Nat.le_of_ble_eq_true rfl) ⟨Nat.le_of_ble_eq_true rfl, Nat.le_of_ble_eq_true rfl⟩ dX12_readLine_72 (fun z_72 => ?_)
            have h := Option.some.inj h; subst h
            exact a_zret (pc := 75) X z_72 z_72 dX12_readLine_75
          · have h := x_ifn c_60 h
            refine a_aload_n (pc := 63) X 0 dX12_readLine_63 rfl rfl ?_
            obtain ⟨y7, e_y7, h⟩ := x_bo_elim h
            refine a_callV (pc := 64) (st2 := [.int y7.1]) (vs2 := [y7.2]) X [(0, 0, 20)] [some y7.2] 0 0 12 [] [] cv_RX12_222 (c_X12_readBreath (ad0 := ad0)  e_y7) rfl rfl rfl rfl rfl rfl rfl rfl rfl rfl rfl rfl rfl rfl rfl (Nat.le_of_ble_eq_true rfl) ⟨Nat.le_of_ble_eq_true rfl, Nat.le_of_ble_eq_true rfl⟩ dX12_readLine_64 (fun z_64 => ?_)
            refine a_goto (pc := 67) X 75 dX12_readLine_67 rfl ?_
            have h := Option.some.inj h; subst h
            exact a_zret (pc := 75) X z_64 z_64 dX12_readLine_75
        · have h := x_ifn c_46 h
          refine a_aload_n (pc := 49) X 0 dX12_readLine_49 rfl rfl ?_
          obtain ⟨y8, e_y8, h⟩ := x_bo_elim h
          refine a_callV (pc := 50) (st2 := [.int y8.1]) (vs2 := [y8.2]) X [(0, 0, 20)] [some y8.2] 0 0 12 [] [] cv_RX12_219 (c_X12_readWalker (ad0 := ad0)  e_y8) rfl rfl rfl rfl rfl rfl rfl rfl rfl rfl rfl rfl rfl rfl rfl (Nat.le_of_ble_eq_true rfl) ⟨Nat.le_of_ble_eq_true rfl, Nat.le_of_ble_eq_true rfl⟩ dX12_readLine_50 (fun z_50 => ?_)
          have h := Option.some.inj h; subst h
          exact a_zret (pc := 53) X z_50 z_50 dX12_readLine_53
      · have h := x_ifn c_32 h
        refine a_aload_n (pc := 35) X 0 dX12_readLine_35 rfl rfl ?_
        obtain ⟨y9, e_y9, h⟩ := x_bo_elim h
        refine a_callV (pc := 36) (st2 := [.int y9.1]) (vs2 := [y9.2]) X [(0, 0, 20)] [some y9.2] 0 0 12 [] [] cv_RX12_216 (c_X12_readThing (ad0 := ad0)  e_y9) rfl rfl rfl rfl rfl rfl rfl rfl rfl rfl rfl rfl rfl rfl rfl (Nat.le_of_ble_eq_true rfl) ⟨Nat.le_of_ble_eq_true rfl, Nat.le_of_ble_eq_true rfl⟩ dX12_readLine_36 (fun z_36 => ?_)
        have h := Option.some.inj h; subst h
        exact a_zret (pc := 39) X z_36 z_36 dX12_readLine_39
    · have h := x_ifn c_18 h
      refine a_aload_n (pc := 21) X 0 dX12_readLine_21 rfl rfl ?_
      obtain ⟨y10, e_y10, h⟩ := x_bo_elim h
      refine a_callV (pc := 22) (st2 := [.int y10.1]) (vs2 := [y10.2]) X [(0, 0, 20)] [some y10.2] 0 0 12 [] [] cv_RX12_213 (c_X12_readFold (ad0 := ad0)  e_y10) rfl rfl rfl rfl rfl rfl rfl rfl rfl rfl rfl rfl rfl rfl rfl (Nat.le_of_ble_eq_true rfl) ⟨Nat.le_of_ble_eq_true rfl, Nat.le_of_ble_eq_true rfl⟩ dX12_readLine_22 (fun z_22 => ?_)
      have h := Option.some.inj h; subst h
      exact a_zret (pc := 25) X z_22 z_22 dX12_readLine_25
  · have h := x_ifn c_5 h
    refine a_aload_n (pc := 8) X 0 dX12_readLine_8 rfl rfl ?_
    obtain ⟨y11, e_y11, h⟩ := x_bo_elim h
    refine a_callV (pc := 9) (st2 := [.int y11.1]) (vs2 := [y11.2]) X [(0, 0, 20)] [some y11.2] 0 0 12 [] [] cv_RX12_210 (c_X12_readSpot (ad0 := ad0)  e_y11) rfl rfl rfl rfl rfl rfl rfl rfl rfl rfl rfl rfl rfl rfl rfl (Nat.le_of_ble_eq_true rfl) ⟨Nat.le_of_ble_eq_true rfl, Nat.le_of_ble_eq_true rfl⟩ dX12_readLine_9 (fun z_9 => ?_)
    have h := Option.some.inj h; subst h
    exact a_zret (pc := 12) X z_9 z_9 dX12_readLine_12
theorem dX12_valley_0 : decode cX12_valley 0 = .ok (.aload_n 0, 1) := by decide +kernel
theorem dX12_valley_1 : decode cX12_valley 1 = .ok (.sipush 900, 3) := by decide +kernel
theorem dX12_valley_4 : decode cX12_valley 4 = .ok (.invokevirtual 225, 3) := by decide +kernel
theorem dX12_valley_7 : decode cX12_valley 7 = .ok (.iconst 0, 1) := by decide +kernel
theorem dX12_valley_8 : decode cX12_valley 8 = .ok (.istore_n 1, 1) := by decide +kernel
theorem dX12_valley_9 : decode cX12_valley 9 = .ok (.iload_n 1, 1) := by decide +kernel
theorem dX12_valley_10 : decode cX12_valley 10 = .ok (.bipush 70, 2) := by decide +kernel
theorem dX12_valley_12 : decode cX12_valley 12 = .ok (.if_icmp .ge 16, 3) := by decide +kernel
theorem dX12_valley_15 : decode cX12_valley 15 = .ok (.aload_n 0, 1) := by decide +kernel
theorem dX12_valley_16 : decode cX12_valley 16 = .ok (.getfield 101, 3) := by decide +kernel
theorem dX12_valley_19 : decode cX12_valley 19 = .ok (.iload_n 1, 1) := by decide +kernel
theorem dX12_valley_20 : decode cX12_valley 20 = .ok (.iconst 0, 1) := by decide +kernel
theorem dX12_valley_21 : decode cX12_valley 21 = .ok (.iastore, 1) := by decide +kernel
theorem dX12_valley_22 : decode cX12_valley 22 = .ok (.iinc 1 1, 3) := by decide +kernel
theorem dX12_valley_25 : decode cX12_valley 25 = .ok (.goto (-16), 3) := by decide +kernel
theorem dX12_valley_28 : decode cX12_valley 28 = .ok (.aload_n 0, 1) := by decide +kernel
theorem dX12_valley_29 : decode cX12_valley 29 = .ok (.iconst 0, 1) := by decide +kernel
theorem dX12_valley_30 : decode cX12_valley 30 = .ok (.putfield 206, 3) := by decide +kernel
theorem dX12_valley_33 : decode cX12_valley 33 = .ok (.aload_n 0, 1) := by decide +kernel
theorem dX12_valley_34 : decode cX12_valley 34 = .ok (.getfield 101, 3) := by decide +kernel
theorem dX12_valley_37 : decode cX12_valley 37 = .ok (.iconst 4, 1) := by decide +kernel
theorem dX12_valley_38 : decode cX12_valley 38 = .ok (.bipush 12, 2) := by decide +kernel
theorem dX12_valley_40 : decode cX12_valley 40 = .ok (.iastore, 1) := by decide +kernel
theorem dX12_valley_41 : decode cX12_valley 41 = .ok (.iconst 0, 1) := by decide +kernel
theorem dX12_valley_42 : decode cX12_valley 42 = .ok (.istore_n 1, 1) := by decide +kernel
theorem dX12_valley_43 : decode cX12_valley 43 = .ok (.aload_n 0, 1) := by decide +kernel
theorem dX12_valley_44 : decode cX12_valley 44 = .ok (.getfield 30, 3) := by decide +kernel
theorem dX12_valley_47 : decode cX12_valley 47 = .ok (.ifCond .eq 30, 3) := by decide +kernel
theorem dX12_valley_50 : decode cX12_valley 50 = .ok (.aload_n 0, 1) := by decide +kernel
theorem dX12_valley_51 : decode cX12_valley 51 = .ok (.invokevirtual 228, 3) := by decide +kernel
theorem dX12_valley_54 : decode cX12_valley 54 = .ok (.ifCond .eq 10, 3) := by decide +kernel
theorem dX12_valley_57 : decode cX12_valley 57 = .ok (.aload_n 0, 1) := by decide +kernel
theorem dX12_valley_58 : decode cX12_valley 58 = .ok (.invokevirtual 231, 3) := by decide +kernel
theorem dX12_valley_61 : decode cX12_valley 61 = .ok (.ifCond .ne 10, 3) := by decide +kernel
theorem dX12_valley_64 : decode cX12_valley 64 = .ok (.iconst (-1), 1) := by decide +kernel
theorem dX12_valley_65 : decode cX12_valley 65 = .ok (.aload_n 0, 1) := by decide +kernel
theorem dX12_valley_66 : decode cX12_valley 66 = .ok (.getfield 69, 3) := by decide +kernel
theorem dX12_valley_69 : decode cX12_valley 69 = .ok (.isub, 1) := by decide +kernel
theorem dX12_valley_70 : decode cX12_valley 70 = .ok (.ireturn, 1) := by decide +kernel
theorem dX12_valley_71 : decode cX12_valley 71 = .ok (.iinc 1 1, 3) := by decide +kernel
theorem dX12_valley_74 : decode cX12_valley 74 = .ok (.goto (-31), 3) := by decide +kernel
theorem dX12_valley_77 : decode cX12_valley 77 = .ok (.iconst 0, 1) := by decide +kernel
theorem dX12_valley_78 : decode cX12_valley 78 = .ok (.istore_n 2, 1) := by decide +kernel
theorem dX12_valley_79 : decode cX12_valley 79 = .ok (.iload_n 2, 1) := by decide +kernel
theorem dX12_valley_80 : decode cX12_valley 80 = .ok (.bipush 70, 2) := by decide +kernel
theorem dX12_valley_82 : decode cX12_valley 82 = .ok (.if_icmp .ge 21, 3) := by decide +kernel
theorem dX12_valley_85 : decode cX12_valley 85 = .ok (.aload_n 0, 1) := by decide +kernel
theorem dX12_valley_86 : decode cX12_valley 86 = .ok (.getfield 98, 3) := by decide +kernel
theorem dX12_valley_89 : decode cX12_valley 89 = .ok (.iload_n 2, 1) := by decide +kernel
theorem dX12_valley_90 : decode cX12_valley 90 = .ok (.aload_n 0, 1) := by decide +kernel
theorem dX12_valley_91 : decode cX12_valley 91 = .ok (.getfield 101, 3) := by decide +kernel
theorem dX12_valley_94 : decode cX12_valley 94 = .ok (.iload_n 2, 1) := by decide +kernel
theorem dX12_valley_95 : decode cX12_valley 95 = .ok (.iaload, 1) := by decide +kernel
theorem dX12_valley_96 : decode cX12_valley 96 = .ok (.iastore, 1) := by decide +kernel
theorem dX12_valley_97 : decode cX12_valley 97 = .ok (.iinc 2 1, 3) := by decide +kernel
theorem dX12_valley_100 : decode cX12_valley 100 = .ok (.goto (-21), 3) := by decide +kernel
theorem dX12_valley_103 : decode cX12_valley 103 = .ok (.iconst 0, 1) := by decide +kernel
theorem dX12_valley_104 : decode cX12_valley 104 = .ok (.istore_n 2, 1) := by decide +kernel
theorem dX12_valley_105 : decode cX12_valley 105 = .ok (.iload_n 2, 1) := by decide +kernel
theorem dX12_valley_106 : decode cX12_valley 106 = .ok (.bipush 19, 2) := by decide +kernel
theorem dX12_valley_108 : decode cX12_valley 108 = .ok (.if_icmp .ge 21, 3) := by decide +kernel
theorem dX12_valley_111 : decode cX12_valley 111 = .ok (.aload_n 0, 1) := by decide +kernel
theorem dX12_valley_112 : decode cX12_valley 112 = .ok (.getfield 113, 3) := by decide +kernel
theorem dX12_valley_115 : decode cX12_valley 115 = .ok (.iload_n 2, 1) := by decide +kernel
theorem dX12_valley_116 : decode cX12_valley 116 = .ok (.aload_n 0, 1) := by decide +kernel
theorem dX12_valley_117 : decode cX12_valley 117 = .ok (.getfield 117, 3) := by decide +kernel
theorem dX12_valley_120 : decode cX12_valley 120 = .ok (.iload_n 2, 1) := by decide +kernel
theorem dX12_valley_121 : decode cX12_valley 121 = .ok (.laload, 1) := by decide +kernel
theorem dX12_valley_122 : decode cX12_valley 122 = .ok (.lastore, 1) := by decide +kernel
theorem dX12_valley_123 : decode cX12_valley 123 = .ok (.iinc 2 1, 3) := by decide +kernel
theorem dX12_valley_126 : decode cX12_valley 126 = .ok (.goto (-21), 3) := by decide +kernel
theorem dX12_valley_129 : decode cX12_valley 129 = .ok (.aload_n 0, 1) := by decide +kernel
theorem dX12_valley_130 : decode cX12_valley 130 = .ok (.invokevirtual 163, 3) := by decide +kernel
theorem dX12_valley_133 : decode cX12_valley 133 = .ok (.aload_n 0, 1) := by decide +kernel
theorem dX12_valley_134 : decode cX12_valley 134 = .ok (.iconst 0, 1) := by decide +kernel
theorem dX12_valley_135 : decode cX12_valley 135 = .ok (.putfield 234, 3) := by decide +kernel
theorem dX12_valley_138 : decode cX12_valley 138 = .ok (.iload_n 1, 1) := by decide +kernel
theorem dX12_valley_139 : decode cX12_valley 139 = .ok (.ireturn, 1) := by decide +kernel
def f_X12_valley_64 (w0 : XM) : Option (Int32 × XM) :=
  some ((-1 : Int32) - (w0.1 0 11), w0)
def f_X12_valley_105 (k105 : XM → Int32 → Int32 → Option (Int32 × XM)) (w0 : XM) (l1 : Int32) (l2 : Int32) : Option (Int32 × XM) :=
  if ((19 : Int32) : Int32) ≤ l2 then
  (x_bo (f_X12_startSo w0) (fun y1 =>
  x_lt (x_si y1 0 24 (0 : Int32)) (fun m2 =>
  some (l1, m2))))
  else (x_ck l2 19 (
  x_ck l2 19 (
  x_lt (x_pl w0 7 l2 (x_gl w0 8 l2)) (fun m3 =>
  k105 m3 l1 (l2 + 1)))))
def f_X12_valley_79 (k79 : XM → Int32 → Int32 → Option (Int32 × XM)) (w0 : XM) (l1 : Int32) (l2 : Int32) : Option (Int32 × XM) :=
  if ((70 : Int32) : Int32) ≤ l2 then
  (x_lp (φ := XM → Int32 → Int32 → Option (Int32 × XM)) (fun _ _ _ => none) (f_X12_valley_105  ) x_NN w0 l1 (0 : Int32))
  else (x_ck l2 70 (
  x_ck l2 353 (
  x_lt (x_pa w0 2 l2 (x_ga w0 3 l2)) (fun m4 =>
  k79 m4 l1 (l2 + 1)))))
def f_X12_valley_43 (k43 : XM → Int32 → Option (Int32 × XM)) (w0 : XM) (l1 : Int32) : Option (Int32 × XM) :=
  if (w0.1 0 7) = (0 : Int32) then
  (x_lp (φ := XM → Int32 → Int32 → Option (Int32 × XM)) (fun _ _ _ => none) (f_X12_valley_79  ) x_NN w0 l1 (0 : Int32))
  else (x_bo (f_X12_readLine w0) (fun y5 =>
  if y5.1 = (0 : Int32) then
  (f_X12_valley_64   y5.2)
  else (x_bo (f_X12_readEnd y5.2) (fun y6 =>
  if y6.1 = (0 : Int32) then
  (f_X12_valley_64   y6.2)
  else (k43 y6.2 (l1 + 1))))))
def f_X12_valley_9 (k9 : XM → Int32 → Option (Int32 × XM)) (w0 : XM) (l1 : Int32) : Option (Int32 × XM) :=
  if ((70 : Int32) : Int32) ≤ l1 then
  (x_lt (x_si w0 0 23 (0 : Int32)) (fun m7 =>
  x_lt (x_pa m7 3 (4 : Int32) (12 : Int32)) (fun m8 =>
  x_lp (φ := XM → Int32 → Option (Int32 × XM)) (fun _ _ => none) (f_X12_valley_43  ) x_NN m8 (0 : Int32))))
  else (x_ck l1 70 (
  x_lt (x_pa w0 3 l1 (0 : Int32)) (fun m9 =>
  k9 m9 (l1 + 1))))
def f_X12_valley (v0 : XM) : Option (Int32 × XM) :=
  x_bo (f_X12_begin v0 (900 : Int32)) (fun y10 =>
  x_lp (φ := XM → Int32 → Option (Int32 × XM)) (fun _ _ => none) (f_X12_valley_9  ) x_NN y10 (0 : Int32))
set_option maxRecDepth 100000 in
set_option maxHeartbeats 4000000 in
theorem w_X12_valley_64 {p : Program} {l : Launch} {e : Env} {s : State} {m : MethodId} {args : Array Value} {below : List Frame} {meth : Method} {c : Code} {D : va_G} {tc : Nat → ClassId} {aK aV : Nat → Nat} {A : Nat → Prop} {ad0 : Nat → Nat}  (X : Cx p s m args meth c cX12_valley 3 (some .int) RX12 D tc aK aV A [(shModel, ad0)])  {o : Int32 × XM}  {w0 : XM}  (h : f_X12_valley_64   w0 = some o) : aW p l e (x_Rm 7) s m args below meth c D tc A 3 [(shModel, ad0)] (some (.int o.1)) True [o.2] 64 [(0, .ref (ad0 0))] [] [w0] := by
  unfold f_X12_valley_64 at h
  refine a_iconst (pc := 64) X dX12_valley_64 q_ic_m1 ?_
  refine a_aload_n (pc := 65) X 0 dX12_valley_65 rfl rfl ?_
  refine a_getI (pc := 66) X 0 fl_RX12_69 rfl rfl rfl rfl dX12_valley_66 ?_
  refine a_isub (pc := 69) X dX12_valley_69 ?_
  have h := Option.some.inj h; subst h
  exact a_iret (pc := 70) X trivial dX12_valley_70
set_option maxRecDepth 100000 in
set_option maxHeartbeats 4000000 in
theorem w_X12_valley_105 {p : Program} {l : Launch} {e : Env} {s : State} {m : MethodId} {args : Array Value} {below : List Frame} {meth : Method} {c : Code} {D : va_G} {tc : Nat → ClassId} {aK aV : Nat → Nat} {A : Nat → Prop} {ad0 : Nat → Nat}  (X : Cx p s m args meth c cX12_valley 3 (some .int) RX12 D tc aK aV A [(shModel, ad0)])  {o : Int32 × XM}  : ∀ (n : Nat), ∀ (w0 : XM) (l1 : Int32) (l2 : Int32), x_lp (φ := XM → Int32 → Int32 → Option (Int32 × XM)) (fun _ _ _ => none) (f_X12_valley_105  ) n w0 l1 l2 = some o → aW p l e (x_Rm 7) s m args below meth c D tc A 3 [(shModel, ad0)] (some (.int o.1)) True [o.2] 105 [(0, .ref (ad0 0)), (1, .int l1), (2, .int l2)] [] [w0] := by
  intro n
  induction n with
  | zero => intro w0 l1 l2 h; exact absurd h (fun q => by cases q)
  | succ n ih =>
    intro w0 l1 l2 h
    have h : f_X12_valley_105   (x_lp (φ := XM → Int32 → Int32 → Option (Int32 × XM)) (fun _ _ _ => none) (f_X12_valley_105  ) n) w0 l1 l2 = some o := h
    generalize x_lp (φ := XM → Int32 → Int32 → Option (Int32 × XM)) (fun _ _ _ => none) (f_X12_valley_105  ) n = k105 at h ih
    have hk105 := ih
    unfold f_X12_valley_105 at h
    refine a_iload_n (pc := 105) X 2 dX12_valley_105 rfl rfl ?_
    refine a_bipush (pc := 106) X dX12_valley_106 q_bp_19 ?_
    refine a_icmp_ge (pc := 108) X 129 dX12_valley_108 rfl (fun c_108 => ?_) (fun c_108 => ?_)
    · have h := x_ifp c_108 h
      refine a_aload_n (pc := 129) X 0 dX12_valley_129 rfl rfl ?_
      obtain ⟨y1, e_y1, h⟩ := x_bo_elim h
      refine a_callV (pc := 130) (st2 := []) (vs2 := [y1]) X [(0, 0, 20)] [some y1] 0 0 12 [] [] cv_RX12_163 (c_X12_startSo (ad0 := ad0)  e_y1) rfl rfl rfl rfl rfl rfl rfl rfl rfl rfl rfl rfl rfl rfl rfl (Nat.le_of_ble_eq_true rfl) ⟨Nat.le_of_ble_eq_true rfl, Nat.le_of_ble_eq_true rfl⟩ dX12_valley_130 (fun _ => ?_)
      refine a_aload_n (pc := 133) X 0 dX12_valley_133 rfl rfl ?_
      refine a_iconst (pc := 134) X dX12_valley_134 q_ic_0 ?_
      refine a_putI (pc := 135) X 0 fl_RX12_234 rfl rfl rfl rfl dX12_valley_135 ?_
      obtain ⟨m2, e_m2, h⟩ := x_lt_elim h
      refine a_nm (vs2 := [m2]) (congrArg (fun q : XM => [q]) e_m2) ?_
      refine a_iload_n (pc := 138) X 1 dX12_valley_138 rfl rfl ?_
      have h := Option.some.inj h; subst h
      exact a_iret (pc := 139) X trivial dX12_valley_139
    · have h := x_ifn c_108 h
      refine a_aload_n (pc := 111) X 0 dX12_valley_111 rfl rfl ?_
      refine a_getR (pc := 112) X 0 7 7 fl_RX12_113 rfl rfl rfl rfl rfl dX12_valley_112 ?_
      refine a_iload_n (pc := 115) X 2 dX12_valley_115 rfl rfl ?_
      refine a_aload_n (pc := 116) X 0 dX12_valley_116 rfl rfl ?_
      refine a_getR (pc := 117) X 0 8 8 fl_RX12_117 rfl rfl rfl rfl rfl dX12_valley_117 ?_
      refine a_iload_n (pc := 120) X 2 dX12_valley_120 rfl rfl ?_
      obtain ⟨c_121, h⟩ := x_ck_elim h
      refine a_lald (pc := 121) X 0 rfl rfl rfl c_121 dX12_valley_121 ?_
      obtain ⟨c_122, h⟩ := x_ck_elim h
      refine a_last (pc := 122) X 0 rfl rfl rfl c_122 dX12_valley_122 ?_
      obtain ⟨m3, e_m3, h⟩ := x_lt_elim h
      refine a_nm (vs2 := [m3]) (congrArg (fun q : XM => [q]) e_m3) ?_
      refine a_iinc (pc := 123) X 2 [(2, .int (l2 + 1)), (0, .ref (ad0 0)), (1, .int l1)] dX12_valley_123 rfl (congrArg (HAdd.hAdd l2) q_ic_1) (by decide) rfl ?_
      refine a_goto (pc := 126) X 105 dX12_valley_126 rfl ?_
      refine a_sub [1, 2, 0] rfl ?_
      exact hk105 _ _ _ h
set_option maxRecDepth 100000 in
set_option maxHeartbeats 4000000 in
theorem w_X12_valley_79 {p : Program} {l : Launch} {e : Env} {s : State} {m : MethodId} {args : Array Value} {below : List Frame} {meth : Method} {c : Code} {D : va_G} {tc : Nat → ClassId} {aK aV : Nat → Nat} {A : Nat → Prop} {ad0 : Nat → Nat}  (X : Cx p s m args meth c cX12_valley 3 (some .int) RX12 D tc aK aV A [(shModel, ad0)])  {o : Int32 × XM}  : ∀ (n : Nat), ∀ (w0 : XM) (l1 : Int32) (l2 : Int32), x_lp (φ := XM → Int32 → Int32 → Option (Int32 × XM)) (fun _ _ _ => none) (f_X12_valley_79  ) n w0 l1 l2 = some o → aW p l e (x_Rm 7) s m args below meth c D tc A 3 [(shModel, ad0)] (some (.int o.1)) True [o.2] 79 [(0, .ref (ad0 0)), (1, .int l1), (2, .int l2)] [] [w0] := by
  intro n
  induction n with
  | zero => intro w0 l1 l2 h; exact absurd h (fun q => by cases q)
  | succ n ih =>
    intro w0 l1 l2 h
    have h : f_X12_valley_79   (x_lp (φ := XM → Int32 → Int32 → Option (Int32 × XM)) (fun _ _ _ => none) (f_X12_valley_79  ) n) w0 l1 l2 = some o := h
    generalize x_lp (φ := XM → Int32 → Int32 → Option (Int32 × XM)) (fun _ _ _ => none) (f_X12_valley_79  ) n = k79 at h ih
    have hk79 := ih
    unfold f_X12_valley_79 at h
    refine a_iload_n (pc := 79) X 2 dX12_valley_79 rfl rfl ?_
    refine a_bipush (pc := 80) X dX12_valley_80 q_bp_70 ?_
    refine a_icmp_ge (pc := 82) X 103 dX12_valley_82 rfl (fun c_82 => ?_) (fun c_82 => ?_)
    · have h := x_ifp c_82 h
      refine a_iconst (pc := 103) X dX12_valley_103 q_ic_0 ?_
      refine a_istore_n (pc := 104) X [(2, .int (0 : Int32)), (0, .ref (ad0 0)), (1, .int l1)] dX12_valley_104 rfl (by decide) rfl ?_
      refine a_sub [1, 2, 0] rfl ?_
      exact w_X12_valley_105 X    x_NN _ _ _ h
    · have h := x_ifn c_82 h
      refine a_aload_n (pc := 85) X 0 dX12_valley_85 rfl rfl ?_
      refine a_getR (pc := 86) X 0 2 2 fl_RX12_98 rfl rfl rfl rfl rfl dX12_valley_86 ?_
      refine a_iload_n (pc := 89) X 2 dX12_valley_89 rfl rfl ?_
      refine a_aload_n (pc := 90) X 0 dX12_valley_90 rfl rfl ?_
      refine a_getR (pc := 91) X 0 3 3 fl_RX12_101 rfl rfl rfl rfl rfl dX12_valley_91 ?_
      refine a_iload_n (pc := 94) X 2 dX12_valley_94 rfl rfl ?_
      obtain ⟨c_95, h⟩ := x_ck_elim h
      refine a_iald (pc := 95) X 0 rfl rfl rfl c_95 dX12_valley_95 ?_
      obtain ⟨c_96, h⟩ := x_ck_elim h
      refine a_iast (pc := 96) X 0 rfl rfl rfl c_96 dX12_valley_96 ?_
      obtain ⟨m4, e_m4, h⟩ := x_lt_elim h
      refine a_nm (vs2 := [m4]) (congrArg (fun q : XM => [q]) e_m4) ?_
      refine a_iinc (pc := 97) X 2 [(2, .int (l2 + 1)), (0, .ref (ad0 0)), (1, .int l1)] dX12_valley_97 rfl (congrArg (HAdd.hAdd l2) q_ic_1) (by decide) rfl ?_
      refine a_goto (pc := 100) X 79 dX12_valley_100 rfl ?_
      refine a_sub [1, 2, 0] rfl ?_
      exact hk79 _ _ _ h
set_option maxRecDepth 100000 in
set_option maxHeartbeats 4000000 in
theorem w_X12_valley_43 {p : Program} {l : Launch} {e : Env} {s : State} {m : MethodId} {args : Array Value} {below : List Frame} {meth : Method} {c : Code} {D : va_G} {tc : Nat → ClassId} {aK aV : Nat → Nat} {A : Nat → Prop} {ad0 : Nat → Nat}  (X : Cx p s m args meth c cX12_valley 3 (some .int) RX12 D tc aK aV A [(shModel, ad0)])  {o : Int32 × XM}  : ∀ (n : Nat), ∀ (w0 : XM) (l1 : Int32), x_lp (φ := XM → Int32 → Option (Int32 × XM)) (fun _ _ => none) (f_X12_valley_43  ) n w0 l1 = some o → aW p l e (x_Rm 7) s m args below meth c D tc A 3 [(shModel, ad0)] (some (.int o.1)) True [o.2] 43 [(0, .ref (ad0 0)), (1, .int l1)] [] [w0] := by
  intro n
  induction n with
  | zero => intro w0 l1 h; exact absurd h (fun q => by cases q)
  | succ n ih =>
    intro w0 l1 h
    have h : f_X12_valley_43   (x_lp (φ := XM → Int32 → Option (Int32 × XM)) (fun _ _ => none) (f_X12_valley_43  ) n) w0 l1 = some o := h
    generalize x_lp (φ := XM → Int32 → Option (Int32 × XM)) (fun _ _ => none) (f_X12_valley_43  ) n = k43 at h ih
    have hk43 := ih
    unfold f_X12_valley_43 at h
    refine a_aload_n (pc := 43) X 0 dX12_valley_43 rfl rfl ?_
    refine a_getI (pc := 44) X 0 fl_RX12_30 rfl rfl rfl rfl dX12_valley_44 ?_
    refine a_if_eq (pc := 47) X 77 dX12_valley_47 rfl (fun c_47 => ?_) (fun c_47 => ?_)
    · have h := x_ifp c_47 h
      refine a_iconst (pc := 77) X dX12_valley_77 q_ic_0 ?_
      refine a_istore_n (pc := 78) X [(2, .int (0 : Int32)), (0, .ref (ad0 0)), (1, .int l1)] dX12_valley_78 rfl (by decide) rfl ?_
      refine a_sub [1, 2, 0] rfl ?_
      exact w_X12_valley_79 X    x_NN _ _ _ h
    · have h := x_ifn c_47 h
      refine a_aload_n (pc := 50) X 0 dX12_valley_50 rfl rfl ?_
      obtain ⟨y5, e_y5, h⟩ := x_bo_elim h
      refine a_callV (pc := 51) (st2 := [.int y5.1]) (vs2 := [y5.2]) X [(0, 0, 20)] [some y5.2] 0 0 12 [] [] cv_RX12_228 (c_X12_readLine (ad0 := ad0)  e_y5) rfl rfl rfl rfl rfl rfl rfl rfl rfl rfl rfl rfl rfl rfl rfl (Nat.le_of_ble_eq_true rfl) ⟨Nat.le_of_ble_eq_true rfl, Nat.le_of_ble_eq_true rfl⟩ dX12_valley_51 (fun z_51 => ?_)
      refine a_if_eq (pc := 54) X 64 dX12_valley_54 rfl (fun c_54 => ?_) (fun c_54 => ?_)
      · have h := x_ifp c_54 h
        refine a_sub [0] rfl ?_
        exact w_X12_valley_64 X     h
      · have h := x_ifn c_54 h
        refine a_aload_n (pc := 57) X 0 dX12_valley_57 rfl rfl ?_
        obtain ⟨y6, e_y6, h⟩ := x_bo_elim h
        refine a_callV (pc := 58) (st2 := [.int y6.1]) (vs2 := [y6.2]) X [(0, 0, 20)] [some y6.2] 0 0 12 [] [] cv_RX12_231 (c_X12_readEnd (ad0 := ad0)  e_y6) rfl rfl rfl rfl rfl rfl rfl rfl rfl rfl rfl rfl rfl rfl rfl (Nat.le_of_ble_eq_true rfl) ⟨Nat.le_of_ble_eq_true rfl, Nat.le_of_ble_eq_true rfl⟩ dX12_valley_58 (fun z_58 => ?_)
        refine a_if_ne (pc := 61) X 71 dX12_valley_61 rfl (fun c_61 => ?_) (fun c_61 => ?_)
        · have h := x_ifn c_61 h
          refine a_iinc (pc := 71) X 1 [(1, .int (l1 + 1)), (0, .ref (ad0 0))] dX12_valley_71 rfl (congrArg (HAdd.hAdd l1) q_ic_1) (by decide) rfl ?_
          refine a_goto (pc := 74) X 43 dX12_valley_74 rfl ?_
          refine a_sub [1, 0] rfl ?_
          exact hk43 _ _ h
        · have h := x_ifp c_61 h
          refine a_sub [0] rfl ?_
          exact w_X12_valley_64 X     h
set_option maxRecDepth 100000 in
set_option maxHeartbeats 4000000 in
theorem w_X12_valley_9 {p : Program} {l : Launch} {e : Env} {s : State} {m : MethodId} {args : Array Value} {below : List Frame} {meth : Method} {c : Code} {D : va_G} {tc : Nat → ClassId} {aK aV : Nat → Nat} {A : Nat → Prop} {ad0 : Nat → Nat}  (X : Cx p s m args meth c cX12_valley 3 (some .int) RX12 D tc aK aV A [(shModel, ad0)])  {o : Int32 × XM}  : ∀ (n : Nat), ∀ (w0 : XM) (l1 : Int32), x_lp (φ := XM → Int32 → Option (Int32 × XM)) (fun _ _ => none) (f_X12_valley_9  ) n w0 l1 = some o → aW p l e (x_Rm 7) s m args below meth c D tc A 3 [(shModel, ad0)] (some (.int o.1)) True [o.2] 9 [(0, .ref (ad0 0)), (1, .int l1)] [] [w0] := by
  intro n
  induction n with
  | zero => intro w0 l1 h; exact absurd h (fun q => by cases q)
  | succ n ih =>
    intro w0 l1 h
    have h : f_X12_valley_9   (x_lp (φ := XM → Int32 → Option (Int32 × XM)) (fun _ _ => none) (f_X12_valley_9  ) n) w0 l1 = some o := h
    generalize x_lp (φ := XM → Int32 → Option (Int32 × XM)) (fun _ _ => none) (f_X12_valley_9  ) n = k9 at h ih
    have hk9 := ih
    unfold f_X12_valley_9 at h
    refine a_iload_n (pc := 9) X 1 dX12_valley_9 rfl rfl ?_
    refine a_bipush (pc := 10) X dX12_valley_10 q_bp_70 ?_
    refine a_icmp_ge (pc := 12) X 28 dX12_valley_12 rfl (fun c_12 => ?_) (fun c_12 => ?_)
    · have h := x_ifp c_12 h
      refine a_aload_n (pc := 28) X 0 dX12_valley_28 rfl rfl ?_
      refine a_iconst (pc := 29) X dX12_valley_29 q_ic_0 ?_
      refine a_putZ (pc := 30) X 0 x_Z0 fl_RX12_206 rfl rfl rfl rfl dX12_valley_30 ?_
      obtain ⟨m7, e_m7, h⟩ := x_lt_elim h
      refine a_nm (vs2 := [m7]) (congrArg (fun q : XM => [q]) e_m7) ?_
      refine a_aload_n (pc := 33) X 0 dX12_valley_33 rfl rfl ?_
      refine a_getR (pc := 34) X 0 3 3 fl_RX12_101 rfl rfl rfl rfl rfl dX12_valley_34 ?_
      refine a_iconst (pc := 37) X dX12_valley_37 q_ic_4 ?_
      refine a_bipush (pc := 38) X dX12_valley_38 q_bp_12 ?_
      refine a_iast (pc := 40) X 0 rfl rfl rfl (x_inl (by decide)) dX12_valley_40 ?_
      obtain ⟨m8, e_m8, h⟩ := x_lt_elim h
      refine a_nm (vs2 := [m8]) (congrArg (fun q : XM => [q]) e_m8) ?_
      refine a_iconst (pc := 41) X dX12_valley_41 q_ic_0 ?_
      refine a_istore_n (pc := 42) X [(1, .int (0 : Int32)), (0, .ref (ad0 0))] dX12_valley_42 rfl (by decide) rfl ?_
      refine a_sub [1, 0] rfl ?_
      exact w_X12_valley_43 X    x_NN _ _ h
    · have h := x_ifn c_12 h
      refine a_aload_n (pc := 15) X 0 dX12_valley_15 rfl rfl ?_
      refine a_getR (pc := 16) X 0 3 3 fl_RX12_101 rfl rfl rfl rfl rfl dX12_valley_16 ?_
      refine a_iload_n (pc := 19) X 1 dX12_valley_19 rfl rfl ?_
      refine a_iconst (pc := 20) X dX12_valley_20 q_ic_0 ?_
      obtain ⟨c_21, h⟩ := x_ck_elim h
      refine a_iast (pc := 21) X 0 rfl rfl rfl c_21 dX12_valley_21 ?_
      obtain ⟨m9, e_m9, h⟩ := x_lt_elim h
      refine a_nm (vs2 := [m9]) (congrArg (fun q : XM => [q]) e_m9) ?_
      refine a_iinc (pc := 22) X 1 [(1, .int (l1 + 1)), (0, .ref (ad0 0))] dX12_valley_22 rfl (congrArg (HAdd.hAdd l1) q_ic_1) (by decide) rfl ?_
      refine a_goto (pc := 25) X 9 dX12_valley_25 rfl ?_
      refine a_sub [1, 0] rfl ?_
      exact hk9 _ _ h
set_option maxRecDepth 100000 in
set_option maxHeartbeats 4000000 in
theorem c_X12_valley {l : Launch}  {ad0 : Nat → Nat} {v0 : XM}   {o : Int32 × XM} (h : f_X12_valley v0 = some o) : CT l yX12_valley cX12_valley 3 (some .int) 7 [(shModel, ad0)] [v0] (fun aK => [.ref (ad0 0)]) (some (.int o.1)) True [o.2] := by
  refine CT_of (by decide) (fun _ => Nat.le_of_ble_eq_true rfl) ?_
  intro p e s m args below meth c D tc aK aV A X
  have X : Cx p s m args meth c cX12_valley 3 (some .int) RX12 D tc aK aV A [(shModel, ad0)] := X
  show aW p l e (x_Rm 7) s m args below meth c D tc A 3 [(shModel, ad0)] (some (.int o.1)) True [o.2] 0 [(0, .ref (ad0 0))] [] [v0]
  unfold f_X12_valley at h
  refine a_aload_n (pc := 0) X 0 dX12_valley_0 rfl rfl ?_
  refine a_sipush (pc := 1) X dX12_valley_1 q_sp_900 ?_
  obtain ⟨y10, e_y10, h⟩ := x_bo_elim h
  refine a_callV (pc := 4) (st2 := []) (vs2 := [y10]) X [(0, 0, 20)] [some y10] 0 0 12 [.int (900 : Int32)] [] cv_RX12_225 (c_X12_begin (ad0 := ad0)  e_y10) rfl rfl rfl rfl rfl rfl rfl rfl rfl rfl rfl rfl rfl rfl rfl (Nat.le_of_ble_eq_true rfl) ⟨Nat.le_of_ble_eq_true rfl, Nat.le_of_ble_eq_true rfl⟩ dX12_valley_4 (fun _ => ?_)
  refine a_iconst (pc := 7) X dX12_valley_7 q_ic_0 ?_
  refine a_istore_n (pc := 8) X [(1, .int (0 : Int32)), (0, .ref (ad0 0))] dX12_valley_8 rfl (by decide) rfl ?_
  refine a_sub [1, 0] rfl ?_
  exact w_X12_valley_9 X    x_NN _ _ h
theorem dX12_fault_0 : decode cX12_fault 0 = .ok (.aload_n 0, 1) := by decide +kernel
theorem dX12_fault_1 : decode cX12_fault 1 = .ok (.iconst 0, 1) := by decide +kernel
theorem dX12_fault_2 : decode cX12_fault 2 = .ok (.putfield 1, 3) := by decide +kernel
theorem dX12_fault_5 : decode cX12_fault 5 = .ok (.aload_n 0, 1) := by decide +kernel
theorem dX12_fault_6 : decode cX12_fault 6 = .ok (.getfield 66, 3) := by decide +kernel
theorem dX12_fault_9 : decode cX12_fault 9 = .ok (.ireturn, 1) := by decide +kernel
def f_X12_fault (v0 : XM) : Int32 × XM :=
  x_lt (x_si v0 0 0 (0 : Int32)) (fun m1 =>
  (m1.1 0 10, m1))
set_option maxRecDepth 100000 in
set_option maxHeartbeats 4000000 in
theorem c_X12_fault {l : Launch}  {ad0 : Nat → Nat} {v0 : XM}   {o : Int32 × XM} (h : f_X12_fault v0 = o) : CT l yX12_fault cX12_fault 1 (some .int) 0 [(shModel, ad0)] [v0] (fun aK => [.ref (ad0 0)]) (some (.int o.1)) True [o.2] := by
  refine CT_of (by decide) (fun _ => Nat.le_of_ble_eq_true rfl) ?_
  intro p e s m args below meth c D tc aK aV A X
  have X : Cx p s m args meth c cX12_fault 1 (some .int) RX12 D tc aK aV A [(shModel, ad0)] := X
  show aW p l e (x_Rm 0) s m args below meth c D tc A 1 [(shModel, ad0)] (some (.int o.1)) True [o.2] 0 [(0, .ref (ad0 0))] [] [v0]
  unfold f_X12_fault at h
  refine a_aload_n (pc := 0) X 0 dX12_fault_0 rfl rfl ?_
  refine a_iconst (pc := 1) X dX12_fault_1 q_ic_0 ?_
  refine a_putI (pc := 2) X 0 fl_RX12_1 rfl rfl rfl rfl dX12_fault_2 ?_
  obtain ⟨m1, e_m1, h⟩ := x_lt_elim h
  refine a_nm (vs2 := [m1]) (congrArg (fun q : XM => [q]) e_m1) ?_
  refine a_aload_n (pc := 5) X 0 dX12_fault_5 rfl rfl ?_
  refine a_getI (pc := 6) X 0 fl_RX12_66 rfl rfl rfl rfl dX12_fault_6 ?_
  subst h
  exact a_iret (pc := 9) X trivial dX12_fault_9
