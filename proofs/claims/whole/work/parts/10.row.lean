-- Row: functional forms and contracts, written by wip/whole/gen.py out of the bytecode.
theorem dX3_get_0 : decode cX3_get 0 = .ok (.iload_n 1, 1) := by decide +kernel
theorem dX3_get_1 : decode cX3_get 1 = .ok (.ifCond .lt 21, 3) := by decide +kernel
theorem dX3_get_4 : decode cX3_get 4 = .ok (.iload_n 1, 1) := by decide +kernel
theorem dX3_get_5 : decode cX3_get 5 = .ok (.aload_n 0, 1) := by decide +kernel
theorem dX3_get_6 : decode cX3_get 6 = .ok (.getfield 7, 3) := by decide +kernel
theorem dX3_get_9 : decode cX3_get 9 = .ok (.arraylength, 1) := by decide +kernel
theorem dX3_get_10 : decode cX3_get 10 = .ok (.if_icmp .ge 12, 3) := by decide +kernel
theorem dX3_get_13 : decode cX3_get 13 = .ok (.aload_n 0, 1) := by decide +kernel
theorem dX3_get_14 : decode cX3_get 14 = .ok (.getfield 7, 3) := by decide +kernel
theorem dX3_get_17 : decode cX3_get 17 = .ok (.iload_n 1, 1) := by decide +kernel
theorem dX3_get_18 : decode cX3_get 18 = .ok (.iaload, 1) := by decide +kernel
theorem dX3_get_19 : decode cX3_get 19 = .ok (.goto 4, 3) := by decide +kernel
theorem dX3_get_22 : decode cX3_get 22 = .ok (.iconst 0, 1) := by decide +kernel
theorem dX3_get_23 : decode cX3_get 23 = .ok (.ireturn, 1) := by decide +kernel
def f_X3_get (n0 : Nat) (v0 : XM) (x0 : Int32) : Option (Int32) :=
  if x0 < (0 : Int32) then
  (some ((0 : Int32) : Int32))
  else (if ((Int32.ofNat n0) : Int32) ≤ x0 then
  (some ((0 : Int32) : Int32))
  else (x_ck x0 n0 (
  some (x_ga v0 1 x0 : Int32))))
set_option maxRecDepth 100000 in
set_option maxHeartbeats 4000000 in
theorem c_X3_get {l : Launch}  {ad0 : Nat → Nat} {n0 : Nat} {v0 : XM} {x0 : Int32}  {o : Int32} (h : f_X3_get n0 v0 x0 = some o) : CT l yX3_get cX3_get 2 (some .int) 0 [((shRow n0), ad0)] [v0] (fun aK => [.ref (ad0 0), .int x0]) (some (.int o)) True [v0] := by
  refine CT_of (by decide) (fun _ => Nat.le_of_ble_eq_true rfl) ?_
  intro p e s m args below meth c D tc aK aV A X
  have X : Cx p s m args meth c cX3_get 2 (some .int) RX3 D tc aK aV A [((shRow n0), ad0)] := X
  show aW p l e (x_Rm 0) s m args below meth c D tc A 2 [((shRow n0), ad0)] (some (.int o)) True [v0] 0 [(0, .ref (ad0 0)), (1, .int x0)] [] [v0]
  unfold f_X3_get at h
  refine a_iload_n (pc := 0) X 1 dX3_get_0 rfl rfl ?_
  refine a_if_lt (pc := 1) X 22 dX3_get_1 rfl (fun c_1 => ?_) (fun c_1 => ?_)
  · have h := x_ifp c_1 h
    refine a_iconst (pc := 22) X dX3_get_22 q_ic_0 ?_
    have h := Option.some.inj h; subst h
    exact a_iret (pc := 23) X trivial dX3_get_23
  · have h := x_ifn c_1 h
    refine a_iload_n (pc := 4) X 1 dX3_get_4 rfl rfl ?_
    refine a_aload_n (pc := 5) X 0 dX3_get_5 rfl rfl ?_
    refine a_getR (pc := 6) X 0 1 1 fl_RX3_7 rfl rfl rfl rfl rfl dX3_get_6 ?_
    refine a_alenI (pc := 9) X 0 rfl rfl rfl rfl dX3_get_9 ?_
    refine a_icmp_ge (pc := 10) X 22 dX3_get_10 rfl (fun c_10 => ?_) (fun c_10 => ?_)
    · have h := x_ifp c_10 h
      refine a_iconst (pc := 22) X dX3_get_22 q_ic_0 ?_
      have h := Option.some.inj h; subst h
      exact a_iret (pc := 23) X trivial dX3_get_23
    · have h := x_ifn c_10 h
      refine a_aload_n (pc := 13) X 0 dX3_get_13 rfl rfl ?_
      refine a_getR (pc := 14) X 0 1 1 fl_RX3_7 rfl rfl rfl rfl rfl dX3_get_14 ?_
      refine a_iload_n (pc := 17) X 1 dX3_get_17 rfl rfl ?_
      obtain ⟨c_18, h⟩ := x_ck_elim h
      refine a_iald (pc := 18) X 0 rfl rfl rfl c_18 dX3_get_18 ?_
      refine a_goto (pc := 19) X 23 dX3_get_19 rfl ?_
      have h := Option.some.inj h; subst h
      exact a_iret (pc := 23) X trivial dX3_get_23
theorem dX3_put_0 : decode cX3_put 0 = .ok (.iload_n 1, 1) := by decide +kernel
theorem dX3_put_1 : decode cX3_put 1 = .ok (.ifCond .lt 19, 3) := by decide +kernel
theorem dX3_put_4 : decode cX3_put 4 = .ok (.iload_n 1, 1) := by decide +kernel
theorem dX3_put_5 : decode cX3_put 5 = .ok (.aload_n 0, 1) := by decide +kernel
theorem dX3_put_6 : decode cX3_put 6 = .ok (.getfield 7, 3) := by decide +kernel
theorem dX3_put_9 : decode cX3_put 9 = .ok (.arraylength, 1) := by decide +kernel
theorem dX3_put_10 : decode cX3_put 10 = .ok (.if_icmp .ge 10, 3) := by decide +kernel
theorem dX3_put_13 : decode cX3_put 13 = .ok (.aload_n 0, 1) := by decide +kernel
theorem dX3_put_14 : decode cX3_put 14 = .ok (.getfield 7, 3) := by decide +kernel
theorem dX3_put_17 : decode cX3_put 17 = .ok (.iload_n 1, 1) := by decide +kernel
theorem dX3_put_18 : decode cX3_put 18 = .ok (.iload_n 2, 1) := by decide +kernel
theorem dX3_put_19 : decode cX3_put 19 = .ok (.iastore, 1) := by decide +kernel
theorem dX3_put_20 : decode cX3_put 20 = .ok (.return_, 1) := by decide +kernel
def f_X3_put (n0 : Nat) (v0 : XM) (x0 : Int32) (x1 : Int32) : Option (XM) :=
  if x0 < (0 : Int32) then
  (some v0)
  else (if ((Int32.ofNat n0) : Int32) ≤ x0 then
  (some v0)
  else (x_ck x0 n0 (
  x_lt (x_pa v0 1 x0 x1) (fun m1 =>
  some m1))))
set_option maxRecDepth 100000 in
set_option maxHeartbeats 4000000 in
theorem c_X3_put {l : Launch}  {ad0 : Nat → Nat} {n0 : Nat} {v0 : XM} {x0 : Int32} {x1 : Int32}  {o : XM} (h : f_X3_put n0 v0 x0 x1 = some o) : CT l yX3_put cX3_put 3 none 0 [((shRow n0), ad0)] [v0] (fun aK => [.ref (ad0 0), .int x0, .int x1]) none True [o] := by
  refine CT_of (by decide) (fun _ => Nat.le_of_ble_eq_true rfl) ?_
  intro p e s m args below meth c D tc aK aV A X
  have X : Cx p s m args meth c cX3_put 3 none RX3 D tc aK aV A [((shRow n0), ad0)] := X
  show aW p l e (x_Rm 0) s m args below meth c D tc A 3 [((shRow n0), ad0)] none True [o] 0 [(0, .ref (ad0 0)), (1, .int x0), (2, .int x1)] [] [v0]
  unfold f_X3_put at h
  refine a_iload_n (pc := 0) X 1 dX3_put_0 rfl rfl ?_
  refine a_if_lt (pc := 1) X 20 dX3_put_1 rfl (fun c_1 => ?_) (fun c_1 => ?_)
  · have h := x_ifp c_1 h
    have h := Option.some.inj h; subst h
    exact a_vret (pc := 20) X trivial dX3_put_20
  · have h := x_ifn c_1 h
    refine a_iload_n (pc := 4) X 1 dX3_put_4 rfl rfl ?_
    refine a_aload_n (pc := 5) X 0 dX3_put_5 rfl rfl ?_
    refine a_getR (pc := 6) X 0 1 1 fl_RX3_7 rfl rfl rfl rfl rfl dX3_put_6 ?_
    refine a_alenI (pc := 9) X 0 rfl rfl rfl rfl dX3_put_9 ?_
    refine a_icmp_ge (pc := 10) X 20 dX3_put_10 rfl (fun c_10 => ?_) (fun c_10 => ?_)
    · have h := x_ifp c_10 h
      have h := Option.some.inj h; subst h
      exact a_vret (pc := 20) X trivial dX3_put_20
    · have h := x_ifn c_10 h
      refine a_aload_n (pc := 13) X 0 dX3_put_13 rfl rfl ?_
      refine a_getR (pc := 14) X 0 1 1 fl_RX3_7 rfl rfl rfl rfl rfl dX3_put_14 ?_
      refine a_iload_n (pc := 17) X 1 dX3_put_17 rfl rfl ?_
      refine a_iload_n (pc := 18) X 2 dX3_put_18 rfl rfl ?_
      obtain ⟨c_19, h⟩ := x_ck_elim h
      refine a_iast (pc := 19) X 0 rfl rfl rfl c_19 dX3_put_19 ?_
      obtain ⟨m1, e_m1, h⟩ := x_lt_elim h
      refine a_nm (vs2 := [m1]) (congrArg (fun q : XM => [q]) e_m1) ?_
      have h := Option.some.inj h; subst h
      exact a_vret (pc := 20) X trivial dX3_put_20
theorem dX3_add_0 : decode cX3_add 0 = .ok (.iload_n 1, 1) := by decide +kernel
theorem dX3_add_1 : decode cX3_add 1 = .ok (.ifCond .lt 22, 3) := by decide +kernel
theorem dX3_add_4 : decode cX3_add 4 = .ok (.iload_n 1, 1) := by decide +kernel
theorem dX3_add_5 : decode cX3_add 5 = .ok (.aload_n 0, 1) := by decide +kernel
theorem dX3_add_6 : decode cX3_add 6 = .ok (.getfield 7, 3) := by decide +kernel
theorem dX3_add_9 : decode cX3_add 9 = .ok (.arraylength, 1) := by decide +kernel
theorem dX3_add_10 : decode cX3_add 10 = .ok (.if_icmp .ge 13, 3) := by decide +kernel
theorem dX3_add_13 : decode cX3_add 13 = .ok (.aload_n 0, 1) := by decide +kernel
theorem dX3_add_14 : decode cX3_add 14 = .ok (.getfield 7, 3) := by decide +kernel
theorem dX3_add_17 : decode cX3_add 17 = .ok (.iload_n 1, 1) := by decide +kernel
theorem dX3_add_18 : decode cX3_add 18 = .ok (.dup2, 1) := by decide +kernel
theorem dX3_add_19 : decode cX3_add 19 = .ok (.iaload, 1) := by decide +kernel
theorem dX3_add_20 : decode cX3_add 20 = .ok (.iload_n 2, 1) := by decide +kernel
theorem dX3_add_21 : decode cX3_add 21 = .ok (.iadd, 1) := by decide +kernel
theorem dX3_add_22 : decode cX3_add 22 = .ok (.iastore, 1) := by decide +kernel
theorem dX3_add_23 : decode cX3_add 23 = .ok (.return_, 1) := by decide +kernel
def f_X3_add (n0 : Nat) (v0 : XM) (x0 : Int32) (x1 : Int32) : Option (XM) :=
  if x0 < (0 : Int32) then
  (some v0)
  else (if ((Int32.ofNat n0) : Int32) ≤ x0 then
  (some v0)
  else (x_ck x0 n0 (
  x_ck x0 n0 (
  x_lt (x_pa v0 1 x0 ((x_ga v0 1 x0) + x1)) (fun m1 =>
  some m1)))))
set_option maxRecDepth 100000 in
set_option maxHeartbeats 4000000 in
theorem c_X3_add {l : Launch}  {ad0 : Nat → Nat} {n0 : Nat} {v0 : XM} {x0 : Int32} {x1 : Int32}  {o : XM} (h : f_X3_add n0 v0 x0 x1 = some o) : CT l yX3_add cX3_add 3 none 0 [((shRow n0), ad0)] [v0] (fun aK => [.ref (ad0 0), .int x0, .int x1]) none True [o] := by
  refine CT_of (by decide) (fun _ => Nat.le_of_ble_eq_true rfl) ?_
  intro p e s m args below meth c D tc aK aV A X
  have X : Cx p s m args meth c cX3_add 3 none RX3 D tc aK aV A [((shRow n0), ad0)] := X
  show aW p l e (x_Rm 0) s m args below meth c D tc A 3 [((shRow n0), ad0)] none True [o] 0 [(0, .ref (ad0 0)), (1, .int x0), (2, .int x1)] [] [v0]
  unfold f_X3_add at h
  refine a_iload_n (pc := 0) X 1 dX3_add_0 rfl rfl ?_
  refine a_if_lt (pc := 1) X 23 dX3_add_1 rfl (fun c_1 => ?_) (fun c_1 => ?_)
  · have h := x_ifp c_1 h
    have h := Option.some.inj h; subst h
    exact a_vret (pc := 23) X trivial dX3_add_23
  · have h := x_ifn c_1 h
    refine a_iload_n (pc := 4) X 1 dX3_add_4 rfl rfl ?_
    refine a_aload_n (pc := 5) X 0 dX3_add_5 rfl rfl ?_
    refine a_getR (pc := 6) X 0 1 1 fl_RX3_7 rfl rfl rfl rfl rfl dX3_add_6 ?_
    refine a_alenI (pc := 9) X 0 rfl rfl rfl rfl dX3_add_9 ?_
    refine a_icmp_ge (pc := 10) X 23 dX3_add_10 rfl (fun c_10 => ?_) (fun c_10 => ?_)
    · have h := x_ifp c_10 h
      have h := Option.some.inj h; subst h
      exact a_vret (pc := 23) X trivial dX3_add_23
    · have h := x_ifn c_10 h
      refine a_aload_n (pc := 13) X 0 dX3_add_13 rfl rfl ?_
      refine a_getR (pc := 14) X 0 1 1 fl_RX3_7 rfl rfl rfl rfl rfl dX3_add_14 ?_
      refine a_iload_n (pc := 17) X 1 dX3_add_17 rfl rfl ?_
      refine a_dup2 (pc := 18) X dX3_add_18 rfl rfl ?_
      obtain ⟨c_19, h⟩ := x_ck_elim h
      refine a_iald (pc := 19) X 0 rfl rfl rfl c_19 dX3_add_19 ?_
      refine a_iload_n (pc := 20) X 2 dX3_add_20 rfl rfl ?_
      refine a_iadd (pc := 21) X dX3_add_21 ?_
      obtain ⟨c_22, h⟩ := x_ck_elim h
      refine a_iast (pc := 22) X 0 rfl rfl rfl c_22 dX3_add_22 ?_
      obtain ⟨m1, e_m1, h⟩ := x_lt_elim h
      refine a_nm (vs2 := [m1]) (congrArg (fun q : XM => [q]) e_m1) ?_
      have h := Option.some.inj h; subst h
      exact a_vret (pc := 23) X trivial dX3_add_23
theorem dX3_fill_0 : decode cX3_fill 0 = .ok (.iconst 0, 1) := by decide +kernel
theorem dX3_fill_1 : decode cX3_fill 1 = .ok (.istore_n 2, 1) := by decide +kernel
theorem dX3_fill_2 : decode cX3_fill 2 = .ok (.iload_n 2, 1) := by decide +kernel
theorem dX3_fill_3 : decode cX3_fill 3 = .ok (.aload_n 0, 1) := by decide +kernel
theorem dX3_fill_4 : decode cX3_fill 4 = .ok (.getfield 7, 3) := by decide +kernel
theorem dX3_fill_7 : decode cX3_fill 7 = .ok (.arraylength, 1) := by decide +kernel
theorem dX3_fill_8 : decode cX3_fill 8 = .ok (.if_icmp .ge 16, 3) := by decide +kernel
theorem dX3_fill_11 : decode cX3_fill 11 = .ok (.aload_n 0, 1) := by decide +kernel
theorem dX3_fill_12 : decode cX3_fill 12 = .ok (.getfield 7, 3) := by decide +kernel
theorem dX3_fill_15 : decode cX3_fill 15 = .ok (.iload_n 2, 1) := by decide +kernel
theorem dX3_fill_16 : decode cX3_fill 16 = .ok (.iload_n 1, 1) := by decide +kernel
theorem dX3_fill_17 : decode cX3_fill 17 = .ok (.iastore, 1) := by decide +kernel
theorem dX3_fill_18 : decode cX3_fill 18 = .ok (.iinc 2 1, 3) := by decide +kernel
theorem dX3_fill_21 : decode cX3_fill 21 = .ok (.goto (-19), 3) := by decide +kernel
theorem dX3_fill_24 : decode cX3_fill 24 = .ok (.return_, 1) := by decide +kernel
def f_X3_fill_2 (n0 : Nat) (k2 : XM → Int32 → Int32 → Option (XM)) (w0 : XM) (l1 : Int32) (l2 : Int32) : Option (XM) :=
  if ((Int32.ofNat n0) : Int32) ≤ l2 then
  (some w0)
  else (x_ck l2 n0 (
  x_lt (x_pa w0 1 l2 l1) (fun m1 =>
  k2 m1 l1 (l2 + 1))))
def f_X3_fill (n0 : Nat) (v0 : XM) (x0 : Int32) : Option (XM) :=
  x_lp (φ := XM → Int32 → Int32 → Option (XM)) (fun _ _ _ => none) (f_X3_fill_2 n0 ) x_NN v0 x0 (0 : Int32)
set_option maxRecDepth 100000 in
set_option maxHeartbeats 4000000 in
theorem w_X3_fill_2 {p : Program} {l : Launch} {e : Env} {s : State} {m : MethodId} {args : Array Value} {below : List Frame} {meth : Method} {c : Code} {D : va_G} {tc : Nat → ClassId} {aK aV : Nat → Nat} {A : Nat → Prop} {ad0 : Nat → Nat} {n0 : Nat} (X : Cx p s m args meth c cX3_fill 3 none RX3 D tc aK aV A [((shRow n0), ad0)])  {o : XM}  : ∀ (n : Nat), ∀ (w0 : XM) (l1 : Int32) (l2 : Int32), x_lp (φ := XM → Int32 → Int32 → Option (XM)) (fun _ _ _ => none) (f_X3_fill_2 n0 ) n w0 l1 l2 = some o → aW p l e (x_Rm 0) s m args below meth c D tc A 3 [((shRow n0), ad0)] none True [o] 2 [(0, .ref (ad0 0)), (1, .int l1), (2, .int l2)] [] [w0] := by
  intro n
  induction n with
  | zero => intro w0 l1 l2 h; exact absurd h (fun q => by cases q)
  | succ n ih =>
    intro w0 l1 l2 h
    have h : f_X3_fill_2 n0  (x_lp (φ := XM → Int32 → Int32 → Option (XM)) (fun _ _ _ => none) (f_X3_fill_2 n0 ) n) w0 l1 l2 = some o := h
    generalize x_lp (φ := XM → Int32 → Int32 → Option (XM)) (fun _ _ _ => none) (f_X3_fill_2 n0 ) n = k2 at h ih
    have hk2 := ih
    unfold f_X3_fill_2 at h
    refine a_iload_n (pc := 2) X 2 dX3_fill_2 rfl rfl ?_
    refine a_aload_n (pc := 3) X 0 dX3_fill_3 rfl rfl ?_
    refine a_getR (pc := 4) X 0 1 1 fl_RX3_7 rfl rfl rfl rfl rfl dX3_fill_4 ?_
    refine a_alenI (pc := 7) X 0 rfl rfl rfl rfl dX3_fill_7 ?_
    refine a_icmp_ge (pc := 8) X 24 dX3_fill_8 rfl (fun c_8 => ?_) (fun c_8 => ?_)
    · have h := x_ifp c_8 h
      have h := Option.some.inj h; subst h
      exact a_vret (pc := 24) X trivial dX3_fill_24
    · have h := x_ifn c_8 h
      refine a_aload_n (pc := 11) X 0 dX3_fill_11 rfl rfl ?_
      refine a_getR (pc := 12) X 0 1 1 fl_RX3_7 rfl rfl rfl rfl rfl dX3_fill_12 ?_
      refine a_iload_n (pc := 15) X 2 dX3_fill_15 rfl rfl ?_
      refine a_iload_n (pc := 16) X 1 dX3_fill_16 rfl rfl ?_
      obtain ⟨c_17, h⟩ := x_ck_elim h
      refine a_iast (pc := 17) X 0 rfl rfl rfl c_17 dX3_fill_17 ?_
      obtain ⟨m1, e_m1, h⟩ := x_lt_elim h
      refine a_nm (vs2 := [m1]) (congrArg (fun q : XM => [q]) e_m1) ?_
      refine a_iinc (pc := 18) X 2 [(2, .int (l2 + 1)), (0, .ref (ad0 0)), (1, .int l1)] dX3_fill_18 rfl (congrArg (HAdd.hAdd l2) q_ic_1) (by decide) rfl ?_
      refine a_goto (pc := 21) X 2 dX3_fill_21 rfl ?_
      refine a_sub [1, 2, 0] rfl ?_
      exact hk2 _ _ _ h
set_option maxRecDepth 100000 in
set_option maxHeartbeats 4000000 in
theorem c_X3_fill {l : Launch}  {ad0 : Nat → Nat} {n0 : Nat} {v0 : XM} {x0 : Int32}  {o : XM} (h : f_X3_fill n0 v0 x0 = some o) : CT l yX3_fill cX3_fill 3 none 0 [((shRow n0), ad0)] [v0] (fun aK => [.ref (ad0 0), .int x0]) none True [o] := by
  refine CT_of (by decide) (fun _ => Nat.le_of_ble_eq_true rfl) ?_
  intro p e s m args below meth c D tc aK aV A X
  have X : Cx p s m args meth c cX3_fill 3 none RX3 D tc aK aV A [((shRow n0), ad0)] := X
  show aW p l e (x_Rm 0) s m args below meth c D tc A 3 [((shRow n0), ad0)] none True [o] 0 [(0, .ref (ad0 0)), (1, .int x0)] [] [v0]
  unfold f_X3_fill at h
  refine a_iconst (pc := 0) X dX3_fill_0 q_ic_0 ?_
  refine a_istore_n (pc := 1) X [(2, .int (0 : Int32)), (0, .ref (ad0 0)), (1, .int x0)] dX3_fill_1 rfl (by decide) rfl ?_
  refine a_sub [1, 2, 0] rfl ?_
  exact w_X3_fill_2 X    x_NN _ _ _ h
theorem dX3_become_0 : decode cX3_become 0 = .ok (.iconst 0, 1) := by decide +kernel
theorem dX3_become_1 : decode cX3_become 1 = .ok (.istore_n 2, 1) := by decide +kernel
theorem dX3_become_2 : decode cX3_become 2 = .ok (.iload_n 2, 1) := by decide +kernel
theorem dX3_become_3 : decode cX3_become 3 = .ok (.aload_n 0, 1) := by decide +kernel
theorem dX3_become_4 : decode cX3_become 4 = .ok (.getfield 7, 3) := by decide +kernel
theorem dX3_become_7 : decode cX3_become 7 = .ok (.arraylength, 1) := by decide +kernel
theorem dX3_become_8 : decode cX3_become 8 = .ok (.if_icmp .ge 20, 3) := by decide +kernel
theorem dX3_become_11 : decode cX3_become 11 = .ok (.aload_n 0, 1) := by decide +kernel
theorem dX3_become_12 : decode cX3_become 12 = .ok (.getfield 7, 3) := by decide +kernel
theorem dX3_become_15 : decode cX3_become 15 = .ok (.iload_n 2, 1) := by decide +kernel
theorem dX3_become_16 : decode cX3_become 16 = .ok (.aload_n 1, 1) := by decide +kernel
theorem dX3_become_17 : decode cX3_become 17 = .ok (.iload_n 2, 1) := by decide +kernel
theorem dX3_become_18 : decode cX3_become 18 = .ok (.invokevirtual 13, 3) := by decide +kernel
theorem dX3_become_21 : decode cX3_become 21 = .ok (.iastore, 1) := by decide +kernel
theorem dX3_become_22 : decode cX3_become 22 = .ok (.iinc 2 1, 3) := by decide +kernel
theorem dX3_become_25 : decode cX3_become 25 = .ok (.goto (-23), 3) := by decide +kernel
theorem dX3_become_28 : decode cX3_become 28 = .ok (.return_, 1) := by decide +kernel
def f_X3_become_2 (n0 : Nat) (n1 : Nat) (v1 : XM) (k2 : XM → Int32 → Option (XM)) (w0 : XM) (l2 : Int32) : Option (XM) :=
  if ((Int32.ofNat n0) : Int32) ≤ l2 then
  (some w0)
  else (x_bo (f_X3_get n1 v1 l2) (fun y1 =>
  x_ck l2 n0 (
  x_lt (x_pa w0 1 l2 y1) (fun m2 =>
  k2 m2 (l2 + 1)))))
def f_X3_become (n0 : Nat) (n1 : Nat) (v0 : XM) (v1 : XM) : Option (XM) :=
  x_lp (φ := XM → Int32 → Option (XM)) (fun _ _ => none) (f_X3_become_2 n0 n1 v1 ) x_NN v0 (0 : Int32)
set_option maxRecDepth 100000 in
set_option maxHeartbeats 4000000 in
theorem w_X3_become_2 {p : Program} {l : Launch} {e : Env} {s : State} {m : MethodId} {args : Array Value} {below : List Frame} {meth : Method} {c : Code} {D : va_G} {tc : Nat → ClassId} {aK aV : Nat → Nat} {A : Nat → Prop} {ad0 : Nat → Nat} {ad1 : Nat → Nat} {n0 : Nat} {n1 : Nat} {v1 : XM} (X : Cx p s m args meth c cX3_become 3 none RX3 D tc aK aV A [((shRow n0), ad0), ((shRow n1), ad1)])  {o : XM}  : ∀ (n : Nat), ∀ (w0 : XM) (l2 : Int32), x_lp (φ := XM → Int32 → Option (XM)) (fun _ _ => none) (f_X3_become_2 n0 n1 v1 ) n w0 l2 = some o → aW p l e (x_Rm 1) s m args below meth c D tc A 3 [((shRow n0), ad0), ((shRow n1), ad1)] none True [o, v1] 2 [(0, .ref (ad0 0)), (1, .ref (ad1 0)), (2, .int l2)] [] [w0, v1] := by
  intro n
  induction n with
  | zero => intro w0 l2 h; exact absurd h (fun q => by cases q)
  | succ n ih =>
    intro w0 l2 h
    have h : f_X3_become_2 n0 n1 v1  (x_lp (φ := XM → Int32 → Option (XM)) (fun _ _ => none) (f_X3_become_2 n0 n1 v1 ) n) w0 l2 = some o := h
    generalize x_lp (φ := XM → Int32 → Option (XM)) (fun _ _ => none) (f_X3_become_2 n0 n1 v1 ) n = k2 at h ih
    have hk2 := ih
    unfold f_X3_become_2 at h
    refine a_iload_n (pc := 2) X 2 dX3_become_2 rfl rfl ?_
    refine a_aload_n (pc := 3) X 0 dX3_become_3 rfl rfl ?_
    refine a_getR (pc := 4) X 0 1 1 fl_RX3_7 rfl rfl rfl rfl rfl dX3_become_4 ?_
    refine a_alenI (pc := 7) X 0 rfl rfl rfl rfl dX3_become_7 ?_
    refine a_icmp_ge (pc := 8) X 28 dX3_become_8 rfl (fun c_8 => ?_) (fun c_8 => ?_)
    · have h := x_ifp c_8 h
      have h := Option.some.inj h; subst h
      exact a_vret (pc := 28) X trivial dX3_become_28
    · have h := x_ifn c_8 h
      refine a_aload_n (pc := 11) X 0 dX3_become_11 rfl rfl ?_
      refine a_getR (pc := 12) X 0 1 1 fl_RX3_7 rfl rfl rfl rfl rfl dX3_become_12 ?_
      refine a_iload_n (pc := 15) X 2 dX3_become_15 rfl rfl ?_
      refine a_aload_n (pc := 16) X 1 dX3_become_16 rfl rfl ?_
      refine a_iload_n (pc := 17) X 2 dX3_become_17 rfl rfl ?_
      obtain ⟨y1, e_y1, h⟩ := x_bo_elim h
      refine a_callV (pc := 18) (st2 := [.int y1, .int l2, .ref (ad0 1)]) (vs2 := [w0, v1]) X [(1, 0, 2)] [none] 1 0 3 [.int l2] [.int l2, .ref (ad0 1)] cv_RX3_13 (c_X3_get (ad0 := ad1)  e_y1) rfl rfl rfl rfl rfl rfl rfl rfl rfl rfl rfl rfl rfl rfl rfl (Nat.le_of_ble_eq_true rfl) ⟨Nat.le_of_ble_eq_true rfl, Nat.le_of_ble_eq_true rfl⟩ dX3_become_18 (fun _ => ?_)
      obtain ⟨c_21, h⟩ := x_ck_elim h
      refine a_iast (pc := 21) X 0 rfl rfl rfl c_21 dX3_become_21 ?_
      obtain ⟨m2, e_m2, h⟩ := x_lt_elim h
      refine a_nm (vs2 := [m2, v1]) (congrArg (fun q : XM => [q, v1]) e_m2) ?_
      refine a_iinc (pc := 22) X 2 [(2, .int (l2 + 1)), (0, .ref (ad0 0)), (1, .ref (ad1 0))] dX3_become_22 rfl (congrArg (HAdd.hAdd l2) q_ic_1) (by decide) rfl ?_
      refine a_goto (pc := 25) X 2 dX3_become_25 rfl ?_
      refine a_sub [1, 2, 0] rfl ?_
      exact hk2 _ _ h
set_option maxRecDepth 100000 in
set_option maxHeartbeats 4000000 in
theorem c_X3_become {l : Launch}  {ad0 : Nat → Nat} {ad1 : Nat → Nat} {n0 : Nat} {n1 : Nat} {v0 v1 : XM}   {o : XM} (h : f_X3_become n0 n1 v0 v1 = some o) : CT l yX3_become cX3_become 3 none 1 [((shRow n0), ad0), ((shRow n1), ad1)] [v0, v1] (fun aK => [.ref (ad0 0), .ref (ad1 0)]) none True [o, v1] := by
  refine CT_of (by decide) (fun _ => Nat.le_of_ble_eq_true rfl) ?_
  intro p e s m args below meth c D tc aK aV A X
  have X : Cx p s m args meth c cX3_become 3 none RX3 D tc aK aV A [((shRow n0), ad0), ((shRow n1), ad1)] := X
  show aW p l e (x_Rm 1) s m args below meth c D tc A 3 [((shRow n0), ad0), ((shRow n1), ad1)] none True [o, v1] 0 [(0, .ref (ad0 0)), (1, .ref (ad1 0))] [] [v0, v1]
  unfold f_X3_become at h
  refine a_iconst (pc := 0) X dX3_become_0 q_ic_0 ?_
  refine a_istore_n (pc := 1) X [(2, .int (0 : Int32)), (0, .ref (ad0 0)), (1, .ref (ad1 0))] dX3_become_1 rfl (by decide) rfl ?_
  refine a_sub [1, 2, 0] rfl ?_
  exact w_X3_become_2 X    x_NN _ _ h
