-- class: functional forms and contracts, written by wip/whole/gen.py out of the bytecode.
theorem dX8_isBlank_0 : decode cX8_isBlank 0 = .ok (.iload_n 0, 1) := by decide +kernel
theorem dX8_isBlank_1 : decode cX8_isBlank 1 = .ok (.bipush 32, 2) := by decide +kernel
theorem dX8_isBlank_3 : decode cX8_isBlank 3 = .ok (.if_icmp .eq 9, 3) := by decide +kernel
theorem dX8_isBlank_6 : decode cX8_isBlank 6 = .ok (.iload_n 0, 1) := by decide +kernel
theorem dX8_isBlank_7 : decode cX8_isBlank 7 = .ok (.bipush 10, 2) := by decide +kernel
theorem dX8_isBlank_9 : decode cX8_isBlank 9 = .ok (.if_icmp .ne 7, 3) := by decide +kernel
theorem dX8_isBlank_12 : decode cX8_isBlank 12 = .ok (.iconst 1, 1) := by decide +kernel
theorem dX8_isBlank_13 : decode cX8_isBlank 13 = .ok (.goto 4, 3) := by decide +kernel
theorem dX8_isBlank_16 : decode cX8_isBlank 16 = .ok (.iconst 0, 1) := by decide +kernel
theorem dX8_isBlank_17 : decode cX8_isBlank 17 = .ok (.ireturn, 1) := by decide +kernel
def f_X8_isBlank (x0 : Int32) : Int32 :=
  if (x0 : Int32) = (32 : Int32) then
  (((1 : Int32) : Int32))
  else (if (x0 : Int32) = (10 : Int32) then
  (((1 : Int32) : Int32))
  else (((0 : Int32) : Int32)))
set_option maxRecDepth 100000 in
set_option maxHeartbeats 4000000 in
theorem c_X8_isBlank {l : Launch}   {x0 : Int32}  {o : Int32} (h : f_X8_isBlank x0 = o) : CT l yX8_isBlank cX8_isBlank 1 (some .boolean) 0 [] [] (fun aK => [.int x0]) (some (.int o)) (x_Z o) [] := by
  refine CT_of (by decide) (fun _ => Nat.le_of_ble_eq_true rfl) ?_
  intro p e s m args below meth c D tc aK aV A X
  have X : Cx p s m args meth c cX8_isBlank 1 (some .boolean) RX8 D tc aK aV A [] := X
  show aW p l e (x_Rm 0) s m args below meth c D tc A 1 [] (some (.int o)) (x_Z o) [] 0 [(0, .int x0)] [] []
  unfold f_X8_isBlank at h
  refine a_iload_n (pc := 0) X 0 dX8_isBlank_0 rfl rfl ?_
  refine a_bipush (pc := 1) X dX8_isBlank_1 q_bp_32 ?_
  refine a_icmp_eq (pc := 3) X 12 dX8_isBlank_3 rfl (fun c_3 => ?_) (fun c_3 => ?_)
  · have h := x_ifp c_3 h
    refine a_iconst (pc := 12) X dX8_isBlank_12 q_ic_1 ?_
    refine a_goto (pc := 13) X 17 dX8_isBlank_13 rfl ?_
    subst h
    exact a_zret (pc := 17) X x_Z1 x_Z1 dX8_isBlank_17
  · have h := x_ifn c_3 h
    refine a_iload_n (pc := 6) X 0 dX8_isBlank_6 rfl rfl ?_
    refine a_bipush (pc := 7) X dX8_isBlank_7 q_bp_10 ?_
    refine a_icmp_ne (pc := 9) X 16 dX8_isBlank_9 rfl (fun c_9 => ?_) (fun c_9 => ?_)
    · have h := x_ifn c_9 h
      refine a_iconst (pc := 16) X dX8_isBlank_16 q_ic_0 ?_
      subst h
      exact a_zret (pc := 17) X x_Z0 x_Z0 dX8_isBlank_17
    · have h := x_ifp c_9 h
      refine a_iconst (pc := 12) X dX8_isBlank_12 q_ic_1 ?_
      refine a_goto (pc := 13) X 17 dX8_isBlank_13 rfl ?_
      subst h
      exact a_zret (pc := 17) X x_Z1 x_Z1 dX8_isBlank_17
theorem dX8_isLetter_0 : decode cX8_isLetter 0 = .ok (.iload_n 0, 1) := by decide +kernel
theorem dX8_isLetter_1 : decode cX8_isLetter 1 = .ok (.bipush 97, 2) := by decide +kernel
theorem dX8_isLetter_3 : decode cX8_isLetter 3 = .ok (.if_icmp .lt 13, 3) := by decide +kernel
theorem dX8_isLetter_6 : decode cX8_isLetter 6 = .ok (.iload_n 0, 1) := by decide +kernel
theorem dX8_isLetter_7 : decode cX8_isLetter 7 = .ok (.bipush 122, 2) := by decide +kernel
theorem dX8_isLetter_9 : decode cX8_isLetter 9 = .ok (.if_icmp .gt 7, 3) := by decide +kernel
theorem dX8_isLetter_12 : decode cX8_isLetter 12 = .ok (.iconst 1, 1) := by decide +kernel
theorem dX8_isLetter_13 : decode cX8_isLetter 13 = .ok (.goto 4, 3) := by decide +kernel
theorem dX8_isLetter_16 : decode cX8_isLetter 16 = .ok (.iconst 0, 1) := by decide +kernel
theorem dX8_isLetter_17 : decode cX8_isLetter 17 = .ok (.ireturn, 1) := by decide +kernel
def f_X8_isLetter (x0 : Int32) : Int32 :=
  if (x0 : Int32) < (97 : Int32) then
  (((0 : Int32) : Int32))
  else (if ((122 : Int32) : Int32) < x0 then
  (((0 : Int32) : Int32))
  else (((1 : Int32) : Int32)))
set_option maxRecDepth 100000 in
set_option maxHeartbeats 4000000 in
theorem c_X8_isLetter {l : Launch}   {x0 : Int32}  {o : Int32} (h : f_X8_isLetter x0 = o) : CT l yX8_isLetter cX8_isLetter 1 (some .boolean) 0 [] [] (fun aK => [.int x0]) (some (.int o)) (x_Z o) [] := by
  refine CT_of (by decide) (fun _ => Nat.le_of_ble_eq_true rfl) ?_
  intro p e s m args below meth c D tc aK aV A X
  have X : Cx p s m args meth c cX8_isLetter 1 (some .boolean) RX8 D tc aK aV A [] := X
  show aW p l e (x_Rm 0) s m args below meth c D tc A 1 [] (some (.int o)) (x_Z o) [] 0 [(0, .int x0)] [] []
  unfold f_X8_isLetter at h
  refine a_iload_n (pc := 0) X 0 dX8_isLetter_0 rfl rfl ?_
  refine a_bipush (pc := 1) X dX8_isLetter_1 q_bp_97 ?_
  refine a_icmp_lt (pc := 3) X 16 dX8_isLetter_3 rfl (fun c_3 => ?_) (fun c_3 => ?_)
  · have h := x_ifp c_3 h
    refine a_iconst (pc := 16) X dX8_isLetter_16 q_ic_0 ?_
    subst h
    exact a_zret (pc := 17) X x_Z0 x_Z0 dX8_isLetter_17
  · have h := x_ifn c_3 h
    refine a_iload_n (pc := 6) X 0 dX8_isLetter_6 rfl rfl ?_
    refine a_bipush (pc := 7) X dX8_isLetter_7 q_bp_122 ?_
    refine a_icmp_gt (pc := 9) X 16 dX8_isLetter_9 rfl (fun c_9 => ?_) (fun c_9 => ?_)
    · have h := x_ifp c_9 h
      refine a_iconst (pc := 16) X dX8_isLetter_16 q_ic_0 ?_
      subst h
      exact a_zret (pc := 17) X x_Z0 x_Z0 dX8_isLetter_17
    · have h := x_ifn c_9 h
      refine a_iconst (pc := 12) X dX8_isLetter_12 q_ic_1 ?_
      refine a_goto (pc := 13) X 17 dX8_isLetter_13 rfl ?_
      subst h
      exact a_zret (pc := 17) X x_Z1 x_Z1 dX8_isLetter_17
theorem dX8_isDigit_0 : decode cX8_isDigit 0 = .ok (.iload_n 0, 1) := by decide +kernel
theorem dX8_isDigit_1 : decode cX8_isDigit 1 = .ok (.bipush 48, 2) := by decide +kernel
theorem dX8_isDigit_3 : decode cX8_isDigit 3 = .ok (.if_icmp .lt 13, 3) := by decide +kernel
theorem dX8_isDigit_6 : decode cX8_isDigit 6 = .ok (.iload_n 0, 1) := by decide +kernel
theorem dX8_isDigit_7 : decode cX8_isDigit 7 = .ok (.bipush 57, 2) := by decide +kernel
theorem dX8_isDigit_9 : decode cX8_isDigit 9 = .ok (.if_icmp .gt 7, 3) := by decide +kernel
theorem dX8_isDigit_12 : decode cX8_isDigit 12 = .ok (.iconst 1, 1) := by decide +kernel
theorem dX8_isDigit_13 : decode cX8_isDigit 13 = .ok (.goto 4, 3) := by decide +kernel
theorem dX8_isDigit_16 : decode cX8_isDigit 16 = .ok (.iconst 0, 1) := by decide +kernel
theorem dX8_isDigit_17 : decode cX8_isDigit 17 = .ok (.ireturn, 1) := by decide +kernel
def f_X8_isDigit (x0 : Int32) : Int32 :=
  if (x0 : Int32) < (48 : Int32) then
  (((0 : Int32) : Int32))
  else (if ((57 : Int32) : Int32) < x0 then
  (((0 : Int32) : Int32))
  else (((1 : Int32) : Int32)))
set_option maxRecDepth 100000 in
set_option maxHeartbeats 4000000 in
theorem c_X8_isDigit {l : Launch}   {x0 : Int32}  {o : Int32} (h : f_X8_isDigit x0 = o) : CT l yX8_isDigit cX8_isDigit 1 (some .boolean) 0 [] [] (fun aK => [.int x0]) (some (.int o)) (x_Z o) [] := by
  refine CT_of (by decide) (fun _ => Nat.le_of_ble_eq_true rfl) ?_
  intro p e s m args below meth c D tc aK aV A X
  have X : Cx p s m args meth c cX8_isDigit 1 (some .boolean) RX8 D tc aK aV A [] := X
  show aW p l e (x_Rm 0) s m args below meth c D tc A 1 [] (some (.int o)) (x_Z o) [] 0 [(0, .int x0)] [] []
  unfold f_X8_isDigit at h
  refine a_iload_n (pc := 0) X 0 dX8_isDigit_0 rfl rfl ?_
  refine a_bipush (pc := 1) X dX8_isDigit_1 q_bp_48 ?_
  refine a_icmp_lt (pc := 3) X 16 dX8_isDigit_3 rfl (fun c_3 => ?_) (fun c_3 => ?_)
  · have h := x_ifp c_3 h
    refine a_iconst (pc := 16) X dX8_isDigit_16 q_ic_0 ?_
    subst h
    exact a_zret (pc := 17) X x_Z0 x_Z0 dX8_isDigit_17
  · have h := x_ifn c_3 h
    refine a_iload_n (pc := 6) X 0 dX8_isDigit_6 rfl rfl ?_
    refine a_bipush (pc := 7) X dX8_isDigit_7 q_bp_57 ?_
    refine a_icmp_gt (pc := 9) X 16 dX8_isDigit_9 rfl (fun c_9 => ?_) (fun c_9 => ?_)
    · have h := x_ifp c_9 h
      refine a_iconst (pc := 16) X dX8_isDigit_16 q_ic_0 ?_
      subst h
      exact a_zret (pc := 17) X x_Z0 x_Z0 dX8_isDigit_17
    · have h := x_ifn c_9 h
      refine a_iconst (pc := 12) X dX8_isDigit_12 q_ic_1 ?_
      refine a_goto (pc := 13) X 17 dX8_isDigit_13 rfl ?_
      subst h
      exact a_zret (pc := 17) X x_Z1 x_Z1 dX8_isDigit_17
theorem dX8_findWord_0 : decode cX8_findWord 0 = .ok (.iconst 0, 1) := by decide +kernel
theorem dX8_findWord_1 : decode cX8_findWord 1 = .ok (.istore_n 1, 1) := by decide +kernel
theorem dX8_findWord_2 : decode cX8_findWord 2 = .ok (.iload_n 1, 1) := by decide +kernel
theorem dX8_findWord_3 : decode cX8_findWord 3 = .ok (.aload_n 0, 1) := by decide +kernel
theorem dX8_findWord_4 : decode cX8_findWord 4 = .ok (.getfield 20, 3) := by decide +kernel
theorem dX8_findWord_7 : decode cX8_findWord 7 = .ok (.arraylength, 1) := by decide +kernel
theorem dX8_findWord_8 : decode cX8_findWord 8 = .ok (.if_icmp .ge 28, 3) := by decide +kernel
theorem dX8_findWord_11 : decode cX8_findWord 11 = .ok (.aload_n 0, 1) := by decide +kernel
theorem dX8_findWord_12 : decode cX8_findWord 12 = .ok (.getfield 20, 3) := by decide +kernel
theorem dX8_findWord_15 : decode cX8_findWord 15 = .ok (.iload_n 1, 1) := by decide +kernel
theorem dX8_findWord_16 : decode cX8_findWord 16 = .ok (.laload, 1) := by decide +kernel
theorem dX8_findWord_17 : decode cX8_findWord 17 = .ok (.aload_n 0, 1) := by decide +kernel
theorem dX8_findWord_18 : decode cX8_findWord 18 = .ok (.getfield 92, 3) := by decide +kernel
theorem dX8_findWord_21 : decode cX8_findWord 21 = .ok (.lcmp, 1) := by decide +kernel
theorem dX8_findWord_22 : decode cX8_findWord 22 = .ok (.ifCond .ne 8, 3) := by decide +kernel
theorem dX8_findWord_25 : decode cX8_findWord 25 = .ok (.aload_n 0, 1) := by decide +kernel
theorem dX8_findWord_26 : decode cX8_findWord 26 = .ok (.iload_n 1, 1) := by decide +kernel
theorem dX8_findWord_27 : decode cX8_findWord 27 = .ok (.putfield 71, 3) := by decide +kernel
theorem dX8_findWord_30 : decode cX8_findWord 30 = .ok (.iinc 1 1, 3) := by decide +kernel
theorem dX8_findWord_33 : decode cX8_findWord 33 = .ok (.goto (-31), 3) := by decide +kernel
theorem dX8_findWord_36 : decode cX8_findWord 36 = .ok (.return_, 1) := by decide +kernel
def f_X8_findWord_30 (k2 : XM → Int32 → Option (XM)) (w0 : XM) (l1 : Int32) : Option (XM) :=
  k2 w0 (l1 + 1)
def f_X8_findWord_2 (k2 : XM → Int32 → Option (XM)) (w0 : XM) (l1 : Int32) : Option (XM) :=
  if ((29 : Int32) : Int32) ≤ l1 then
  (some w0)
  else (x_ck l1 29 (
  if (lg_cmp (x_gl w0 3 l1) (w0.2 0 9)) = (0 : Int32) then
  (x_lt (x_si w0 0 8 l1) (fun m1 =>
  f_X8_findWord_30  k2 m1 l1))
  else (f_X8_findWord_30  k2 w0 l1)))
def f_X8_findWord (v0 : XM) : Option (XM) :=
  x_lp (φ := XM → Int32 → Option (XM)) (fun _ _ => none) (f_X8_findWord_2  ) x_NN v0 (0 : Int32)
set_option maxRecDepth 100000 in
set_option maxHeartbeats 4000000 in
theorem w_X8_findWord_30 {p : Program} {l : Launch} {e : Env} {s : State} {m : MethodId} {args : Array Value} {below : List Frame} {meth : Method} {c : Code} {D : va_G} {tc : Nat → ClassId} {aK aV : Nat → Nat} {A : Nat → Prop} {ad0 : Nat → Nat}  (X : Cx p s m args meth c cX8_findWord 2 none RX8 D tc aK aV A [(shTape, ad0)])  {o : XM} {k2 : XM → Int32 → Option (XM)} (hk2 : ∀ (w0 : XM) (l1 : Int32), k2 w0 l1 = some o → aW p l e (x_Rm 0) s m args below meth c D tc A 2 [(shTape, ad0)] none True [o] 2 [(0, .ref (ad0 0)), (1, .int l1)] [] [w0]) {w0 : XM} {l1 : Int32}  (h : f_X8_findWord_30  k2 w0 l1 = some o) : aW p l e (x_Rm 0) s m args below meth c D tc A 2 [(shTape, ad0)] none True [o] 30 [(0, .ref (ad0 0)), (1, .int l1)] [] [w0] := by
  unfold f_X8_findWord_30 at h
  refine a_iinc (pc := 30) X 1 [(1, .int (l1 + 1)), (0, .ref (ad0 0))] dX8_findWord_30 rfl (congrArg (HAdd.hAdd l1) q_ic_1) (by decide) rfl ?_
  refine a_goto (pc := 33) X 2 dX8_findWord_33 rfl ?_
  refine a_sub [1, 0] rfl ?_
  exact hk2 _ _ h
set_option maxRecDepth 100000 in
set_option maxHeartbeats 4000000 in
theorem w_X8_findWord_2 {p : Program} {l : Launch} {e : Env} {s : State} {m : MethodId} {args : Array Value} {below : List Frame} {meth : Method} {c : Code} {D : va_G} {tc : Nat → ClassId} {aK aV : Nat → Nat} {A : Nat → Prop} {ad0 : Nat → Nat}  (X : Cx p s m args meth c cX8_findWord 2 none RX8 D tc aK aV A [(shTape, ad0)])  {o : XM}  : ∀ (n : Nat), ∀ (w0 : XM) (l1 : Int32), x_lp (φ := XM → Int32 → Option (XM)) (fun _ _ => none) (f_X8_findWord_2  ) n w0 l1 = some o → aW p l e (x_Rm 0) s m args below meth c D tc A 2 [(shTape, ad0)] none True [o] 2 [(0, .ref (ad0 0)), (1, .int l1)] [] [w0] := by
  intro n
  induction n with
  | zero => intro w0 l1 h; exact absurd h (fun q => by cases q)
  | succ n ih =>
    intro w0 l1 h
    have h : f_X8_findWord_2   (x_lp (φ := XM → Int32 → Option (XM)) (fun _ _ => none) (f_X8_findWord_2  ) n) w0 l1 = some o := h
    generalize x_lp (φ := XM → Int32 → Option (XM)) (fun _ _ => none) (f_X8_findWord_2  ) n = k2 at h ih
    have hk2 := ih
    unfold f_X8_findWord_2 at h
    refine a_iload_n (pc := 2) X 1 dX8_findWord_2 rfl rfl ?_
    refine a_aload_n (pc := 3) X 0 dX8_findWord_3 rfl rfl ?_
    refine a_getR (pc := 4) X 0 3 3 fl_RX8_20 rfl rfl rfl rfl rfl dX8_findWord_4 ?_
    refine a_alenL (pc := 7) (x := 29) X 0 rfl rfl rfl (by decide) dX8_findWord_7 ?_
    refine a_icmp_ge (pc := 8) X 36 dX8_findWord_8 rfl (fun c_8 => ?_) (fun c_8 => ?_)
    · have h := x_ifp c_8 h
      have h := Option.some.inj h; subst h
      exact a_vret (pc := 36) X trivial dX8_findWord_36
    · have h := x_ifn c_8 h
      refine a_aload_n (pc := 11) X 0 dX8_findWord_11 rfl rfl ?_
      refine a_getR (pc := 12) X 0 3 3 fl_RX8_20 rfl rfl rfl rfl rfl dX8_findWord_12 ?_
      refine a_iload_n (pc := 15) X 1 dX8_findWord_15 rfl rfl ?_
      obtain ⟨c_16, h⟩ := x_ck_elim h
      refine a_lald (pc := 16) X 0 rfl rfl rfl c_16 dX8_findWord_16 ?_
      refine a_aload_n (pc := 17) X 0 dX8_findWord_17 rfl rfl ?_
      refine a_getL (pc := 18) X 0 fl_RX8_92 rfl rfl rfl rfl dX8_findWord_18 ?_
      refine a_lcmp (pc := 21) X dX8_findWord_21 ?_
      refine a_if_ne (pc := 22) X 30 dX8_findWord_22 rfl (fun c_22 => ?_) (fun c_22 => ?_)
      · have h := x_ifn c_22 h
        exact w_X8_findWord_30 X   hk2  h
      · have h := x_ifp c_22 h
        refine a_aload_n (pc := 25) X 0 dX8_findWord_25 rfl rfl ?_
        refine a_iload_n (pc := 26) X 1 dX8_findWord_26 rfl rfl ?_
        refine a_putI (pc := 27) X 0 fl_RX8_71 rfl rfl rfl rfl dX8_findWord_27 ?_
        obtain ⟨m1, e_m1, h⟩ := x_lt_elim h
        refine a_nm (vs2 := [m1]) (congrArg (fun q : XM => [q]) e_m1) ?_
        exact w_X8_findWord_30 X   hk2  h
set_option maxRecDepth 100000 in
set_option maxHeartbeats 4000000 in
theorem c_X8_findWord {l : Launch}  {ad0 : Nat → Nat} {v0 : XM}   {o : XM} (h : f_X8_findWord v0 = some o) : CT l yX8_findWord cX8_findWord 2 none 0 [(shTape, ad0)] [v0] (fun aK => [.ref (ad0 0)]) none True [o] := by
  refine CT_of (by decide) (fun _ => Nat.le_of_ble_eq_true rfl) ?_
  intro p e s m args below meth c D tc aK aV A X
  have X : Cx p s m args meth c cX8_findWord 2 none RX8 D tc aK aV A [(shTape, ad0)] := X
  show aW p l e (x_Rm 0) s m args below meth c D tc A 2 [(shTape, ad0)] none True [o] 0 [(0, .ref (ad0 0))] [] [v0]
  unfold f_X8_findWord at h
  refine a_iconst (pc := 0) X dX8_findWord_0 q_ic_0 ?_
  refine a_istore_n (pc := 1) X [(1, .int (0 : Int32)), (0, .ref (ad0 0))] dX8_findWord_1 rfl (by decide) rfl ?_
  refine a_sub [1, 0] rfl ?_
  exact w_X8_findWord_2 X    x_NN _ _ h
theorem dX8_readRun_0 : decode cX8_readRun 0 = .ok (.iconst 0, 1) := by decide +kernel
theorem dX8_readRun_1 : decode cX8_readRun 1 = .ok (.istore_n 1, 1) := by decide +kernel
theorem dX8_readRun_2 : decode cX8_readRun 2 = .ok (.aload_n 0, 1) := by decide +kernel
theorem dX8_readRun_3 : decode cX8_readRun 3 = .ok (.iconst 0, 1) := by decide +kernel
theorem dX8_readRun_4 : decode cX8_readRun 4 = .ok (.putfield 89, 3) := by decide +kernel
theorem dX8_readRun_7 : decode cX8_readRun 7 = .ok (.aload_n 0, 1) := by decide +kernel
theorem dX8_readRun_8 : decode cX8_readRun 8 = .ok (.lconst 0, 1) := by decide +kernel
theorem dX8_readRun_9 : decode cX8_readRun 9 = .ok (.putfield 92, 3) := by decide +kernel
theorem dX8_readRun_12 : decode cX8_readRun 12 = .ok (.aload_n 0, 1) := by decide +kernel
theorem dX8_readRun_13 : decode cX8_readRun 13 = .ok (.getfield 52, 3) := by decide +kernel
theorem dX8_readRun_16 : decode cX8_readRun 16 = .ok (.aload_n 0, 1) := by decide +kernel
theorem dX8_readRun_17 : decode cX8_readRun 17 = .ok (.getfield 42, 3) := by decide +kernel
theorem dX8_readRun_20 : decode cX8_readRun 20 = .ok (.if_icmp .ge 111, 3) := by decide +kernel
theorem dX8_readRun_23 : decode cX8_readRun 23 = .ok (.aload_n 0, 1) := by decide +kernel
theorem dX8_readRun_24 : decode cX8_readRun 24 = .ok (.getfield 14, 3) := by decide +kernel
theorem dX8_readRun_27 : decode cX8_readRun 27 = .ok (.aload_n 0, 1) := by decide +kernel
theorem dX8_readRun_28 : decode cX8_readRun 28 = .ok (.getfield 52, 3) := by decide +kernel
theorem dX8_readRun_31 : decode cX8_readRun 31 = .ok (.invokevirtual 38, 3) := by decide +kernel
theorem dX8_readRun_34 : decode cX8_readRun 34 = .ok (.invokestatic 77, 3) := by decide +kernel
theorem dX8_readRun_37 : decode cX8_readRun 37 = .ok (.ifCond .ne 20, 3) := by decide +kernel
theorem dX8_readRun_40 : decode cX8_readRun 40 = .ok (.aload_n 0, 1) := by decide +kernel
theorem dX8_readRun_41 : decode cX8_readRun 41 = .ok (.getfield 14, 3) := by decide +kernel
theorem dX8_readRun_44 : decode cX8_readRun 44 = .ok (.aload_n 0, 1) := by decide +kernel
theorem dX8_readRun_45 : decode cX8_readRun 45 = .ok (.getfield 52, 3) := by decide +kernel
theorem dX8_readRun_48 : decode cX8_readRun 48 = .ok (.invokevirtual 38, 3) := by decide +kernel
theorem dX8_readRun_51 : decode cX8_readRun 51 = .ok (.invokestatic 80, 3) := by decide +kernel
theorem dX8_readRun_54 : decode cX8_readRun 54 = .ok (.ifCond .eq 77, 3) := by decide +kernel
theorem dX8_readRun_57 : decode cX8_readRun 57 = .ok (.aload_n 0, 1) := by decide +kernel
theorem dX8_readRun_58 : decode cX8_readRun 58 = .ok (.getfield 14, 3) := by decide +kernel
theorem dX8_readRun_61 : decode cX8_readRun 61 = .ok (.aload_n 0, 1) := by decide +kernel
theorem dX8_readRun_62 : decode cX8_readRun 62 = .ok (.getfield 52, 3) := by decide +kernel
theorem dX8_readRun_65 : decode cX8_readRun 65 = .ok (.invokevirtual 38, 3) := by decide +kernel
theorem dX8_readRun_68 : decode cX8_readRun 68 = .ok (.istore_n 2, 1) := by decide +kernel
theorem dX8_readRun_69 : decode cX8_readRun 69 = .ok (.iload_n 2, 1) := by decide +kernel
theorem dX8_readRun_70 : decode cX8_readRun 70 = .ok (.invokestatic 77, 3) := by decide +kernel
theorem dX8_readRun_73 : decode cX8_readRun 73 = .ok (.ifCond .eq 29, 3) := by decide +kernel
theorem dX8_readRun_76 : decode cX8_readRun 76 = .ok (.iinc 1 1, 3) := by decide +kernel
theorem dX8_readRun_79 : decode cX8_readRun 79 = .ok (.aload_n 0, 1) := by decide +kernel
theorem dX8_readRun_80 : decode cX8_readRun 80 = .ok (.aload_n 0, 1) := by decide +kernel
theorem dX8_readRun_81 : decode cX8_readRun 81 = .ok (.getfield 92, 3) := by decide +kernel
theorem dX8_readRun_84 : decode cX8_readRun 84 = .ok (.ldc2_w 36, 3) := by decide +kernel
theorem dX8_readRun_87 : decode cX8_readRun 87 = .ok (.lmul, 1) := by decide +kernel
theorem dX8_readRun_88 : decode cX8_readRun 88 = .ok (.iload_n 2, 1) := by decide +kernel
theorem dX8_readRun_89 : decode cX8_readRun 89 = .ok (.bipush 97, 2) := by decide +kernel
theorem dX8_readRun_91 : decode cX8_readRun 91 = .ok (.isub, 1) := by decide +kernel
theorem dX8_readRun_92 : decode cX8_readRun 92 = .ok (.iconst 1, 1) := by decide +kernel
theorem dX8_readRun_93 : decode cX8_readRun 93 = .ok (.iadd, 1) := by decide +kernel
theorem dX8_readRun_94 : decode cX8_readRun 94 = .ok (.i2l, 1) := by decide +kernel
theorem dX8_readRun_95 : decode cX8_readRun 95 = .ok (.ladd, 1) := by decide +kernel
theorem dX8_readRun_96 : decode cX8_readRun 96 = .ok (.putfield 92, 3) := by decide +kernel
theorem dX8_readRun_99 : decode cX8_readRun 99 = .ok (.goto 19, 3) := by decide +kernel
theorem dX8_readRun_102 : decode cX8_readRun 102 = .ok (.aload_n 0, 1) := by decide +kernel
theorem dX8_readRun_103 : decode cX8_readRun 103 = .ok (.aload_n 0, 1) := by decide +kernel
theorem dX8_readRun_104 : decode cX8_readRun 104 = .ok (.getfield 89, 3) := by decide +kernel
theorem dX8_readRun_107 : decode cX8_readRun 107 = .ok (.bipush 10, 2) := by decide +kernel
theorem dX8_readRun_109 : decode cX8_readRun 109 = .ok (.imul, 1) := by decide +kernel
theorem dX8_readRun_110 : decode cX8_readRun 110 = .ok (.iload_n 2, 1) := by decide +kernel
theorem dX8_readRun_111 : decode cX8_readRun 111 = .ok (.bipush 48, 2) := by decide +kernel
theorem dX8_readRun_113 : decode cX8_readRun 113 = .ok (.isub, 1) := by decide +kernel
theorem dX8_readRun_114 : decode cX8_readRun 114 = .ok (.iadd, 1) := by decide +kernel
theorem dX8_readRun_115 : decode cX8_readRun 115 = .ok (.putfield 89, 3) := by decide +kernel
theorem dX8_readRun_118 : decode cX8_readRun 118 = .ok (.aload_n 0, 1) := by decide +kernel
theorem dX8_readRun_119 : decode cX8_readRun 119 = .ok (.dup, 1) := by decide +kernel
theorem dX8_readRun_120 : decode cX8_readRun 120 = .ok (.getfield 52, 3) := by decide +kernel
theorem dX8_readRun_123 : decode cX8_readRun 123 = .ok (.iconst 1, 1) := by decide +kernel
theorem dX8_readRun_124 : decode cX8_readRun 124 = .ok (.iadd, 1) := by decide +kernel
theorem dX8_readRun_125 : decode cX8_readRun 125 = .ok (.putfield 52, 3) := by decide +kernel
theorem dX8_readRun_128 : decode cX8_readRun 128 = .ok (.goto (-116), 3) := by decide +kernel
theorem dX8_readRun_131 : decode cX8_readRun 131 = .ok (.aload_n 0, 1) := by decide +kernel
theorem dX8_readRun_132 : decode cX8_readRun 132 = .ok (.getfield 52, 3) := by decide +kernel
theorem dX8_readRun_135 : decode cX8_readRun 135 = .ok (.aload_n 0, 1) := by decide +kernel
theorem dX8_readRun_136 : decode cX8_readRun 136 = .ok (.getfield 68, 3) := by decide +kernel
theorem dX8_readRun_139 : decode cX8_readRun 139 = .ok (.isub, 1) := by decide +kernel
theorem dX8_readRun_140 : decode cX8_readRun 140 = .ok (.istore_n 2, 1) := by decide +kernel
theorem dX8_readRun_141 : decode cX8_readRun 141 = .ok (.iload_n 1, 1) := by decide +kernel
theorem dX8_readRun_142 : decode cX8_readRun 142 = .ok (.iload_n 2, 1) := by decide +kernel
theorem dX8_readRun_143 : decode cX8_readRun 143 = .ok (.if_icmp .ne 21, 3) := by decide +kernel
theorem dX8_readRun_146 : decode cX8_readRun 146 = .ok (.iload_n 2, 1) := by decide +kernel
theorem dX8_readRun_147 : decode cX8_readRun 147 = .ok (.bipush 7, 2) := by decide +kernel
theorem dX8_readRun_149 : decode cX8_readRun 149 = .ok (.if_icmp .gt 15, 3) := by decide +kernel
theorem dX8_readRun_152 : decode cX8_readRun 152 = .ok (.aload_n 0, 1) := by decide +kernel
theorem dX8_readRun_153 : decode cX8_readRun 153 = .ok (.iconst 2, 1) := by decide +kernel
theorem dX8_readRun_154 : decode cX8_readRun 154 = .ok (.putfield 74, 3) := by decide +kernel
theorem dX8_readRun_157 : decode cX8_readRun 157 = .ok (.aload_n 0, 1) := by decide +kernel
theorem dX8_readRun_158 : decode cX8_readRun 158 = .ok (.invokevirtual 96, 3) := by decide +kernel
theorem dX8_readRun_161 : decode cX8_readRun 161 = .ok (.goto 21, 3) := by decide +kernel
theorem dX8_readRun_164 : decode cX8_readRun 164 = .ok (.aload_n 0, 1) := by decide +kernel
theorem dX8_readRun_165 : decode cX8_readRun 165 = .ok (.iload_n 1, 1) := by decide +kernel
theorem dX8_readRun_166 : decode cX8_readRun 166 = .ok (.ifCond .ne 12, 3) := by decide +kernel
theorem dX8_readRun_169 : decode cX8_readRun 169 = .ok (.iload_n 2, 1) := by decide +kernel
theorem dX8_readRun_170 : decode cX8_readRun 170 = .ok (.iconst 3, 1) := by decide +kernel
theorem dX8_readRun_171 : decode cX8_readRun 171 = .ok (.if_icmp .gt 7, 3) := by decide +kernel
theorem dX8_readRun_174 : decode cX8_readRun 174 = .ok (.iconst 3, 1) := by decide +kernel
theorem dX8_readRun_175 : decode cX8_readRun 175 = .ok (.goto 4, 3) := by decide +kernel
theorem dX8_readRun_178 : decode cX8_readRun 178 = .ok (.iconst 1, 1) := by decide +kernel
theorem dX8_readRun_179 : decode cX8_readRun 179 = .ok (.putfield 74, 3) := by decide +kernel
theorem dX8_readRun_182 : decode cX8_readRun 182 = .ok (.return_, 1) := by decide +kernel
def f_X8_readRun_118 (k12 : XM → Int32 → Option (XM)) (w0 : XM) (l1 : Int32) : Option (XM) :=
  x_lt (x_si w0 0 4 ((w0.1 0 4) + (1 : Int32))) (fun m1 =>
  k12 m1 l1)
def f_X8_readRun_57 (k12 : XM → Int32 → Option (XM)) (w0 : XM) (l1 : Int32) : Option (XM) :=
  x_lt (r_get 940 (x_sub w0 1) (w0.1 0 4)) (fun y2 =>
  x_lt (f_X8_isLetter y2) (fun y3 =>
  if y3 = (0 : Int32) then
  (x_lt (((w0.1 0 7) * (10 : Int32)) + (y2 - (48 : Int32))) (fun y4 =>
  x_lt (x_si w0 0 7 y4) (fun m5 =>
  f_X8_readRun_118  k12 m5 l1)))
  else (x_lt (((w0.2 0 9) * (32 : Int64)) + ((((y2 - (97 : Int32)) + (1 : Int32)) : Int32).toInt64)) (fun y6 =>
  x_lt (x_sl w0 0 9 y6) (fun m7 =>
  f_X8_readRun_118  k12 m7 (l1 + 1))))))
def f_X8_readRun_164 (w0 : XM) (l1 : Int32) (l2 : Int32) : Option (XM) :=
  if l1 = (0 : Int32) then
  (if ((3 : Int32) : Int32) < l2 then
  (x_lt (x_si w0 0 6 (1 : Int32)) (fun m9 =>
  some m9))
  else (x_lt (x_si w0 0 6 (3 : Int32)) (fun m10 =>
  some m10)))
  else (x_lt (x_si w0 0 6 (1 : Int32)) (fun m8 =>
  some m8))
def f_X8_readRun_131 (w0 : XM) (l1 : Int32) : Option (XM) :=
  if (l1 : Int32) = ((w0.1 0 4) - (w0.1 0 5)) then
  (if ((7 : Int32) : Int32) < ((w0.1 0 4) - (w0.1 0 5)) then
  (f_X8_readRun_164   w0 l1 ((w0.1 0 4) - (w0.1 0 5)))
  else (x_lt (x_si w0 0 6 (2 : Int32)) (fun m11 =>
  x_bo (f_X8_findWord m11) (fun y12 =>
  some y12))))
  else (f_X8_readRun_164   w0 l1 ((w0.1 0 4) - (w0.1 0 5)))
def f_X8_readRun_12 (k12 : XM → Int32 → Option (XM)) (w0 : XM) (l1 : Int32) : Option (XM) :=
  if ((w0.1 0 2) : Int32) ≤ (w0.1 0 4) then
  (f_X8_readRun_131   w0 l1)
  else (x_lt (r_get 940 (x_sub w0 1) (w0.1 0 4)) (fun y13 =>
  x_lt (f_X8_isLetter y13) (fun y14 =>
  if y14 = (0 : Int32) then
  (x_lt (r_get 940 (x_sub w0 1) (w0.1 0 4)) (fun y15 =>
  x_lt (f_X8_isDigit y15) (fun y16 =>
  if y16 = (0 : Int32) then
  (f_X8_readRun_131   w0 l1)
  else (f_X8_readRun_57  k12 w0 l1))))
  else (f_X8_readRun_57  k12 w0 l1))))
def f_X8_readRun (v0 : XM) : Option (XM) :=
  x_lt (x_si v0 0 7 (0 : Int32)) (fun m17 =>
  x_lt (x_sl m17 0 9 (0 : Int64)) (fun m18 =>
  x_lp (φ := XM → Int32 → Option (XM)) (fun _ _ => none) (f_X8_readRun_12  ) x_NN m18 (0 : Int32)))
set_option maxRecDepth 100000 in
set_option maxHeartbeats 4000000 in
theorem w_X8_readRun_118 {p : Program} {l : Launch} {e : Env} {s : State} {m : MethodId} {args : Array Value} {below : List Frame} {meth : Method} {c : Code} {D : va_G} {tc : Nat → ClassId} {aK aV : Nat → Nat} {A : Nat → Prop} {ad0 : Nat → Nat}  (X : Cx p s m args meth c cX8_readRun 3 none RX8 D tc aK aV A [(shTape, ad0)])  {o : XM} {k12 : XM → Int32 → Option (XM)} (hk12 : ∀ (w0 : XM) (l1 : Int32), k12 w0 l1 = some o → aW p l e (x_Rm 1) s m args below meth c D tc A 3 [(shTape, ad0)] none True [o] 12 [(0, .ref (ad0 0)), (1, .int l1)] [] [w0]) {w0 : XM} {l1 : Int32}  (h : f_X8_readRun_118  k12 w0 l1 = some o) : aW p l e (x_Rm 1) s m args below meth c D tc A 3 [(shTape, ad0)] none True [o] 118 [(0, .ref (ad0 0)), (1, .int l1)] [] [w0] := by
  unfold f_X8_readRun_118 at h
  refine a_aload_n (pc := 118) X 0 dX8_readRun_118 rfl rfl ?_
  refine a_dup (pc := 119) X dX8_readRun_119 rfl ?_
  refine a_getI (pc := 120) X 0 fl_RX8_52 rfl rfl rfl rfl dX8_readRun_120 ?_
  refine a_iconst (pc := 123) X dX8_readRun_123 q_ic_1 ?_
  refine a_iadd (pc := 124) X dX8_readRun_124 ?_
  refine a_putI (pc := 125) X 0 fl_RX8_52 rfl rfl rfl rfl dX8_readRun_125 ?_
  obtain ⟨m1, e_m1, h⟩ := x_lt_elim h
  refine a_nm (vs2 := [m1]) (congrArg (fun q : XM => [q]) e_m1) ?_
  refine a_goto (pc := 128) X 12 dX8_readRun_128 rfl ?_
  exact hk12 _ _ h
set_option maxRecDepth 100000 in
set_option maxHeartbeats 4000000 in
theorem w_X8_readRun_57 {p : Program} {l : Launch} {e : Env} {s : State} {m : MethodId} {args : Array Value} {below : List Frame} {meth : Method} {c : Code} {D : va_G} {tc : Nat → ClassId} {aK aV : Nat → Nat} {A : Nat → Prop} {ad0 : Nat → Nat}  (X : Cx p s m args meth c cX8_readRun 3 none RX8 D tc aK aV A [(shTape, ad0)])  {o : XM} {k12 : XM → Int32 → Option (XM)} (hk12 : ∀ (w0 : XM) (l1 : Int32), k12 w0 l1 = some o → aW p l e (x_Rm 1) s m args below meth c D tc A 3 [(shTape, ad0)] none True [o] 12 [(0, .ref (ad0 0)), (1, .int l1)] [] [w0]) {w0 : XM} {l1 : Int32}  (h : f_X8_readRun_57  k12 w0 l1 = some o) : aW p l e (x_Rm 1) s m args below meth c D tc A 3 [(shTape, ad0)] none True [o] 57 [(0, .ref (ad0 0)), (1, .int l1)] [] [w0] := by
  unfold f_X8_readRun_57 at h
  refine a_aload_n (pc := 57) X 0 dX8_readRun_57 rfl rfl ?_
  refine a_getR (pc := 58) X 0 1 1 fl_RX8_14 rfl rfl rfl rfl rfl dX8_readRun_58 ?_
  refine a_aload_n (pc := 61) X 0 dX8_readRun_61 rfl rfl ?_
  refine a_getI (pc := 62) X 0 fl_RX8_52 rfl rfl rfl rfl dX8_readRun_62 ?_
  obtain ⟨y2, e_y2, h⟩ := x_lt_elim h
  refine a_callV (pc := 65) (st2 := [.int y2]) (vs2 := [w0]) X [(0, 1, 2)] [none] 0 1 3 [.int (w0.1 0 4)] [] cv_RX8_38 (ct_get (ad0 := (fun i => ad0 (i + 1))) (by decide) e_y2) rfl rfl rfl rfl rfl rfl rfl rfl rfl rfl rfl rfl rfl rfl rfl (Nat.le_of_ble_eq_true rfl) ⟨Nat.le_of_ble_eq_true rfl, Nat.le_of_ble_eq_true rfl⟩ dX8_readRun_65 (fun _ => ?_)
  refine a_istore_n (pc := 68) X [(2, .int y2), (0, .ref (ad0 0)), (1, .int l1)] dX8_readRun_68 rfl (by decide) rfl ?_
  refine a_iload_n (pc := 69) X 0 dX8_readRun_69 rfl rfl ?_
  obtain ⟨y3, e_y3, h⟩ := x_lt_elim h
  refine a_callS (pc := 70) (st2 := [.int y3]) (vs2 := [w0]) X [] [] [.int y2] [] cv_RX8_77 (c_X8_isLetter   e_y3) rfl rfl rfl rfl rfl rfl rfl rfl rfl rfl rfl (Nat.le_of_ble_eq_true rfl) ⟨Nat.le_of_ble_eq_true rfl, Nat.le_of_ble_eq_true rfl⟩ dX8_readRun_70 (fun z_70 => ?_)
  refine a_if_eq (pc := 73) X 102 dX8_readRun_73 rfl (fun c_73 => ?_) (fun c_73 => ?_)
  · have h := x_ifp c_73 h
    refine a_aload_n (pc := 102) X 1 dX8_readRun_102 rfl rfl ?_
    refine a_aload_n (pc := 103) X 1 dX8_readRun_103 rfl rfl ?_
    refine a_getI (pc := 104) X 0 fl_RX8_89 rfl rfl rfl rfl dX8_readRun_104 ?_
    refine a_bipush (pc := 107) X dX8_readRun_107 q_bp_10 ?_
    refine a_imul (pc := 109) X dX8_readRun_109 ?_
    refine a_iload_n (pc := 110) X 0 dX8_readRun_110 rfl rfl ?_
    refine a_bipush (pc := 111) X dX8_readRun_111 q_bp_48 ?_
    refine a_isub (pc := 113) X dX8_readRun_113 ?_
    refine a_iadd (pc := 114) X dX8_readRun_114 ?_
    obtain ⟨y4, e_y4, h⟩ := x_lt_elim h
    refine a_ni e_y4 ?_
    refine a_putI (pc := 115) X 0 fl_RX8_89 rfl rfl rfl rfl dX8_readRun_115 ?_
    obtain ⟨m5, e_m5, h⟩ := x_lt_elim h
    refine a_nm (vs2 := [m5]) (congrArg (fun q : XM => [q]) e_m5) ?_
    refine a_sub [1, 2] rfl ?_
    exact w_X8_readRun_118 X   hk12  h
  · have h := x_ifn c_73 h
    refine a_iinc (pc := 76) X 2 [(1, .int (l1 + 1)), (2, .int y2), (0, .ref (ad0 0))] dX8_readRun_76 rfl (congrArg (HAdd.hAdd l1) q_ic_1) (by decide) rfl ?_
    refine a_aload_n (pc := 79) X 2 dX8_readRun_79 rfl rfl ?_
    refine a_aload_n (pc := 80) X 2 dX8_readRun_80 rfl rfl ?_
    refine a_getL (pc := 81) X 0 fl_RX8_92 rfl rfl rfl rfl dX8_readRun_81 ?_
    refine a_ldc2 (pc := 84) X kc_RX8_36 dX8_readRun_84 ?_
    refine a_lmul (pc := 87) X dX8_readRun_87 ?_
    refine a_iload_n (pc := 88) X 1 dX8_readRun_88 rfl rfl ?_
    refine a_bipush (pc := 89) X dX8_readRun_89 q_bp_97 ?_
    refine a_isub (pc := 91) X dX8_readRun_91 ?_
    refine a_iconst (pc := 92) X dX8_readRun_92 q_ic_1 ?_
    refine a_iadd (pc := 93) X dX8_readRun_93 ?_
    refine a_i2l (pc := 94) X dX8_readRun_94 ?_
    refine a_ladd (pc := 95) X dX8_readRun_95 ?_
    obtain ⟨y6, e_y6, h⟩ := x_lt_elim h
    refine a_nl e_y6 ?_
    refine a_putL (pc := 96) X 0 fl_RX8_92 rfl rfl rfl rfl dX8_readRun_96 ?_
    obtain ⟨m7, e_m7, h⟩ := x_lt_elim h
    refine a_nm (vs2 := [m7]) (congrArg (fun q : XM => [q]) e_m7) ?_
    refine a_goto (pc := 99) X 118 dX8_readRun_99 rfl ?_
    refine a_sub [2, 0] rfl ?_
    exact w_X8_readRun_118 X   hk12  h
set_option maxRecDepth 100000 in
set_option maxHeartbeats 4000000 in
theorem w_X8_readRun_164 {p : Program} {l : Launch} {e : Env} {s : State} {m : MethodId} {args : Array Value} {below : List Frame} {meth : Method} {c : Code} {D : va_G} {tc : Nat → ClassId} {aK aV : Nat → Nat} {A : Nat → Prop} {ad0 : Nat → Nat}  (X : Cx p s m args meth c cX8_readRun 3 none RX8 D tc aK aV A [(shTape, ad0)])  {o : XM}  {w0 : XM} {l1 : Int32} {l2 : Int32}  (h : f_X8_readRun_164   w0 l1 l2 = some o) : aW p l e (x_Rm 1) s m args below meth c D tc A 3 [(shTape, ad0)] none True [o] 164 [(0, .ref (ad0 0)), (1, .int l1), (2, .int l2)] [] [w0] := by
  unfold f_X8_readRun_164 at h
  refine a_aload_n (pc := 164) X 0 dX8_readRun_164 rfl rfl ?_
  refine a_iload_n (pc := 165) X 1 dX8_readRun_165 rfl rfl ?_
  refine a_if_ne (pc := 166) X 178 dX8_readRun_166 rfl (fun c_166 => ?_) (fun c_166 => ?_)
  · have h := x_ifn c_166 h
    refine a_iconst (pc := 178) X dX8_readRun_178 q_ic_1 ?_
    refine a_putI (pc := 179) X 0 fl_RX8_74 rfl rfl rfl rfl dX8_readRun_179 ?_
    obtain ⟨m8, e_m8, h⟩ := x_lt_elim h
    refine a_nm (vs2 := [m8]) (congrArg (fun q : XM => [q]) e_m8) ?_
    have h := Option.some.inj h; subst h
    exact a_vret (pc := 182) X trivial dX8_readRun_182
  · have h := x_ifp c_166 h
    refine a_iload_n (pc := 169) X 2 dX8_readRun_169 rfl rfl ?_
    refine a_iconst (pc := 170) X dX8_readRun_170 q_ic_3 ?_
    refine a_icmp_gt (pc := 171) X 178 dX8_readRun_171 rfl (fun c_171 => ?_) (fun c_171 => ?_)
    · have h := x_ifp c_171 h
      refine a_iconst (pc := 178) X dX8_readRun_178 q_ic_1 ?_
      refine a_putI (pc := 179) X 0 fl_RX8_74 rfl rfl rfl rfl dX8_readRun_179 ?_
      obtain ⟨m9, e_m9, h⟩ := x_lt_elim h
      refine a_nm (vs2 := [m9]) (congrArg (fun q : XM => [q]) e_m9) ?_
      have h := Option.some.inj h; subst h
      exact a_vret (pc := 182) X trivial dX8_readRun_182
    · have h := x_ifn c_171 h
      refine a_iconst (pc := 174) X dX8_readRun_174 q_ic_3 ?_
      refine a_goto (pc := 175) X 179 dX8_readRun_175 rfl ?_
      refine a_putI (pc := 179) X 0 fl_RX8_74 rfl rfl rfl rfl dX8_readRun_179 ?_
      obtain ⟨m10, e_m10, h⟩ := x_lt_elim h
      refine a_nm (vs2 := [m10]) (congrArg (fun q : XM => [q]) e_m10) ?_
      have h := Option.some.inj h; subst h
      exact a_vret (pc := 182) X trivial dX8_readRun_182
set_option maxRecDepth 100000 in
set_option maxHeartbeats 4000000 in
theorem w_X8_readRun_131 {p : Program} {l : Launch} {e : Env} {s : State} {m : MethodId} {args : Array Value} {below : List Frame} {meth : Method} {c : Code} {D : va_G} {tc : Nat → ClassId} {aK aV : Nat → Nat} {A : Nat → Prop} {ad0 : Nat → Nat}  (X : Cx p s m args meth c cX8_readRun 3 none RX8 D tc aK aV A [(shTape, ad0)])  {o : XM}  {w0 : XM} {l1 : Int32}  (h : f_X8_readRun_131   w0 l1 = some o) : aW p l e (x_Rm 1) s m args below meth c D tc A 3 [(shTape, ad0)] none True [o] 131 [(0, .ref (ad0 0)), (1, .int l1)] [] [w0] := by
  unfold f_X8_readRun_131 at h
  refine a_aload_n (pc := 131) X 0 dX8_readRun_131 rfl rfl ?_
  refine a_getI (pc := 132) X 0 fl_RX8_52 rfl rfl rfl rfl dX8_readRun_132 ?_
  refine a_aload_n (pc := 135) X 0 dX8_readRun_135 rfl rfl ?_
  refine a_getI (pc := 136) X 0 fl_RX8_68 rfl rfl rfl rfl dX8_readRun_136 ?_
  refine a_isub (pc := 139) X dX8_readRun_139 ?_
  refine a_istore_n (pc := 140) X [(2, .int ((w0.1 0 4) - (w0.1 0 5))), (0, .ref (ad0 0)), (1, .int l1)] dX8_readRun_140 rfl (by decide) rfl ?_
  refine a_iload_n (pc := 141) X 2 dX8_readRun_141 rfl rfl ?_
  refine a_iload_n (pc := 142) X 0 dX8_readRun_142 rfl rfl ?_
  refine a_icmp_ne (pc := 143) X 164 dX8_readRun_143 rfl (fun c_143 => ?_) (fun c_143 => ?_)
  · have h := x_ifn c_143 h
    refine a_sub [1, 2, 0] rfl ?_
    exact w_X8_readRun_164 X     h
  · have h := x_ifp c_143 h
    refine a_iload_n (pc := 146) X 0 dX8_readRun_146 rfl rfl ?_
    refine a_bipush (pc := 147) X dX8_readRun_147 q_bp_7 ?_
    refine a_icmp_gt (pc := 149) X 164 dX8_readRun_149 rfl (fun c_149 => ?_) (fun c_149 => ?_)
    · have h := x_ifp c_149 h
      refine a_sub [1, 2, 0] rfl ?_
      exact w_X8_readRun_164 X     h
    · have h := x_ifn c_149 h
      refine a_aload_n (pc := 152) X 1 dX8_readRun_152 rfl rfl ?_
      refine a_iconst (pc := 153) X dX8_readRun_153 q_ic_2 ?_
      refine a_putI (pc := 154) X 0 fl_RX8_74 rfl rfl rfl rfl dX8_readRun_154 ?_
      obtain ⟨m11, e_m11, h⟩ := x_lt_elim h
      refine a_nm (vs2 := [m11]) (congrArg (fun q : XM => [q]) e_m11) ?_
      refine a_aload_n (pc := 157) X 1 dX8_readRun_157 rfl rfl ?_
      obtain ⟨y12, e_y12, h⟩ := x_bo_elim h
      refine a_callV (pc := 158) (st2 := []) (vs2 := [y12]) X [(0, 0, 4)] [some y12] 0 0 8 [] [] cv_RX8_96 (c_X8_findWord (ad0 := ad0)  e_y12) rfl rfl rfl rfl rfl rfl rfl rfl rfl rfl rfl rfl rfl rfl rfl (Nat.le_of_ble_eq_true rfl) ⟨Nat.le_of_ble_eq_true rfl, Nat.le_of_ble_eq_true rfl⟩ dX8_readRun_158 (fun _ => ?_)
      refine a_goto (pc := 161) X 182 dX8_readRun_161 rfl ?_
      have h := Option.some.inj h; subst h
      exact a_vret (pc := 182) X trivial dX8_readRun_182
set_option maxRecDepth 100000 in
set_option maxHeartbeats 4000000 in
theorem w_X8_readRun_12 {p : Program} {l : Launch} {e : Env} {s : State} {m : MethodId} {args : Array Value} {below : List Frame} {meth : Method} {c : Code} {D : va_G} {tc : Nat → ClassId} {aK aV : Nat → Nat} {A : Nat → Prop} {ad0 : Nat → Nat}  (X : Cx p s m args meth c cX8_readRun 3 none RX8 D tc aK aV A [(shTape, ad0)])  {o : XM}  : ∀ (n : Nat), ∀ (w0 : XM) (l1 : Int32), x_lp (φ := XM → Int32 → Option (XM)) (fun _ _ => none) (f_X8_readRun_12  ) n w0 l1 = some o → aW p l e (x_Rm 1) s m args below meth c D tc A 3 [(shTape, ad0)] none True [o] 12 [(0, .ref (ad0 0)), (1, .int l1)] [] [w0] := by
  intro n
  induction n with
  | zero => intro w0 l1 h; exact absurd h (fun q => by cases q)
  | succ n ih =>
    intro w0 l1 h
    have h : f_X8_readRun_12   (x_lp (φ := XM → Int32 → Option (XM)) (fun _ _ => none) (f_X8_readRun_12  ) n) w0 l1 = some o := h
    generalize x_lp (φ := XM → Int32 → Option (XM)) (fun _ _ => none) (f_X8_readRun_12  ) n = k12 at h ih
    have hk12 := ih
    unfold f_X8_readRun_12 at h
    refine a_aload_n (pc := 12) X 0 dX8_readRun_12 rfl rfl ?_
    refine a_getI (pc := 13) X 0 fl_RX8_52 rfl rfl rfl rfl dX8_readRun_13 ?_
    refine a_aload_n (pc := 16) X 0 dX8_readRun_16 rfl rfl ?_
    refine a_getI (pc := 17) X 0 fl_RX8_42 rfl rfl rfl rfl dX8_readRun_17 ?_
    refine a_icmp_ge (pc := 20) X 131 dX8_readRun_20 rfl (fun c_20 => ?_) (fun c_20 => ?_)
    · have h := x_ifp c_20 h
      exact w_X8_readRun_131 X     h
    · have h := x_ifn c_20 h
      refine a_aload_n (pc := 23) X 0 dX8_readRun_23 rfl rfl ?_
      refine a_getR (pc := 24) X 0 1 1 fl_RX8_14 rfl rfl rfl rfl rfl dX8_readRun_24 ?_
      refine a_aload_n (pc := 27) X 0 dX8_readRun_27 rfl rfl ?_
      refine a_getI (pc := 28) X 0 fl_RX8_52 rfl rfl rfl rfl dX8_readRun_28 ?_
      obtain ⟨y13, e_y13, h⟩ := x_lt_elim h
      refine a_callV (pc := 31) (st2 := [.int y13]) (vs2 := [w0]) X [(0, 1, 2)] [none] 0 1 3 [.int (w0.1 0 4)] [] cv_RX8_38 (ct_get (ad0 := (fun i => ad0 (i + 1))) (by decide) e_y13) rfl rfl rfl rfl rfl rfl rfl rfl rfl rfl rfl rfl rfl rfl rfl (Nat.le_of_ble_eq_true rfl) ⟨Nat.le_of_ble_eq_true rfl, Nat.le_of_ble_eq_true rfl⟩ dX8_readRun_31 (fun _ => ?_)
      obtain ⟨y14, e_y14, h⟩ := x_lt_elim h
      refine a_callS (pc := 34) (st2 := [.int y14]) (vs2 := [w0]) X [] [] [.int y13] [] cv_RX8_77 (c_X8_isLetter   e_y14) rfl rfl rfl rfl rfl rfl rfl rfl rfl rfl rfl (Nat.le_of_ble_eq_true rfl) ⟨Nat.le_of_ble_eq_true rfl, Nat.le_of_ble_eq_true rfl⟩ dX8_readRun_34 (fun z_34 => ?_)
      refine a_if_ne (pc := 37) X 57 dX8_readRun_37 rfl (fun c_37 => ?_) (fun c_37 => ?_)
      · have h := x_ifn c_37 h
        exact w_X8_readRun_57 X   hk12  h
      · have h := x_ifp c_37 h
        refine a_aload_n (pc := 40) X 0 dX8_readRun_40 rfl rfl ?_
        refine a_getR (pc := 41) X 0 1 1 fl_RX8_14 rfl rfl rfl rfl rfl dX8_readRun_41 ?_
        refine a_aload_n (pc := 44) X 0 dX8_readRun_44 rfl rfl ?_
        refine a_getI (pc := 45) X 0 fl_RX8_52 rfl rfl rfl rfl dX8_readRun_45 ?_
        obtain ⟨y15, e_y15, h⟩ := x_lt_elim h
        refine a_callV (pc := 48) (st2 := [.int y15]) (vs2 := [w0]) X [(0, 1, 2)] [none] 0 1 3 [.int (w0.1 0 4)] [] cv_RX8_38 (ct_get (ad0 := (fun i => ad0 (i + 1))) (by decide) e_y15) rfl rfl rfl rfl rfl rfl rfl rfl rfl rfl rfl rfl rfl rfl rfl (Nat.le_of_ble_eq_true rfl) ⟨Nat.le_of_ble_eq_true rfl, Nat.le_of_ble_eq_true rfl⟩ dX8_readRun_48 (fun _ => ?_)
        obtain ⟨y16, e_y16, h⟩ := x_lt_elim h
        refine a_callS (pc := 51) (st2 := [.int y16]) (vs2 := [w0]) X [] [] [.int y15] [] cv_RX8_80 (c_X8_isDigit   e_y16) rfl rfl rfl rfl rfl rfl rfl rfl rfl rfl rfl (Nat.le_of_ble_eq_true rfl) ⟨Nat.le_of_ble_eq_true rfl, Nat.le_of_ble_eq_true rfl⟩ dX8_readRun_51 (fun z_51 => ?_)
        refine a_if_eq (pc := 54) X 131 dX8_readRun_54 rfl (fun c_54 => ?_) (fun c_54 => ?_)
        · have h := x_ifp c_54 h
          exact w_X8_readRun_131 X     h
        · have h := x_ifn c_54 h
          exact w_X8_readRun_57 X   hk12  h
set_option maxRecDepth 100000 in
set_option maxHeartbeats 4000000 in
theorem c_X8_readRun {l : Launch}  {ad0 : Nat → Nat} {v0 : XM}   {o : XM} (h : f_X8_readRun v0 = some o) : CT l yX8_readRun cX8_readRun 3 none 1 [(shTape, ad0)] [v0] (fun aK => [.ref (ad0 0)]) none True [o] := by
  refine CT_of (by decide) (fun _ => Nat.le_of_ble_eq_true rfl) ?_
  intro p e s m args below meth c D tc aK aV A X
  have X : Cx p s m args meth c cX8_readRun 3 none RX8 D tc aK aV A [(shTape, ad0)] := X
  show aW p l e (x_Rm 1) s m args below meth c D tc A 3 [(shTape, ad0)] none True [o] 0 [(0, .ref (ad0 0))] [] [v0]
  unfold f_X8_readRun at h
  refine a_iconst (pc := 0) X dX8_readRun_0 q_ic_0 ?_
  refine a_istore_n (pc := 1) X [(1, .int (0 : Int32)), (0, .ref (ad0 0))] dX8_readRun_1 rfl (by decide) rfl ?_
  refine a_aload_n (pc := 2) X 1 dX8_readRun_2 rfl rfl ?_
  refine a_iconst (pc := 3) X dX8_readRun_3 q_ic_0 ?_
  refine a_putI (pc := 4) X 0 fl_RX8_89 rfl rfl rfl rfl dX8_readRun_4 ?_
  obtain ⟨m17, e_m17, h⟩ := x_lt_elim h
  refine a_nm (vs2 := [m17]) (congrArg (fun q : XM => [q]) e_m17) ?_
  refine a_aload_n (pc := 7) X 1 dX8_readRun_7 rfl rfl ?_
  refine a_lconst (pc := 8) (v := 0) X dX8_readRun_8 rfl ?_
  refine a_putL (pc := 9) X 0 fl_RX8_92 rfl rfl rfl rfl dX8_readRun_9 ?_
  obtain ⟨m18, e_m18, h⟩ := x_lt_elim h
  refine a_nm (vs2 := [m18]) (congrArg (fun q : XM => [q]) e_m18) ?_
  refine a_sub [1, 0] rfl ?_
  exact w_X8_readRun_12 X    x_NN _ _ h
theorem dX8_isSignByte_0 : decode cX8_isSignByte 0 = .ok (.iload_n 0, 1) := by decide +kernel
theorem dX8_isSignByte_1 : decode cX8_isSignByte 1 = .ok (.bipush 59, 2) := by decide +kernel
theorem dX8_isSignByte_3 : decode cX8_isSignByte 3 = .ok (.if_icmp .eq 33, 3) := by decide +kernel
theorem dX8_isSignByte_6 : decode cX8_isSignByte 6 = .ok (.iload_n 0, 1) := by decide +kernel
theorem dX8_isSignByte_7 : decode cX8_isSignByte 7 = .ok (.bipush 60, 2) := by decide +kernel
theorem dX8_isSignByte_9 : decode cX8_isSignByte 9 = .ok (.if_icmp .eq 27, 3) := by decide +kernel
theorem dX8_isSignByte_12 : decode cX8_isSignByte 12 = .ok (.iload_n 0, 1) := by decide +kernel
theorem dX8_isSignByte_13 : decode cX8_isSignByte 13 = .ok (.bipush 61, 2) := by decide +kernel
theorem dX8_isSignByte_15 : decode cX8_isSignByte 15 = .ok (.if_icmp .eq 21, 3) := by decide +kernel
theorem dX8_isSignByte_18 : decode cX8_isSignByte 18 = .ok (.iload_n 0, 1) := by decide +kernel
theorem dX8_isSignByte_19 : decode cX8_isSignByte 19 = .ok (.bipush 62, 2) := by decide +kernel
theorem dX8_isSignByte_21 : decode cX8_isSignByte 21 = .ok (.if_icmp .eq 15, 3) := by decide +kernel
theorem dX8_isSignByte_24 : decode cX8_isSignByte 24 = .ok (.iload_n 0, 1) := by decide +kernel
theorem dX8_isSignByte_25 : decode cX8_isSignByte 25 = .ok (.bipush 40, 2) := by decide +kernel
theorem dX8_isSignByte_27 : decode cX8_isSignByte 27 = .ok (.if_icmp .eq 9, 3) := by decide +kernel
theorem dX8_isSignByte_30 : decode cX8_isSignByte 30 = .ok (.iload_n 0, 1) := by decide +kernel
theorem dX8_isSignByte_31 : decode cX8_isSignByte 31 = .ok (.bipush 41, 2) := by decide +kernel
theorem dX8_isSignByte_33 : decode cX8_isSignByte 33 = .ok (.if_icmp .ne 7, 3) := by decide +kernel
theorem dX8_isSignByte_36 : decode cX8_isSignByte 36 = .ok (.iconst 1, 1) := by decide +kernel
theorem dX8_isSignByte_37 : decode cX8_isSignByte 37 = .ok (.goto 4, 3) := by decide +kernel
theorem dX8_isSignByte_40 : decode cX8_isSignByte 40 = .ok (.iconst 0, 1) := by decide +kernel
theorem dX8_isSignByte_41 : decode cX8_isSignByte 41 = .ok (.ireturn, 1) := by decide +kernel
def f_X8_isSignByte (x0 : Int32) : Int32 :=
  if (x0 : Int32) = (59 : Int32) then
  (((1 : Int32) : Int32))
  else (if (x0 : Int32) = (60 : Int32) then
  (((1 : Int32) : Int32))
  else (if (x0 : Int32) = (61 : Int32) then
  (((1 : Int32) : Int32))
  else (if (x0 : Int32) = (62 : Int32) then
  (((1 : Int32) : Int32))
  else (if (x0 : Int32) = (40 : Int32) then
  (((1 : Int32) : Int32))
  else (if (x0 : Int32) = (41 : Int32) then
  (((1 : Int32) : Int32))
  else (((0 : Int32) : Int32)))))))
set_option maxRecDepth 100000 in
set_option maxHeartbeats 4000000 in
theorem c_X8_isSignByte {l : Launch}   {x0 : Int32}  {o : Int32} (h : f_X8_isSignByte x0 = o) : CT l yX8_isSignByte cX8_isSignByte 1 (some .boolean) 0 [] [] (fun aK => [.int x0]) (some (.int o)) (x_Z o) [] := by
  refine CT_of (by decide) (fun _ => Nat.le_of_ble_eq_true rfl) ?_
  intro p e s m args below meth c D tc aK aV A X
  have X : Cx p s m args meth c cX8_isSignByte 1 (some .boolean) RX8 D tc aK aV A [] := X
  show aW p l e (x_Rm 0) s m args below meth c D tc A 1 [] (some (.int o)) (x_Z o) [] 0 [(0, .int x0)] [] []
  unfold f_X8_isSignByte at h
  refine a_iload_n (pc := 0) X 0 dX8_isSignByte_0 rfl rfl ?_
  refine a_bipush (pc := 1) X dX8_isSignByte_1 q_bp_59 ?_
  refine a_icmp_eq (pc := 3) X 36 dX8_isSignByte_3 rfl (fun c_3 => ?_) (fun c_3 => ?_)
  · have h := x_ifp c_3 h
    refine a_iconst (pc := 36) X dX8_isSignByte_36 q_ic_1 ?_
    refine a_goto (pc := 37) X 41 dX8_isSignByte_37 rfl ?_
    subst h
    exact a_zret (pc := 41) X x_Z1 x_Z1 dX8_isSignByte_41
  · have h := x_ifn c_3 h
    refine a_iload_n (pc := 6) X 0 dX8_isSignByte_6 rfl rfl ?_
    refine a_bipush (pc := 7) X dX8_isSignByte_7 q_bp_60 ?_
    refine a_icmp_eq (pc := 9) X 36 dX8_isSignByte_9 rfl (fun c_9 => ?_) (fun c_9 => ?_)
    · have h := x_ifp c_9 h
      refine a_iconst (pc := 36) X dX8_isSignByte_36 q_ic_1 ?_
      refine a_goto (pc := 37) X 41 dX8_isSignByte_37 rfl ?_
      subst h
      exact a_zret (pc := 41) X x_Z1 x_Z1 dX8_isSignByte_41
    · have h := x_ifn c_9 h
      refine a_iload_n (pc := 12) X 0 dX8_isSignByte_12 rfl rfl ?_
      refine a_bipush (pc := 13) X dX8_isSignByte_13 q_bp_61 ?_
      refine a_icmp_eq (pc := 15) X 36 dX8_isSignByte_15 rfl (fun c_15 => ?_) (fun c_15 => ?_)
      · have h := x_ifp c_15 h
        refine a_iconst (pc := 36) X dX8_isSignByte_36 q_ic_1 ?_
        refine a_goto (pc := 37) X 41 dX8_isSignByte_37 rfl ?_
        subst h
        exact a_zret (pc := 41) X x_Z1 x_Z1 dX8_isSignByte_41
      · have h := x_ifn c_15 h
        refine a_iload_n (pc := 18) X 0 dX8_isSignByte_18 rfl rfl ?_
        refine a_bipush (pc := 19) X dX8_isSignByte_19 q_bp_62 ?_
        refine a_icmp_eq (pc := 21) X 36 dX8_isSignByte_21 rfl (fun c_21 => ?_) (fun c_21 => ?_)
        · have h := x_ifp c_21 h
          refine a_iconst (pc := 36) X dX8_isSignByte_36 q_ic_1 ?_
          refine a_goto (pc := 37) X 41 dX8_isSignByte_37 rfl ?_
          subst h
          exact a_zret (pc := 41) X x_Z1 x_Z1 dX8_isSignByte_41
        · have h := x_ifn c_21 h
          refine a_iload_n (pc := 24) X 0 dX8_isSignByte_24 rfl rfl ?_
          refine a_bipush (pc := 25) X dX8_isSignByte_25 q_bp_40 ?_
          refine a_icmp_eq (pc := 27) X 36 dX8_isSignByte_27 rfl (fun c_27 => ?_) (fun c_27 => ?_)
          · have h := x_ifp c_27 h
            refine a_iconst (pc := 36) X dX8_isSignByte_36 q_ic_1 ?_
            refine a_goto (pc := 37) X 41 dX8_isSignByte_37 rfl ?_
            subst h
            exact a_zret (pc := 41) X x_Z1 x_Z1 dX8_isSignByte_41
          · have h := x_ifn c_27 h
            refine a_iload_n (pc := 30) X 0 dX8_isSignByte_30 rfl rfl ?_
            refine a_bipush (pc := 31) X dX8_isSignByte_31 q_bp_41 ?_
            refine a_icmp_ne (pc := 33) X 40 dX8_isSignByte_33 rfl (fun c_33 => ?_) (fun c_33 => ?_)
            · have h := x_ifn c_33 h
              refine a_iconst (pc := 40) X dX8_isSignByte_40 q_ic_0 ?_
              subst h
              exact a_zret (pc := 41) X x_Z0 x_Z0 dX8_isSignByte_41
            · have h := x_ifp c_33 h
              refine a_iconst (pc := 36) X dX8_isSignByte_36 q_ic_1 ?_
              refine a_goto (pc := 37) X 41 dX8_isSignByte_37 rfl ?_
              subst h
              exact a_zret (pc := 41) X x_Z1 x_Z1 dX8_isSignByte_41
theorem dX8_advance_0 : decode cX8_advance 0 = .ok (.aload_n 0, 1) := by decide +kernel
theorem dX8_advance_1 : decode cX8_advance 1 = .ok (.getfield 52, 3) := by decide +kernel
theorem dX8_advance_4 : decode cX8_advance 4 = .ok (.aload_n 0, 1) := by decide +kernel
theorem dX8_advance_5 : decode cX8_advance 5 = .ok (.getfield 42, 3) := by decide +kernel
theorem dX8_advance_8 : decode cX8_advance 8 = .ok (.if_icmp .ge 33, 3) := by decide +kernel
theorem dX8_advance_11 : decode cX8_advance 11 = .ok (.aload_n 0, 1) := by decide +kernel
theorem dX8_advance_12 : decode cX8_advance 12 = .ok (.getfield 14, 3) := by decide +kernel
theorem dX8_advance_15 : decode cX8_advance 15 = .ok (.aload_n 0, 1) := by decide +kernel
theorem dX8_advance_16 : decode cX8_advance 16 = .ok (.getfield 52, 3) := by decide +kernel
theorem dX8_advance_19 : decode cX8_advance 19 = .ok (.invokevirtual 38, 3) := by decide +kernel
theorem dX8_advance_22 : decode cX8_advance 22 = .ok (.invokestatic 64, 3) := by decide +kernel
theorem dX8_advance_25 : decode cX8_advance 25 = .ok (.ifCond .eq 16, 3) := by decide +kernel
theorem dX8_advance_28 : decode cX8_advance 28 = .ok (.aload_n 0, 1) := by decide +kernel
theorem dX8_advance_29 : decode cX8_advance 29 = .ok (.dup, 1) := by decide +kernel
theorem dX8_advance_30 : decode cX8_advance 30 = .ok (.getfield 52, 3) := by decide +kernel
theorem dX8_advance_33 : decode cX8_advance 33 = .ok (.iconst 1, 1) := by decide +kernel
theorem dX8_advance_34 : decode cX8_advance 34 = .ok (.iadd, 1) := by decide +kernel
theorem dX8_advance_35 : decode cX8_advance 35 = .ok (.putfield 52, 3) := by decide +kernel
theorem dX8_advance_38 : decode cX8_advance 38 = .ok (.goto (-38), 3) := by decide +kernel
theorem dX8_advance_41 : decode cX8_advance 41 = .ok (.aload_n 0, 1) := by decide +kernel
theorem dX8_advance_42 : decode cX8_advance 42 = .ok (.aload_n 0, 1) := by decide +kernel
theorem dX8_advance_43 : decode cX8_advance 43 = .ok (.getfield 52, 3) := by decide +kernel
theorem dX8_advance_46 : decode cX8_advance 46 = .ok (.putfield 68, 3) := by decide +kernel
theorem dX8_advance_49 : decode cX8_advance 49 = .ok (.aload_n 0, 1) := by decide +kernel
theorem dX8_advance_50 : decode cX8_advance 50 = .ok (.iconst (-1), 1) := by decide +kernel
theorem dX8_advance_51 : decode cX8_advance 51 = .ok (.putfield 71, 3) := by decide +kernel
theorem dX8_advance_54 : decode cX8_advance 54 = .ok (.aload_n 0, 1) := by decide +kernel
theorem dX8_advance_55 : decode cX8_advance 55 = .ok (.getfield 52, 3) := by decide +kernel
theorem dX8_advance_58 : decode cX8_advance 58 = .ok (.aload_n 0, 1) := by decide +kernel
theorem dX8_advance_59 : decode cX8_advance 59 = .ok (.getfield 49, 3) := by decide +kernel
theorem dX8_advance_62 : decode cX8_advance 62 = .ok (.if_icmp .lt 30, 3) := by decide +kernel
theorem dX8_advance_65 : decode cX8_advance 65 = .ok (.aload_n 0, 1) := by decide +kernel
theorem dX8_advance_66 : decode cX8_advance 66 = .ok (.getfield 42, 3) := by decide +kernel
theorem dX8_advance_69 : decode cX8_advance 69 = .ok (.aload_n 0, 1) := by decide +kernel
theorem dX8_advance_70 : decode cX8_advance 70 = .ok (.getfield 49, 3) := by decide +kernel
theorem dX8_advance_73 : decode cX8_advance 73 = .ok (.if_icmp .le 19, 3) := by decide +kernel
theorem dX8_advance_76 : decode cX8_advance 76 = .ok (.aload_n 0, 1) := by decide +kernel
theorem dX8_advance_77 : decode cX8_advance 77 = .ok (.aload_n 0, 1) := by decide +kernel
theorem dX8_advance_78 : decode cX8_advance 78 = .ok (.getfield 49, 3) := by decide +kernel
theorem dX8_advance_81 : decode cX8_advance 81 = .ok (.putfield 68, 3) := by decide +kernel
theorem dX8_advance_84 : decode cX8_advance 84 = .ok (.aload_n 0, 1) := by decide +kernel
theorem dX8_advance_85 : decode cX8_advance 85 = .ok (.iconst 1, 1) := by decide +kernel
theorem dX8_advance_86 : decode cX8_advance 86 = .ok (.putfield 74, 3) := by decide +kernel
theorem dX8_advance_89 : decode cX8_advance 89 = .ok (.goto 109, 3) := by decide +kernel
theorem dX8_advance_92 : decode cX8_advance 92 = .ok (.aload_n 0, 1) := by decide +kernel
theorem dX8_advance_93 : decode cX8_advance 93 = .ok (.getfield 52, 3) := by decide +kernel
theorem dX8_advance_96 : decode cX8_advance 96 = .ok (.aload_n 0, 1) := by decide +kernel
theorem dX8_advance_97 : decode cX8_advance 97 = .ok (.getfield 42, 3) := by decide +kernel
theorem dX8_advance_100 : decode cX8_advance 100 = .ok (.if_icmp .lt 11, 3) := by decide +kernel
theorem dX8_advance_103 : decode cX8_advance 103 = .ok (.aload_n 0, 1) := by decide +kernel
theorem dX8_advance_104 : decode cX8_advance 104 = .ok (.iconst 0, 1) := by decide +kernel
theorem dX8_advance_105 : decode cX8_advance 105 = .ok (.putfield 74, 3) := by decide +kernel
theorem dX8_advance_108 : decode cX8_advance 108 = .ok (.goto 90, 3) := by decide +kernel
theorem dX8_advance_111 : decode cX8_advance 111 = .ok (.aload_n 0, 1) := by decide +kernel
theorem dX8_advance_112 : decode cX8_advance 112 = .ok (.getfield 14, 3) := by decide +kernel
theorem dX8_advance_115 : decode cX8_advance 115 = .ok (.aload_n 0, 1) := by decide +kernel
theorem dX8_advance_116 : decode cX8_advance 116 = .ok (.getfield 52, 3) := by decide +kernel
theorem dX8_advance_119 : decode cX8_advance 119 = .ok (.invokevirtual 38, 3) := by decide +kernel
theorem dX8_advance_122 : decode cX8_advance 122 = .ok (.invokestatic 77, 3) := by decide +kernel
theorem dX8_advance_125 : decode cX8_advance 125 = .ok (.ifCond .ne 20, 3) := by decide +kernel
theorem dX8_advance_128 : decode cX8_advance 128 = .ok (.aload_n 0, 1) := by decide +kernel
theorem dX8_advance_129 : decode cX8_advance 129 = .ok (.getfield 14, 3) := by decide +kernel
theorem dX8_advance_132 : decode cX8_advance 132 = .ok (.aload_n 0, 1) := by decide +kernel
theorem dX8_advance_133 : decode cX8_advance 133 = .ok (.getfield 52, 3) := by decide +kernel
theorem dX8_advance_136 : decode cX8_advance 136 = .ok (.invokevirtual 38, 3) := by decide +kernel
theorem dX8_advance_139 : decode cX8_advance 139 = .ok (.invokestatic 80, 3) := by decide +kernel
theorem dX8_advance_142 : decode cX8_advance 142 = .ok (.ifCond .eq 10, 3) := by decide +kernel
theorem dX8_advance_145 : decode cX8_advance 145 = .ok (.aload_n 0, 1) := by decide +kernel
theorem dX8_advance_146 : decode cX8_advance 146 = .ok (.invokevirtual 83, 3) := by decide +kernel
theorem dX8_advance_149 : decode cX8_advance 149 = .ok (.goto 49, 3) := by decide +kernel
theorem dX8_advance_152 : decode cX8_advance 152 = .ok (.aload_n 0, 1) := by decide +kernel
theorem dX8_advance_153 : decode cX8_advance 153 = .ok (.aload_n 0, 1) := by decide +kernel
theorem dX8_advance_154 : decode cX8_advance 154 = .ok (.getfield 14, 3) := by decide +kernel
theorem dX8_advance_157 : decode cX8_advance 157 = .ok (.aload_n 0, 1) := by decide +kernel
theorem dX8_advance_158 : decode cX8_advance 158 = .ok (.getfield 52, 3) := by decide +kernel
theorem dX8_advance_161 : decode cX8_advance 161 = .ok (.invokevirtual 38, 3) := by decide +kernel
theorem dX8_advance_164 : decode cX8_advance 164 = .ok (.invokestatic 86, 3) := by decide +kernel
theorem dX8_advance_167 : decode cX8_advance 167 = .ok (.ifCond .eq 17, 3) := by decide +kernel
theorem dX8_advance_170 : decode cX8_advance 170 = .ok (.aload_n 0, 1) := by decide +kernel
theorem dX8_advance_171 : decode cX8_advance 171 = .ok (.getfield 14, 3) := by decide +kernel
theorem dX8_advance_174 : decode cX8_advance 174 = .ok (.aload_n 0, 1) := by decide +kernel
theorem dX8_advance_175 : decode cX8_advance 175 = .ok (.getfield 52, 3) := by decide +kernel
theorem dX8_advance_178 : decode cX8_advance 178 = .ok (.invokevirtual 38, 3) := by decide +kernel
theorem dX8_advance_181 : decode cX8_advance 181 = .ok (.goto 4, 3) := by decide +kernel
theorem dX8_advance_184 : decode cX8_advance 184 = .ok (.iconst 1, 1) := by decide +kernel
theorem dX8_advance_185 : decode cX8_advance 185 = .ok (.putfield 74, 3) := by decide +kernel
theorem dX8_advance_188 : decode cX8_advance 188 = .ok (.aload_n 0, 1) := by decide +kernel
theorem dX8_advance_189 : decode cX8_advance 189 = .ok (.dup, 1) := by decide +kernel
theorem dX8_advance_190 : decode cX8_advance 190 = .ok (.getfield 52, 3) := by decide +kernel
theorem dX8_advance_193 : decode cX8_advance 193 = .ok (.iconst 1, 1) := by decide +kernel
theorem dX8_advance_194 : decode cX8_advance 194 = .ok (.iadd, 1) := by decide +kernel
theorem dX8_advance_195 : decode cX8_advance 195 = .ok (.putfield 52, 3) := by decide +kernel
theorem dX8_advance_198 : decode cX8_advance 198 = .ok (.return_, 1) := by decide +kernel
def f_X8_advance_145 (w0 : XM) : Option (XM) :=
  x_bo (f_X8_readRun w0) (fun y1 =>
  some y1)
def f_X8_advance_185 (w0 : XM) (s1 : Int32) : Option (XM) :=
  x_lt (x_si w0 0 6 s1) (fun m2 =>
  x_lt (x_si m2 0 4 ((m2.1 0 4) + (1 : Int32))) (fun m3 =>
  some m3))
def f_X8_advance_92 (w0 : XM) : Option (XM) :=
  if ((w0.1 0 4) : Int32) < (w0.1 0 2) then
  (x_lt (r_get 940 (x_sub w0 1) (w0.1 0 4)) (fun y4 =>
  x_lt (f_X8_isLetter y4) (fun y5 =>
  if y5 = (0 : Int32) then
  (x_lt (r_get 940 (x_sub w0 1) (w0.1 0 4)) (fun y6 =>
  x_lt (f_X8_isDigit y6) (fun y7 =>
  if y7 = (0 : Int32) then
  (x_lt (r_get 940 (x_sub w0 1) (w0.1 0 4)) (fun y8 =>
  x_lt (f_X8_isSignByte y8) (fun y9 =>
  if y9 = (0 : Int32) then
  (f_X8_advance_185   w0 (1 : Int32))
  else (x_lt (r_get 940 (x_sub w0 1) (w0.1 0 4)) (fun y10 =>
  f_X8_advance_185   w0 y10)))))
  else (f_X8_advance_145   w0))))
  else (f_X8_advance_145   w0))))
  else (x_lt (x_si w0 0 6 (0 : Int32)) (fun m11 =>
  some m11))
def f_X8_advance_41 (w0 : XM) : Option (XM) :=
  x_lt (x_si w0 0 5 (w0.1 0 4)) (fun m12 =>
  x_lt (x_si m12 0 8 (-1 : Int32)) (fun m13 =>
  if ((m13.1 0 4) : Int32) < (m13.1 0 3) then
  (f_X8_advance_92   m13)
  else (if ((m13.1 0 2) : Int32) ≤ (m13.1 0 3) then
  (f_X8_advance_92   m13)
  else (x_lt (x_si m13 0 5 (m13.1 0 3)) (fun m14 =>
  x_lt (x_si m14 0 6 (1 : Int32)) (fun m15 =>
  some m15))))))
def f_X8_advance_0 (k0 : XM → Option (XM)) (w0 : XM) : Option (XM) :=
  if ((w0.1 0 2) : Int32) ≤ (w0.1 0 4) then
  (f_X8_advance_41   w0)
  else (x_lt (r_get 940 (x_sub w0 1) (w0.1 0 4)) (fun y16 =>
  x_lt (f_X8_isBlank y16) (fun y17 =>
  if y17 = (0 : Int32) then
  (f_X8_advance_41   w0)
  else (x_lt (x_si w0 0 4 ((w0.1 0 4) + (1 : Int32))) (fun m18 =>
  k0 m18)))))
def f_X8_advance (v0 : XM) : Option (XM) :=
  x_lp (φ := XM → Option (XM)) (fun _ => none) (f_X8_advance_0  ) x_NN v0
set_option maxRecDepth 100000 in
set_option maxHeartbeats 4000000 in
theorem w_X8_advance_145 {p : Program} {l : Launch} {e : Env} {s : State} {m : MethodId} {args : Array Value} {below : List Frame} {meth : Method} {c : Code} {D : va_G} {tc : Nat → ClassId} {aK aV : Nat → Nat} {A : Nat → Prop} {ad0 : Nat → Nat}  (X : Cx p s m args meth c cX8_advance 1 none RX8 D tc aK aV A [(shTape, ad0)])  {o : XM}  {w0 : XM}  (h : f_X8_advance_145   w0 = some o) : aW p l e (x_Rm 2) s m args below meth c D tc A 1 [(shTape, ad0)] none True [o] 145 [(0, .ref (ad0 0))] [] [w0] := by
  unfold f_X8_advance_145 at h
  refine a_aload_n (pc := 145) X 0 dX8_advance_145 rfl rfl ?_
  obtain ⟨y1, e_y1, h⟩ := x_bo_elim h
  refine a_callV (pc := 146) (st2 := []) (vs2 := [y1]) X [(0, 0, 4)] [some y1] 0 0 8 [] [] cv_RX8_83 (c_X8_readRun (ad0 := ad0)  e_y1) rfl rfl rfl rfl rfl rfl rfl rfl rfl rfl rfl rfl rfl rfl rfl (Nat.le_of_ble_eq_true rfl) ⟨Nat.le_of_ble_eq_true rfl, Nat.le_of_ble_eq_true rfl⟩ dX8_advance_146 (fun _ => ?_)
  refine a_goto (pc := 149) X 198 dX8_advance_149 rfl ?_
  have h := Option.some.inj h; subst h
  exact a_vret (pc := 198) X trivial dX8_advance_198
set_option maxRecDepth 100000 in
set_option maxHeartbeats 4000000 in
theorem w_X8_advance_185 {p : Program} {l : Launch} {e : Env} {s : State} {m : MethodId} {args : Array Value} {below : List Frame} {meth : Method} {c : Code} {D : va_G} {tc : Nat → ClassId} {aK aV : Nat → Nat} {A : Nat → Prop} {ad0 : Nat → Nat}  (X : Cx p s m args meth c cX8_advance 1 none RX8 D tc aK aV A [(shTape, ad0)])  {o : XM}  {w0 : XM} {s1 : Int32}  (h : f_X8_advance_185   w0 s1 = some o) : aW p l e (x_Rm 2) s m args below meth c D tc A 1 [(shTape, ad0)] none True [o] 185 [(0, .ref (ad0 0))] [.int s1, .ref (ad0 0)] [w0] := by
  unfold f_X8_advance_185 at h
  refine a_putI (pc := 185) X 0 fl_RX8_74 rfl rfl rfl rfl dX8_advance_185 ?_
  obtain ⟨m2, e_m2, h⟩ := x_lt_elim h
  refine a_nm (vs2 := [m2]) (congrArg (fun q : XM => [q]) e_m2) ?_
  refine a_aload_n (pc := 188) X 0 dX8_advance_188 rfl rfl ?_
  refine a_dup (pc := 189) X dX8_advance_189 rfl ?_
  refine a_getI (pc := 190) X 0 fl_RX8_52 rfl rfl rfl rfl dX8_advance_190 ?_
  refine a_iconst (pc := 193) X dX8_advance_193 q_ic_1 ?_
  refine a_iadd (pc := 194) X dX8_advance_194 ?_
  refine a_putI (pc := 195) X 0 fl_RX8_52 rfl rfl rfl rfl dX8_advance_195 ?_
  obtain ⟨m3, e_m3, h⟩ := x_lt_elim h
  refine a_nm (vs2 := [m3]) (congrArg (fun q : XM => [q]) e_m3) ?_
  have h := Option.some.inj h; subst h
  exact a_vret (pc := 198) X trivial dX8_advance_198
set_option maxRecDepth 100000 in
set_option maxHeartbeats 4000000 in
theorem w_X8_advance_92 {p : Program} {l : Launch} {e : Env} {s : State} {m : MethodId} {args : Array Value} {below : List Frame} {meth : Method} {c : Code} {D : va_G} {tc : Nat → ClassId} {aK aV : Nat → Nat} {A : Nat → Prop} {ad0 : Nat → Nat}  (X : Cx p s m args meth c cX8_advance 1 none RX8 D tc aK aV A [(shTape, ad0)])  {o : XM}  {w0 : XM}  (h : f_X8_advance_92   w0 = some o) : aW p l e (x_Rm 2) s m args below meth c D tc A 1 [(shTape, ad0)] none True [o] 92 [(0, .ref (ad0 0))] [] [w0] := by
  unfold f_X8_advance_92 at h
  refine a_aload_n (pc := 92) X 0 dX8_advance_92 rfl rfl ?_
  refine a_getI (pc := 93) X 0 fl_RX8_52 rfl rfl rfl rfl dX8_advance_93 ?_
  refine a_aload_n (pc := 96) X 0 dX8_advance_96 rfl rfl ?_
  refine a_getI (pc := 97) X 0 fl_RX8_42 rfl rfl rfl rfl dX8_advance_97 ?_
  refine a_icmp_lt (pc := 100) X 111 dX8_advance_100 rfl (fun c_100 => ?_) (fun c_100 => ?_)
  · have h := x_ifp c_100 h
    refine a_aload_n (pc := 111) X 0 dX8_advance_111 rfl rfl ?_
    refine a_getR (pc := 112) X 0 1 1 fl_RX8_14 rfl rfl rfl rfl rfl dX8_advance_112 ?_
    refine a_aload_n (pc := 115) X 0 dX8_advance_115 rfl rfl ?_
    refine a_getI (pc := 116) X 0 fl_RX8_52 rfl rfl rfl rfl dX8_advance_116 ?_
    obtain ⟨y4, e_y4, h⟩ := x_lt_elim h
    refine a_callV (pc := 119) (st2 := [.int y4]) (vs2 := [w0]) X [(0, 1, 2)] [none] 0 1 3 [.int (w0.1 0 4)] [] cv_RX8_38 (ct_get (ad0 := (fun i => ad0 (i + 1))) (by decide) e_y4) rfl rfl rfl rfl rfl rfl rfl rfl rfl rfl rfl rfl rfl rfl rfl (Nat.le_of_ble_eq_true rfl) ⟨Nat.le_of_ble_eq_true rfl, Nat.le_of_ble_eq_true rfl⟩ dX8_advance_119 (fun _ => ?_)
    obtain ⟨y5, e_y5, h⟩ := x_lt_elim h
    refine a_callS (pc := 122) (st2 := [.int y5]) (vs2 := [w0]) X [] [] [.int y4] [] cv_RX8_77 (c_X8_isLetter   e_y5) rfl rfl rfl rfl rfl rfl rfl rfl rfl rfl rfl (Nat.le_of_ble_eq_true rfl) ⟨Nat.le_of_ble_eq_true rfl, Nat.le_of_ble_eq_true rfl⟩ dX8_advance_122 (fun z_122 => ?_)
    refine a_if_ne (pc := 125) X 145 dX8_advance_125 rfl (fun c_125 => ?_) (fun c_125 => ?_)
    · have h := x_ifn c_125 h
      exact w_X8_advance_145 X     h
    · have h := x_ifp c_125 h
      refine a_aload_n (pc := 128) X 0 dX8_advance_128 rfl rfl ?_
      refine a_getR (pc := 129) X 0 1 1 fl_RX8_14 rfl rfl rfl rfl rfl dX8_advance_129 ?_
      refine a_aload_n (pc := 132) X 0 dX8_advance_132 rfl rfl ?_
      refine a_getI (pc := 133) X 0 fl_RX8_52 rfl rfl rfl rfl dX8_advance_133 ?_
      obtain ⟨y6, e_y6, h⟩ := x_lt_elim h
      refine a_callV (pc := 136) (st2 := [.int y6]) (vs2 := [w0]) X [(0, 1, 2)] [none] 0 1 3 [.int (w0.1 0 4)] [] cv_RX8_38 (ct_get (ad0 := (fun i => ad0 (i + 1))) (by decide) e_y6) rfl rfl rfl rfl rfl rfl rfl rfl rfl rfl rfl rfl rfl rfl rfl (Nat.le_of_ble_eq_true rfl) ⟨Nat.le_of_ble_eq_true rfl, Nat.le_of_ble_eq_true rfl⟩ dX8_advance_136 (fun _ => ?_)
      obtain ⟨y7, e_y7, h⟩ := x_lt_elim h
      refine a_callS (pc := 139) (st2 := [.int y7]) (vs2 := [w0]) X [] [] [.int y6] [] cv_RX8_80 (c_X8_isDigit   e_y7) rfl rfl rfl rfl rfl rfl rfl rfl rfl rfl rfl (Nat.le_of_ble_eq_true rfl) ⟨Nat.le_of_ble_eq_true rfl, Nat.le_of_ble_eq_true rfl⟩ dX8_advance_139 (fun z_139 => ?_)
      refine a_if_eq (pc := 142) X 152 dX8_advance_142 rfl (fun c_142 => ?_) (fun c_142 => ?_)
      · have h := x_ifp c_142 h
        refine a_aload_n (pc := 152) X 0 dX8_advance_152 rfl rfl ?_
        refine a_aload_n (pc := 153) X 0 dX8_advance_153 rfl rfl ?_
        refine a_getR (pc := 154) X 0 1 1 fl_RX8_14 rfl rfl rfl rfl rfl dX8_advance_154 ?_
        refine a_aload_n (pc := 157) X 0 dX8_advance_157 rfl rfl ?_
        refine a_getI (pc := 158) X 0 fl_RX8_52 rfl rfl rfl rfl dX8_advance_158 ?_
        obtain ⟨y8, e_y8, h⟩ := x_lt_elim h
        refine a_callV (pc := 161) (st2 := [.int y8, .ref (ad0 0)]) (vs2 := [w0]) X [(0, 1, 2)] [none] 0 1 3 [.int (w0.1 0 4)] [.ref (ad0 0)] cv_RX8_38 (ct_get (ad0 := (fun i => ad0 (i + 1))) (by decide) e_y8) rfl rfl rfl rfl rfl rfl rfl rfl rfl rfl rfl rfl rfl rfl rfl (Nat.le_of_ble_eq_true rfl) ⟨Nat.le_of_ble_eq_true rfl, Nat.le_of_ble_eq_true rfl⟩ dX8_advance_161 (fun _ => ?_)
        obtain ⟨y9, e_y9, h⟩ := x_lt_elim h
        refine a_callS (pc := 164) (st2 := [.int y9, .ref (ad0 0)]) (vs2 := [w0]) X [] [] [.int y8] [.ref (ad0 0)] cv_RX8_86 (c_X8_isSignByte   e_y9) rfl rfl rfl rfl rfl rfl rfl rfl rfl rfl rfl (Nat.le_of_ble_eq_true rfl) ⟨Nat.le_of_ble_eq_true rfl, Nat.le_of_ble_eq_true rfl⟩ dX8_advance_164 (fun z_164 => ?_)
        refine a_if_eq (pc := 167) X 184 dX8_advance_167 rfl (fun c_167 => ?_) (fun c_167 => ?_)
        · have h := x_ifp c_167 h
          refine a_iconst (pc := 184) X dX8_advance_184 q_ic_1 ?_
          exact w_X8_advance_185 X     h
        · have h := x_ifn c_167 h
          refine a_aload_n (pc := 170) X 0 dX8_advance_170 rfl rfl ?_
          refine a_getR (pc := 171) X 0 1 1 fl_RX8_14 rfl rfl rfl rfl rfl dX8_advance_171 ?_
          refine a_aload_n (pc := 174) X 0 dX8_advance_174 rfl rfl ?_
          refine a_getI (pc := 175) X 0 fl_RX8_52 rfl rfl rfl rfl dX8_advance_175 ?_
          obtain ⟨y10, e_y10, h⟩ := x_lt_elim h
          refine a_callV (pc := 178) (st2 := [.int y10, .ref (ad0 0)]) (vs2 := [w0]) X [(0, 1, 2)] [none] 0 1 3 [.int (w0.1 0 4)] [.ref (ad0 0)] cv_RX8_38 (ct_get (ad0 := (fun i => ad0 (i + 1))) (by decide) e_y10) rfl rfl rfl rfl rfl rfl rfl rfl rfl rfl rfl rfl rfl rfl rfl (Nat.le_of_ble_eq_true rfl) ⟨Nat.le_of_ble_eq_true rfl, Nat.le_of_ble_eq_true rfl⟩ dX8_advance_178 (fun _ => ?_)
          refine a_goto (pc := 181) X 185 dX8_advance_181 rfl ?_
          exact w_X8_advance_185 X     h
      · have h := x_ifn c_142 h
        exact w_X8_advance_145 X     h
  · have h := x_ifn c_100 h
    refine a_aload_n (pc := 103) X 0 dX8_advance_103 rfl rfl ?_
    refine a_iconst (pc := 104) X dX8_advance_104 q_ic_0 ?_
    refine a_putI (pc := 105) X 0 fl_RX8_74 rfl rfl rfl rfl dX8_advance_105 ?_
    obtain ⟨m11, e_m11, h⟩ := x_lt_elim h
    refine a_nm (vs2 := [m11]) (congrArg (fun q : XM => [q]) e_m11) ?_
    refine a_goto (pc := 108) X 198 dX8_advance_108 rfl ?_
    have h := Option.some.inj h; subst h
    exact a_vret (pc := 198) X trivial dX8_advance_198
set_option maxRecDepth 100000 in
set_option maxHeartbeats 4000000 in
theorem w_X8_advance_41 {p : Program} {l : Launch} {e : Env} {s : State} {m : MethodId} {args : Array Value} {below : List Frame} {meth : Method} {c : Code} {D : va_G} {tc : Nat → ClassId} {aK aV : Nat → Nat} {A : Nat → Prop} {ad0 : Nat → Nat}  (X : Cx p s m args meth c cX8_advance 1 none RX8 D tc aK aV A [(shTape, ad0)])  {o : XM}  {w0 : XM}  (h : f_X8_advance_41   w0 = some o) : aW p l e (x_Rm 2) s m args below meth c D tc A 1 [(shTape, ad0)] none True [o] 41 [(0, .ref (ad0 0))] [] [w0] := by
  unfold f_X8_advance_41 at h
  refine a_aload_n (pc := 41) X 0 dX8_advance_41 rfl rfl ?_
  refine a_aload_n (pc := 42) X 0 dX8_advance_42 rfl rfl ?_
  refine a_getI (pc := 43) X 0 fl_RX8_52 rfl rfl rfl rfl dX8_advance_43 ?_
  refine a_putI (pc := 46) X 0 fl_RX8_68 rfl rfl rfl rfl dX8_advance_46 ?_
  obtain ⟨m12, e_m12, h⟩ := x_lt_elim h
  refine a_nm (vs2 := [m12]) (congrArg (fun q : XM => [q]) e_m12) ?_
  refine a_aload_n (pc := 49) X 0 dX8_advance_49 rfl rfl ?_
  refine a_iconst (pc := 50) X dX8_advance_50 q_ic_m1 ?_
  refine a_putI (pc := 51) X 0 fl_RX8_71 rfl rfl rfl rfl dX8_advance_51 ?_
  obtain ⟨m13, e_m13, h⟩ := x_lt_elim h
  refine a_nm (vs2 := [m13]) (congrArg (fun q : XM => [q]) e_m13) ?_
  refine a_aload_n (pc := 54) X 0 dX8_advance_54 rfl rfl ?_
  refine a_getI (pc := 55) X 0 fl_RX8_52 rfl rfl rfl rfl dX8_advance_55 ?_
  refine a_aload_n (pc := 58) X 0 dX8_advance_58 rfl rfl ?_
  refine a_getI (pc := 59) X 0 fl_RX8_49 rfl rfl rfl rfl dX8_advance_59 ?_
  refine a_icmp_lt (pc := 62) X 92 dX8_advance_62 rfl (fun c_62 => ?_) (fun c_62 => ?_)
  · have h := x_ifp c_62 h
    exact w_X8_advance_92 X     h
  · have h := x_ifn c_62 h
    refine a_aload_n (pc := 65) X 0 dX8_advance_65 rfl rfl ?_
    refine a_getI (pc := 66) X 0 fl_RX8_42 rfl rfl rfl rfl dX8_advance_66 ?_
    refine a_aload_n (pc := 69) X 0 dX8_advance_69 rfl rfl ?_
    refine a_getI (pc := 70) X 0 fl_RX8_49 rfl rfl rfl rfl dX8_advance_70 ?_
    refine a_icmp_le (pc := 73) X 92 dX8_advance_73 rfl (fun c_73 => ?_) (fun c_73 => ?_)
    · have h := x_ifp c_73 h
      exact w_X8_advance_92 X     h
    · have h := x_ifn c_73 h
      refine a_aload_n (pc := 76) X 0 dX8_advance_76 rfl rfl ?_
      refine a_aload_n (pc := 77) X 0 dX8_advance_77 rfl rfl ?_
      refine a_getI (pc := 78) X 0 fl_RX8_49 rfl rfl rfl rfl dX8_advance_78 ?_
      refine a_putI (pc := 81) X 0 fl_RX8_68 rfl rfl rfl rfl dX8_advance_81 ?_
      obtain ⟨m14, e_m14, h⟩ := x_lt_elim h
      refine a_nm (vs2 := [m14]) (congrArg (fun q : XM => [q]) e_m14) ?_
      refine a_aload_n (pc := 84) X 0 dX8_advance_84 rfl rfl ?_
      refine a_iconst (pc := 85) X dX8_advance_85 q_ic_1 ?_
      refine a_putI (pc := 86) X 0 fl_RX8_74 rfl rfl rfl rfl dX8_advance_86 ?_
      obtain ⟨m15, e_m15, h⟩ := x_lt_elim h
      refine a_nm (vs2 := [m15]) (congrArg (fun q : XM => [q]) e_m15) ?_
      refine a_goto (pc := 89) X 198 dX8_advance_89 rfl ?_
      have h := Option.some.inj h; subst h
      exact a_vret (pc := 198) X trivial dX8_advance_198
set_option maxRecDepth 100000 in
set_option maxHeartbeats 4000000 in
theorem w_X8_advance_0 {p : Program} {l : Launch} {e : Env} {s : State} {m : MethodId} {args : Array Value} {below : List Frame} {meth : Method} {c : Code} {D : va_G} {tc : Nat → ClassId} {aK aV : Nat → Nat} {A : Nat → Prop} {ad0 : Nat → Nat}  (X : Cx p s m args meth c cX8_advance 1 none RX8 D tc aK aV A [(shTape, ad0)])  {o : XM}  : ∀ (n : Nat), ∀ (w0 : XM), x_lp (φ := XM → Option (XM)) (fun _ => none) (f_X8_advance_0  ) n w0 = some o → aW p l e (x_Rm 2) s m args below meth c D tc A 1 [(shTape, ad0)] none True [o] 0 [(0, .ref (ad0 0))] [] [w0] := by
  intro n
  induction n with
  | zero => intro w0 h; exact absurd h (fun q => by cases q)
  | succ n ih =>
    intro w0 h
    have h : f_X8_advance_0   (x_lp (φ := XM → Option (XM)) (fun _ => none) (f_X8_advance_0  ) n) w0 = some o := h
    generalize x_lp (φ := XM → Option (XM)) (fun _ => none) (f_X8_advance_0  ) n = k0 at h ih
    have hk0 := ih
    unfold f_X8_advance_0 at h
    refine a_aload_n (pc := 0) X 0 dX8_advance_0 rfl rfl ?_
    refine a_getI (pc := 1) X 0 fl_RX8_52 rfl rfl rfl rfl dX8_advance_1 ?_
    refine a_aload_n (pc := 4) X 0 dX8_advance_4 rfl rfl ?_
    refine a_getI (pc := 5) X 0 fl_RX8_42 rfl rfl rfl rfl dX8_advance_5 ?_
    refine a_icmp_ge (pc := 8) X 41 dX8_advance_8 rfl (fun c_8 => ?_) (fun c_8 => ?_)
    · have h := x_ifp c_8 h
      exact w_X8_advance_41 X     h
    · have h := x_ifn c_8 h
      refine a_aload_n (pc := 11) X 0 dX8_advance_11 rfl rfl ?_
      refine a_getR (pc := 12) X 0 1 1 fl_RX8_14 rfl rfl rfl rfl rfl dX8_advance_12 ?_
      refine a_aload_n (pc := 15) X 0 dX8_advance_15 rfl rfl ?_
      refine a_getI (pc := 16) X 0 fl_RX8_52 rfl rfl rfl rfl dX8_advance_16 ?_
      obtain ⟨y16, e_y16, h⟩ := x_lt_elim h
      refine a_callV (pc := 19) (st2 := [.int y16]) (vs2 := [w0]) X [(0, 1, 2)] [none] 0 1 3 [.int (w0.1 0 4)] [] cv_RX8_38 (ct_get (ad0 := (fun i => ad0 (i + 1))) (by decide) e_y16) rfl rfl rfl rfl rfl rfl rfl rfl rfl rfl rfl rfl rfl rfl rfl (Nat.le_of_ble_eq_true rfl) ⟨Nat.le_of_ble_eq_true rfl, Nat.le_of_ble_eq_true rfl⟩ dX8_advance_19 (fun _ => ?_)
      obtain ⟨y17, e_y17, h⟩ := x_lt_elim h
      refine a_callS (pc := 22) (st2 := [.int y17]) (vs2 := [w0]) X [] [] [.int y16] [] cv_RX8_64 (c_X8_isBlank   e_y17) rfl rfl rfl rfl rfl rfl rfl rfl rfl rfl rfl (Nat.le_of_ble_eq_true rfl) ⟨Nat.le_of_ble_eq_true rfl, Nat.le_of_ble_eq_true rfl⟩ dX8_advance_22 (fun z_22 => ?_)
      refine a_if_eq (pc := 25) X 41 dX8_advance_25 rfl (fun c_25 => ?_) (fun c_25 => ?_)
      · have h := x_ifp c_25 h
        exact w_X8_advance_41 X     h
      · have h := x_ifn c_25 h
        refine a_aload_n (pc := 28) X 0 dX8_advance_28 rfl rfl ?_
        refine a_dup (pc := 29) X dX8_advance_29 rfl ?_
        refine a_getI (pc := 30) X 0 fl_RX8_52 rfl rfl rfl rfl dX8_advance_30 ?_
        refine a_iconst (pc := 33) X dX8_advance_33 q_ic_1 ?_
        refine a_iadd (pc := 34) X dX8_advance_34 ?_
        refine a_putI (pc := 35) X 0 fl_RX8_52 rfl rfl rfl rfl dX8_advance_35 ?_
        obtain ⟨m18, e_m18, h⟩ := x_lt_elim h
        refine a_nm (vs2 := [m18]) (congrArg (fun q : XM => [q]) e_m18) ?_
        refine a_goto (pc := 38) X 0 dX8_advance_38 rfl ?_
        exact hk0 _ h
set_option maxRecDepth 100000 in
set_option maxHeartbeats 4000000 in
theorem c_X8_advance {l : Launch}  {ad0 : Nat → Nat} {v0 : XM}   {o : XM} (h : f_X8_advance v0 = some o) : CT l yX8_advance cX8_advance 1 none 2 [(shTape, ad0)] [v0] (fun aK => [.ref (ad0 0)]) none True [o] := by
  refine CT_of (by decide) (fun _ => Nat.le_of_ble_eq_true rfl) ?_
  intro p e s m args below meth c D tc aK aV A X
  have X : Cx p s m args meth c cX8_advance 1 none RX8 D tc aK aV A [(shTape, ad0)] := X
  show aW p l e (x_Rm 2) s m args below meth c D tc A 1 [(shTape, ad0)] none True [o] 0 [(0, .ref (ad0 0))] [] [v0]
  unfold f_X8_advance at h
  exact w_X8_advance_0 X    x_NN _ h
theorem dX8_open_0 : decode cX8_open 0 = .ok (.aload_n 0, 1) := by decide +kernel
theorem dX8_open_1 : decode cX8_open 1 = .ok (.iload_n 1, 1) := by decide +kernel
theorem dX8_open_2 : decode cX8_open 2 = .ok (.putfield 49, 3) := by decide +kernel
theorem dX8_open_5 : decode cX8_open 5 = .ok (.aload_n 0, 1) := by decide +kernel
theorem dX8_open_6 : decode cX8_open 6 = .ok (.iconst 0, 1) := by decide +kernel
theorem dX8_open_7 : decode cX8_open 7 = .ok (.putfield 52, 3) := by decide +kernel
theorem dX8_open_10 : decode cX8_open 10 = .ok (.aload_n 0, 1) := by decide +kernel
theorem dX8_open_11 : decode cX8_open 11 = .ok (.iconst 0, 1) := by decide +kernel
theorem dX8_open_12 : decode cX8_open 12 = .ok (.putfield 55, 3) := by decide +kernel
theorem dX8_open_15 : decode cX8_open 15 = .ok (.aload_n 0, 1) := by decide +kernel
theorem dX8_open_16 : decode cX8_open 16 = .ok (.iconst 0, 1) := by decide +kernel
theorem dX8_open_17 : decode cX8_open 17 = .ok (.putfield 58, 3) := by decide +kernel
theorem dX8_open_20 : decode cX8_open 20 = .ok (.aload_n 0, 1) := by decide +kernel
theorem dX8_open_21 : decode cX8_open 21 = .ok (.invokevirtual 61, 3) := by decide +kernel
theorem dX8_open_24 : decode cX8_open 24 = .ok (.return_, 1) := by decide +kernel
def f_X8_open (v0 : XM) (x0 : Int32) : Option (XM) :=
  x_lt (x_si v0 0 3 x0) (fun m1 =>
  x_lt (x_si m1 0 4 (0 : Int32)) (fun m2 =>
  x_lt (x_si m2 0 10 (0 : Int32)) (fun m3 =>
  x_lt (x_si m3 0 11 (0 : Int32)) (fun m4 =>
  x_bo (f_X8_advance m4) (fun y5 =>
  some y5)))))
set_option maxRecDepth 100000 in
set_option maxHeartbeats 4000000 in
theorem c_X8_open {l : Launch}  {ad0 : Nat → Nat} {v0 : XM} {x0 : Int32}  {o : XM} (h : f_X8_open v0 x0 = some o) : CT l yX8_open cX8_open 2 none 3 [(shTape, ad0)] [v0] (fun aK => [.ref (ad0 0), .int x0]) none True [o] := by
  refine CT_of (by decide) (fun _ => Nat.le_of_ble_eq_true rfl) ?_
  intro p e s m args below meth c D tc aK aV A X
  have X : Cx p s m args meth c cX8_open 2 none RX8 D tc aK aV A [(shTape, ad0)] := X
  show aW p l e (x_Rm 3) s m args below meth c D tc A 2 [(shTape, ad0)] none True [o] 0 [(0, .ref (ad0 0)), (1, .int x0)] [] [v0]
  unfold f_X8_open at h
  refine a_aload_n (pc := 0) X 0 dX8_open_0 rfl rfl ?_
  refine a_iload_n (pc := 1) X 1 dX8_open_1 rfl rfl ?_
  refine a_putI (pc := 2) X 0 fl_RX8_49 rfl rfl rfl rfl dX8_open_2 ?_
  obtain ⟨m1, e_m1, h⟩ := x_lt_elim h
  refine a_nm (vs2 := [m1]) (congrArg (fun q : XM => [q]) e_m1) ?_
  refine a_aload_n (pc := 5) X 0 dX8_open_5 rfl rfl ?_
  refine a_iconst (pc := 6) X dX8_open_6 q_ic_0 ?_
  refine a_putI (pc := 7) X 0 fl_RX8_52 rfl rfl rfl rfl dX8_open_7 ?_
  obtain ⟨m2, e_m2, h⟩ := x_lt_elim h
  refine a_nm (vs2 := [m2]) (congrArg (fun q : XM => [q]) e_m2) ?_
  refine a_aload_n (pc := 10) X 0 dX8_open_10 rfl rfl ?_
  refine a_iconst (pc := 11) X dX8_open_11 q_ic_0 ?_
  refine a_putI (pc := 12) X 0 fl_RX8_55 rfl rfl rfl rfl dX8_open_12 ?_
  obtain ⟨m3, e_m3, h⟩ := x_lt_elim h
  refine a_nm (vs2 := [m3]) (congrArg (fun q : XM => [q]) e_m3) ?_
  refine a_aload_n (pc := 15) X 0 dX8_open_15 rfl rfl ?_
  refine a_iconst (pc := 16) X dX8_open_16 q_ic_0 ?_
  refine a_putI (pc := 17) X 0 fl_RX8_58 rfl rfl rfl rfl dX8_open_17 ?_
  obtain ⟨m4, e_m4, h⟩ := x_lt_elim h
  refine a_nm (vs2 := [m4]) (congrArg (fun q : XM => [q]) e_m4) ?_
  refine a_aload_n (pc := 20) X 0 dX8_open_20 rfl rfl ?_
  obtain ⟨y5, e_y5, h⟩ := x_bo_elim h
  refine a_callV (pc := 21) (st2 := []) (vs2 := [y5]) X [(0, 0, 4)] [some y5] 0 0 8 [] [] cv_RX8_61 (c_X8_advance (ad0 := ad0)  e_y5) rfl rfl rfl rfl rfl rfl rfl rfl rfl rfl rfl rfl rfl rfl rfl (Nat.le_of_ble_eq_true rfl) ⟨Nat.le_of_ble_eq_true rfl, Nat.le_of_ble_eq_true rfl⟩ dX8_open_21 (fun _ => ?_)
  have h := Option.some.inj h; subst h
  exact a_vret (pc := 24) X trivial dX8_open_24
theorem dX8_isName_0 : decode cX8_isName 0 = .ok (.aload_n 0, 1) := by decide +kernel
theorem dX8_isName_1 : decode cX8_isName 1 = .ok (.getfield 74, 3) := by decide +kernel
theorem dX8_isName_4 : decode cX8_isName 4 = .ok (.iconst 2, 1) := by decide +kernel
theorem dX8_isName_5 : decode cX8_isName 5 = .ok (.if_icmp .ne 15, 3) := by decide +kernel
theorem dX8_isName_8 : decode cX8_isName 8 = .ok (.aload_n 0, 1) := by decide +kernel
theorem dX8_isName_9 : decode cX8_isName 9 = .ok (.getfield 71, 3) := by decide +kernel
theorem dX8_isName_12 : decode cX8_isName 12 = .ok (.iconst (-1), 1) := by decide +kernel
theorem dX8_isName_13 : decode cX8_isName 13 = .ok (.if_icmp .ne 7, 3) := by decide +kernel
theorem dX8_isName_16 : decode cX8_isName 16 = .ok (.iconst 1, 1) := by decide +kernel
theorem dX8_isName_17 : decode cX8_isName 17 = .ok (.goto 4, 3) := by decide +kernel
theorem dX8_isName_20 : decode cX8_isName 20 = .ok (.iconst 0, 1) := by decide +kernel
theorem dX8_isName_21 : decode cX8_isName 21 = .ok (.ireturn, 1) := by decide +kernel
def f_X8_isName (v0 : XM) : Int32 :=
  if ((v0.1 0 6) : Int32) = (2 : Int32) then
  (if ((v0.1 0 8) : Int32) = (-1 : Int32) then
  (((1 : Int32) : Int32))
  else (((0 : Int32) : Int32)))
  else (((0 : Int32) : Int32))
set_option maxRecDepth 100000 in
set_option maxHeartbeats 4000000 in
theorem c_X8_isName {l : Launch}  {ad0 : Nat → Nat} {v0 : XM}   {o : Int32} (h : f_X8_isName v0 = o) : CT l yX8_isName cX8_isName 1 (some .boolean) 0 [(shTape, ad0)] [v0] (fun aK => [.ref (ad0 0)]) (some (.int o)) (x_Z o) [v0] := by
  refine CT_of (by decide) (fun _ => Nat.le_of_ble_eq_true rfl) ?_
  intro p e s m args below meth c D tc aK aV A X
  have X : Cx p s m args meth c cX8_isName 1 (some .boolean) RX8 D tc aK aV A [(shTape, ad0)] := X
  show aW p l e (x_Rm 0) s m args below meth c D tc A 1 [(shTape, ad0)] (some (.int o)) (x_Z o) [v0] 0 [(0, .ref (ad0 0))] [] [v0]
  unfold f_X8_isName at h
  refine a_aload_n (pc := 0) X 0 dX8_isName_0 rfl rfl ?_
  refine a_getI (pc := 1) X 0 fl_RX8_74 rfl rfl rfl rfl dX8_isName_1 ?_
  refine a_iconst (pc := 4) X dX8_isName_4 q_ic_2 ?_
  refine a_icmp_ne (pc := 5) X 20 dX8_isName_5 rfl (fun c_5 => ?_) (fun c_5 => ?_)
  · have h := x_ifn c_5 h
    refine a_iconst (pc := 20) X dX8_isName_20 q_ic_0 ?_
    subst h
    exact a_zret (pc := 21) X x_Z0 x_Z0 dX8_isName_21
  · have h := x_ifp c_5 h
    refine a_aload_n (pc := 8) X 0 dX8_isName_8 rfl rfl ?_
    refine a_getI (pc := 9) X 0 fl_RX8_71 rfl rfl rfl rfl dX8_isName_9 ?_
    refine a_iconst (pc := 12) X dX8_isName_12 q_ic_m1 ?_
    refine a_icmp_ne (pc := 13) X 20 dX8_isName_13 rfl (fun c_13 => ?_) (fun c_13 => ?_)
    · have h := x_ifn c_13 h
      refine a_iconst (pc := 20) X dX8_isName_20 q_ic_0 ?_
      subst h
      exact a_zret (pc := 21) X x_Z0 x_Z0 dX8_isName_21
    · have h := x_ifp c_13 h
      refine a_iconst (pc := 16) X dX8_isName_16 q_ic_1 ?_
      refine a_goto (pc := 17) X 21 dX8_isName_17 rfl ?_
      subst h
      exact a_zret (pc := 21) X x_Z1 x_Z1 dX8_isName_21
theorem dX8_refuseAt_0 : decode cX8_refuseAt 0 = .ok (.aload_n 0, 1) := by decide +kernel
theorem dX8_refuseAt_1 : decode cX8_refuseAt 1 = .ok (.iload_n 1, 1) := by decide +kernel
theorem dX8_refuseAt_2 : decode cX8_refuseAt 2 = .ok (.putfield 55, 3) := by decide +kernel
theorem dX8_refuseAt_5 : decode cX8_refuseAt 5 = .ok (.aload_n 0, 1) := by decide +kernel
theorem dX8_refuseAt_6 : decode cX8_refuseAt 6 = .ok (.iload_n 2, 1) := by decide +kernel
theorem dX8_refuseAt_7 : decode cX8_refuseAt 7 = .ok (.putfield 58, 3) := by decide +kernel
theorem dX8_refuseAt_10 : decode cX8_refuseAt 10 = .ok (.iconst 0, 1) := by decide +kernel
theorem dX8_refuseAt_11 : decode cX8_refuseAt 11 = .ok (.ireturn, 1) := by decide +kernel
def f_X8_refuseAt (v0 : XM) (x0 : Int32) (x1 : Int32) : Int32 × XM :=
  x_lt (x_si v0 0 10 x0) (fun m1 =>
  x_lt (x_si m1 0 11 x1) (fun m2 =>
  ((0 : Int32), m2)))
set_option maxRecDepth 100000 in
set_option maxHeartbeats 4000000 in
theorem c_X8_refuseAt {l : Launch}  {ad0 : Nat → Nat} {v0 : XM} {x0 : Int32} {x1 : Int32}  {o : Int32 × XM} (h : f_X8_refuseAt v0 x0 x1 = o) : CT l yX8_refuseAt cX8_refuseAt 3 (some .boolean) 0 [(shTape, ad0)] [v0] (fun aK => [.ref (ad0 0), .int x0, .int x1]) (some (.int o.1)) (x_Z o.1) [o.2] := by
  refine CT_of (by decide) (fun _ => Nat.le_of_ble_eq_true rfl) ?_
  intro p e s m args below meth c D tc aK aV A X
  have X : Cx p s m args meth c cX8_refuseAt 3 (some .boolean) RX8 D tc aK aV A [(shTape, ad0)] := X
  show aW p l e (x_Rm 0) s m args below meth c D tc A 3 [(shTape, ad0)] (some (.int o.1)) (x_Z o.1) [o.2] 0 [(0, .ref (ad0 0)), (1, .int x0), (2, .int x1)] [] [v0]
  unfold f_X8_refuseAt at h
  refine a_aload_n (pc := 0) X 0 dX8_refuseAt_0 rfl rfl ?_
  refine a_iload_n (pc := 1) X 1 dX8_refuseAt_1 rfl rfl ?_
  refine a_putI (pc := 2) X 0 fl_RX8_55 rfl rfl rfl rfl dX8_refuseAt_2 ?_
  obtain ⟨m1, e_m1, h⟩ := x_lt_elim h
  refine a_nm (vs2 := [m1]) (congrArg (fun q : XM => [q]) e_m1) ?_
  refine a_aload_n (pc := 5) X 0 dX8_refuseAt_5 rfl rfl ?_
  refine a_iload_n (pc := 6) X 2 dX8_refuseAt_6 rfl rfl ?_
  refine a_putI (pc := 7) X 0 fl_RX8_58 rfl rfl rfl rfl dX8_refuseAt_7 ?_
  obtain ⟨m2, e_m2, h⟩ := x_lt_elim h
  refine a_nm (vs2 := [m2]) (congrArg (fun q : XM => [q]) e_m2) ?_
  refine a_iconst (pc := 10) X dX8_refuseAt_10 q_ic_0 ?_
  subst h
  exact a_zret (pc := 11) X x_Z0 x_Z0 dX8_refuseAt_11
theorem dX8_refuse_0 : decode cX8_refuse 0 = .ok (.aload_n 0, 1) := by decide +kernel
theorem dX8_refuse_1 : decode cX8_refuse 1 = .ok (.iload_n 1, 1) := by decide +kernel
theorem dX8_refuse_2 : decode cX8_refuse 2 = .ok (.aload_n 0, 1) := by decide +kernel
theorem dX8_refuse_3 : decode cX8_refuse 3 = .ok (.getfield 68, 3) := by decide +kernel
theorem dX8_refuse_6 : decode cX8_refuse 6 = .ok (.invokevirtual 99, 3) := by decide +kernel
theorem dX8_refuse_9 : decode cX8_refuse 9 = .ok (.ireturn, 1) := by decide +kernel
def f_X8_refuse (v0 : XM) (x0 : Int32) : Int32 × XM :=
  x_lt (f_X8_refuseAt v0 x0 (v0.1 0 5)) (fun y1 =>
  (y1.1, y1.2))
set_option maxRecDepth 100000 in
set_option maxHeartbeats 4000000 in
theorem c_X8_refuse {l : Launch}  {ad0 : Nat → Nat} {v0 : XM} {x0 : Int32}  {o : Int32 × XM} (h : f_X8_refuse v0 x0 = o) : CT l yX8_refuse cX8_refuse 2 (some .boolean) 1 [(shTape, ad0)] [v0] (fun aK => [.ref (ad0 0), .int x0]) (some (.int o.1)) (x_Z o.1) [o.2] := by
  refine CT_of (by decide) (fun _ => Nat.le_of_ble_eq_true rfl) ?_
  intro p e s m args below meth c D tc aK aV A X
  have X : Cx p s m args meth c cX8_refuse 2 (some .boolean) RX8 D tc aK aV A [(shTape, ad0)] := X
  show aW p l e (x_Rm 1) s m args below meth c D tc A 2 [(shTape, ad0)] (some (.int o.1)) (x_Z o.1) [o.2] 0 [(0, .ref (ad0 0)), (1, .int x0)] [] [v0]
  unfold f_X8_refuse at h
  refine a_aload_n (pc := 0) X 0 dX8_refuse_0 rfl rfl ?_
  refine a_iload_n (pc := 1) X 1 dX8_refuse_1 rfl rfl ?_
  refine a_aload_n (pc := 2) X 0 dX8_refuse_2 rfl rfl ?_
  refine a_getI (pc := 3) X 0 fl_RX8_68 rfl rfl rfl rfl dX8_refuse_3 ?_
  obtain ⟨y1, e_y1, h⟩ := x_lt_elim h
  refine a_callV (pc := 6) (st2 := [.int y1.1]) (vs2 := [y1.2]) X [(0, 0, 4)] [some y1.2] 0 0 8 [.int x0, .int (v0.1 0 5)] [] cv_RX8_99 (c_X8_refuseAt (ad0 := ad0)  e_y1) rfl rfl rfl rfl rfl rfl rfl rfl rfl rfl rfl rfl rfl rfl rfl (Nat.le_of_ble_eq_true rfl) ⟨Nat.le_of_ble_eq_true rfl, Nat.le_of_ble_eq_true rfl⟩ dX8_refuse_6 (fun z_6 => ?_)
  subst h
  exact a_zret (pc := 9) X z_6 z_6 dX8_refuse_9
theorem dX9_placeOfName_0 : decode cX9_placeOfName 0 = .ok (.iconst 0, 1) := by decide +kernel
theorem dX9_placeOfName_1 : decode cX9_placeOfName 1 = .ok (.istore_n 3, 1) := by decide +kernel
theorem dX9_placeOfName_2 : decode cX9_placeOfName 2 = .ok (.iload_n 3, 1) := by decide +kernel
theorem dX9_placeOfName_3 : decode cX9_placeOfName 3 = .ok (.aload_n 0, 1) := by decide +kernel
theorem dX9_placeOfName_4 : decode cX9_placeOfName 4 = .ok (.getfield 42, 3) := by decide +kernel
theorem dX9_placeOfName_7 : decode cX9_placeOfName 7 = .ok (.arraylength, 1) := by decide +kernel
theorem dX9_placeOfName_8 : decode cX9_placeOfName 8 = .ok (.if_icmp .ge 22, 3) := by decide +kernel
theorem dX9_placeOfName_11 : decode cX9_placeOfName 11 = .ok (.aload_n 0, 1) := by decide +kernel
theorem dX9_placeOfName_12 : decode cX9_placeOfName 12 = .ok (.getfield 42, 3) := by decide +kernel
theorem dX9_placeOfName_15 : decode cX9_placeOfName 15 = .ok (.iload_n 3, 1) := by decide +kernel
theorem dX9_placeOfName_16 : decode cX9_placeOfName 16 = .ok (.laload, 1) := by decide +kernel
theorem dX9_placeOfName_17 : decode cX9_placeOfName 17 = .ok (.lload_n 1, 1) := by decide +kernel
theorem dX9_placeOfName_18 : decode cX9_placeOfName 18 = .ok (.lcmp, 1) := by decide +kernel
theorem dX9_placeOfName_19 : decode cX9_placeOfName 19 = .ok (.ifCond .ne 5, 3) := by decide +kernel
theorem dX9_placeOfName_22 : decode cX9_placeOfName 22 = .ok (.iload_n 3, 1) := by decide +kernel
theorem dX9_placeOfName_23 : decode cX9_placeOfName 23 = .ok (.ireturn, 1) := by decide +kernel
theorem dX9_placeOfName_24 : decode cX9_placeOfName 24 = .ok (.iinc 3 1, 3) := by decide +kernel
theorem dX9_placeOfName_27 : decode cX9_placeOfName 27 = .ok (.goto (-25), 3) := by decide +kernel
theorem dX9_placeOfName_30 : decode cX9_placeOfName 30 = .ok (.iconst (-1), 1) := by decide +kernel
theorem dX9_placeOfName_31 : decode cX9_placeOfName 31 = .ok (.ireturn, 1) := by decide +kernel
def f_X9_placeOfName_2 (v0 : XM) (k2 : Int64 → Int32 → Option (Int32)) (l1 : Int64) (l3 : Int32) : Option (Int32) :=
  if ((19 : Int32) : Int32) ≤ l3 then
  (some ((-1 : Int32) : Int32))
  else (x_ck l3 19 (
  if (lg_cmp (x_gl v0 15 l3) l1) = (0 : Int32) then
  (some (l3 : Int32))
  else (k2 l1 (l3 + 1))))
def f_X9_placeOfName (v0 : XM) (x0 : Int64) : Option (Int32) :=
  x_lp (φ := Int64 → Int32 → Option (Int32)) (fun _ _ => none) (f_X9_placeOfName_2 v0 ) x_NN x0 (0 : Int32)
set_option maxRecDepth 100000 in
set_option maxHeartbeats 4000000 in
theorem w_X9_placeOfName_2 {p : Program} {l : Launch} {e : Env} {s : State} {m : MethodId} {args : Array Value} {below : List Frame} {meth : Method} {c : Code} {D : va_G} {tc : Nat → ClassId} {aK aV : Nat → Nat} {A : Nat → Prop} {ad0 : Nat → Nat} {v0 : XM} (X : Cx p s m args meth c cX9_placeOfName 4 (some .int) RX9 D tc aK aV A [(shValley, ad0)])  {o : Int32}  : ∀ (n : Nat), ∀ (l1 : Int64) (l3 : Int32), x_lp (φ := Int64 → Int32 → Option (Int32)) (fun _ _ => none) (f_X9_placeOfName_2 v0 ) n l1 l3 = some o → aW p l e (x_Rm 0) s m args below meth c D tc A 4 [(shValley, ad0)] (some (.int o)) True [v0] 2 [(0, .ref (ad0 0)), (1, .long l1), (3, .int l3)] [] [v0] := by
  intro n
  induction n with
  | zero => intro l1 l3 h; exact absurd h (fun q => by cases q)
  | succ n ih =>
    intro l1 l3 h
    have h : f_X9_placeOfName_2 v0  (x_lp (φ := Int64 → Int32 → Option (Int32)) (fun _ _ => none) (f_X9_placeOfName_2 v0 ) n) l1 l3 = some o := h
    generalize x_lp (φ := Int64 → Int32 → Option (Int32)) (fun _ _ => none) (f_X9_placeOfName_2 v0 ) n = k2 at h ih
    have hk2 := ih
    unfold f_X9_placeOfName_2 at h
    refine a_iload_n (pc := 2) X 2 dX9_placeOfName_2 rfl rfl ?_
    refine a_aload_n (pc := 3) X 0 dX9_placeOfName_3 rfl rfl ?_
    refine a_getR (pc := 4) X 0 15 15 fl_RX9_42 rfl rfl rfl rfl rfl dX9_placeOfName_4 ?_
    refine a_alenL (pc := 7) (x := 19) X 0 rfl rfl rfl (by decide) dX9_placeOfName_7 ?_
    refine a_icmp_ge (pc := 8) X 30 dX9_placeOfName_8 rfl (fun c_8 => ?_) (fun c_8 => ?_)
    · have h := x_ifp c_8 h
      refine a_iconst (pc := 30) X dX9_placeOfName_30 q_ic_m1 ?_
      have h := Option.some.inj h; subst h
      exact a_iret (pc := 31) X trivial dX9_placeOfName_31
    · have h := x_ifn c_8 h
      refine a_aload_n (pc := 11) X 0 dX9_placeOfName_11 rfl rfl ?_
      refine a_getR (pc := 12) X 0 15 15 fl_RX9_42 rfl rfl rfl rfl rfl dX9_placeOfName_12 ?_
      refine a_iload_n (pc := 15) X 2 dX9_placeOfName_15 rfl rfl ?_
      obtain ⟨c_16, h⟩ := x_ck_elim h
      refine a_lald (pc := 16) X 0 rfl rfl rfl c_16 dX9_placeOfName_16 ?_
      refine a_lload_n (pc := 17) X 1 dX9_placeOfName_17 rfl rfl ?_
      refine a_lcmp (pc := 18) X dX9_placeOfName_18 ?_
      refine a_if_ne (pc := 19) X 24 dX9_placeOfName_19 rfl (fun c_19 => ?_) (fun c_19 => ?_)
      · have h := x_ifn c_19 h
        refine a_iinc (pc := 24) X 2 [(3, .int (l3 + 1)), (0, .ref (ad0 0)), (1, .long l1)] dX9_placeOfName_24 rfl (congrArg (HAdd.hAdd l3) q_ic_1) (by decide) rfl ?_
        refine a_goto (pc := 27) X 2 dX9_placeOfName_27 rfl ?_
        refine a_sub [1, 2, 0] rfl ?_
        exact hk2 _ _ h
      · have h := x_ifp c_19 h
        refine a_iload_n (pc := 22) X 2 dX9_placeOfName_22 rfl rfl ?_
        have h := Option.some.inj h; subst h
        exact a_iret (pc := 23) X trivial dX9_placeOfName_23
set_option maxRecDepth 100000 in
set_option maxHeartbeats 4000000 in
theorem c_X9_placeOfName {l : Launch}  {ad0 : Nat → Nat} {v0 : XM} {x0 : Int64}  {o : Int32} (h : f_X9_placeOfName v0 x0 = some o) : CT l yX9_placeOfName cX9_placeOfName 4 (some .int) 0 [(shValley, ad0)] [v0] (fun aK => [.ref (ad0 0), .long x0]) (some (.int o)) True [v0] := by
  refine CT_of (by decide) (fun _ => Nat.le_of_ble_eq_true rfl) ?_
  intro p e s m args below meth c D tc aK aV A X
  have X : Cx p s m args meth c cX9_placeOfName 4 (some .int) RX9 D tc aK aV A [(shValley, ad0)] := X
  show aW p l e (x_Rm 0) s m args below meth c D tc A 4 [(shValley, ad0)] (some (.int o)) True [v0] 0 [(0, .ref (ad0 0)), (1, .long x0)] [] [v0]
  unfold f_X9_placeOfName at h
  refine a_iconst (pc := 0) X dX9_placeOfName_0 q_ic_0 ?_
  refine a_istore_n (pc := 1) X [(3, .int (0 : Int32)), (0, .ref (ad0 0)), (1, .long x0)] dX9_placeOfName_1 rfl (by decide) rfl ?_
  refine a_sub [1, 2, 0] rfl ?_
  exact w_X9_placeOfName_2 X    x_NN _ _ h
theorem dX8_takeNamed_0 : decode cX8_takeNamed 0 = .ok (.aload_n 0, 1) := by decide +kernel
theorem dX8_takeNamed_1 : decode cX8_takeNamed 1 = .ok (.invokevirtual 106, 3) := by decide +kernel
theorem dX8_takeNamed_4 : decode cX8_takeNamed 4 = .ok (.ifCond .ne 11, 3) := by decide +kernel
theorem dX8_takeNamed_7 : decode cX8_takeNamed 7 = .ok (.aload_n 0, 1) := by decide +kernel
theorem dX8_takeNamed_8 : decode cX8_takeNamed 8 = .ok (.iconst 1, 1) := by decide +kernel
theorem dX8_takeNamed_9 : decode cX8_takeNamed 9 = .ok (.invokevirtual 103, 3) := by decide +kernel
theorem dX8_takeNamed_12 : decode cX8_takeNamed 12 = .ok (.pop, 1) := by decide +kernel
theorem dX8_takeNamed_13 : decode cX8_takeNamed 13 = .ok (.iconst (-1), 1) := by decide +kernel
theorem dX8_takeNamed_14 : decode cX8_takeNamed 14 = .ok (.ireturn, 1) := by decide +kernel
theorem dX8_takeNamed_15 : decode cX8_takeNamed 15 = .ok (.aload_n 1, 1) := by decide +kernel
theorem dX8_takeNamed_16 : decode cX8_takeNamed 16 = .ok (.aload_n 0, 1) := by decide +kernel
theorem dX8_takeNamed_17 : decode cX8_takeNamed 17 = .ok (.getfield 92, 3) := by decide +kernel
theorem dX8_takeNamed_20 : decode cX8_takeNamed 20 = .ok (.invokevirtual 110, 3) := by decide +kernel
theorem dX8_takeNamed_23 : decode cX8_takeNamed 23 = .ok (.iload_n 2, 1) := by decide +kernel
theorem dX8_takeNamed_24 : decode cX8_takeNamed 24 = .ok (.isub, 1) := by decide +kernel
theorem dX8_takeNamed_25 : decode cX8_takeNamed 25 = .ok (.istore 4, 2) := by decide +kernel
theorem dX8_takeNamed_27 : decode cX8_takeNamed 27 = .ok (.iload 4, 2) := by decide +kernel
theorem dX8_takeNamed_29 : decode cX8_takeNamed 29 = .ok (.ifCond .lt 9, 3) := by decide +kernel
theorem dX8_takeNamed_32 : decode cX8_takeNamed 32 = .ok (.iload 4, 2) := by decide +kernel
theorem dX8_takeNamed_34 : decode cX8_takeNamed 34 = .ok (.iload_n 3, 1) := by decide +kernel
theorem dX8_takeNamed_35 : decode cX8_takeNamed 35 = .ok (.if_icmp .lt 11, 3) := by decide +kernel
theorem dX8_takeNamed_38 : decode cX8_takeNamed 38 = .ok (.aload_n 0, 1) := by decide +kernel
theorem dX8_takeNamed_39 : decode cX8_takeNamed 39 = .ok (.iconst 3, 1) := by decide +kernel
theorem dX8_takeNamed_40 : decode cX8_takeNamed 40 = .ok (.invokevirtual 103, 3) := by decide +kernel
theorem dX8_takeNamed_43 : decode cX8_takeNamed 43 = .ok (.pop, 1) := by decide +kernel
theorem dX8_takeNamed_44 : decode cX8_takeNamed 44 = .ok (.iconst (-1), 1) := by decide +kernel
theorem dX8_takeNamed_45 : decode cX8_takeNamed 45 = .ok (.ireturn, 1) := by decide +kernel
theorem dX8_takeNamed_46 : decode cX8_takeNamed 46 = .ok (.aload_n 0, 1) := by decide +kernel
theorem dX8_takeNamed_47 : decode cX8_takeNamed 47 = .ok (.invokevirtual 61, 3) := by decide +kernel
theorem dX8_takeNamed_50 : decode cX8_takeNamed 50 = .ok (.iload 4, 2) := by decide +kernel
theorem dX8_takeNamed_52 : decode cX8_takeNamed 52 = .ok (.ireturn, 1) := by decide +kernel
def f_X8_takeNamed_38 (v1 : XM) (w0 : XM) : Option (Int32 × XM) :=
  x_lt (f_X8_refuse w0 (3 : Int32)) (fun y1 =>
  some ((-1 : Int32), y1.2))
def f_X8_takeNamed (v0 : XM) (v1 : XM) (x1 : Int32) (x2 : Int32) : Option (Int32 × XM) :=
  x_lt (f_X8_isName v0) (fun y2 =>
  if y2 = (0 : Int32) then
  (x_lt (f_X8_refuse v0 (1 : Int32)) (fun y5 =>
  some ((-1 : Int32), y5.2)))
  else (x_bo (f_X9_placeOfName v1 (v0.2 0 9)) (fun y3 =>
  if (y3 - x1) < (0 : Int32) then
  (f_X8_takeNamed_38 v1  v0)
  else (if ((y3 - x1) : Int32) < x2 then
  (x_bo (f_X8_advance v0) (fun y4 =>
  some (y3 - x1, y4)))
  else (f_X8_takeNamed_38 v1  v0)))))
set_option maxRecDepth 100000 in
set_option maxHeartbeats 4000000 in
theorem w_X8_takeNamed_38 {p : Program} {l : Launch} {e : Env} {s : State} {m : MethodId} {args : Array Value} {below : List Frame} {meth : Method} {c : Code} {D : va_G} {tc : Nat → ClassId} {aK aV : Nat → Nat} {A : Nat → Prop} {ad0 : Nat → Nat} {ad1 : Nat → Nat} {v1 : XM} (X : Cx p s m args meth c cX8_takeNamed 5 (some .int) RX8 D tc aK aV A [(shTape, ad0), (shValley, ad1)])  {o : Int32 × XM}  {w0 : XM}  (h : f_X8_takeNamed_38 v1  w0 = some o) : aW p l e (x_Rm 3) s m args below meth c D tc A 5 [(shTape, ad0), (shValley, ad1)] (some (.int o.1)) True [o.2, v1] 38 [(0, .ref (ad0 0))] [] [w0, v1] := by
  unfold f_X8_takeNamed_38 at h
  refine a_aload_n (pc := 38) X 0 dX8_takeNamed_38 rfl rfl ?_
  refine a_iconst (pc := 39) X dX8_takeNamed_39 q_ic_3 ?_
  obtain ⟨y1, e_y1, h⟩ := x_lt_elim h
  refine a_callV (pc := 40) (st2 := [.int y1.1]) (vs2 := [y1.2, v1]) X [(0, 0, 4)] [some y1.2] 0 0 8 [.int (3 : Int32)] [] cv_RX8_103 (c_X8_refuse (ad0 := ad0)  e_y1) rfl rfl rfl rfl rfl rfl rfl rfl rfl rfl rfl rfl rfl rfl rfl (Nat.le_of_ble_eq_true rfl) ⟨Nat.le_of_ble_eq_true rfl, Nat.le_of_ble_eq_true rfl⟩ dX8_takeNamed_40 (fun z_40 => ?_)
  refine a_pop (pc := 43) X dX8_takeNamed_43 rfl ?_
  refine a_iconst (pc := 44) X dX8_takeNamed_44 q_ic_m1 ?_
  have h := Option.some.inj h; subst h
  exact a_iret (pc := 45) X trivial dX8_takeNamed_45
set_option maxRecDepth 100000 in
set_option maxHeartbeats 4000000 in
theorem c_X8_takeNamed {l : Launch}  {ad0 : Nat → Nat} {ad1 : Nat → Nat} {v0 v1 : XM} {x1 : Int32} {x2 : Int32}  {o : Int32 × XM} (h : f_X8_takeNamed v0 v1 x1 x2 = some o) : CT l yX8_takeNamed cX8_takeNamed 5 (some .int) 3 [(shTape, ad0), (shValley, ad1)] [v0, v1] (fun aK => [.ref (ad0 0), .ref (ad1 0), .int x1, .int x2]) (some (.int o.1)) True [o.2, v1] := by
  refine CT_of (by decide) (fun _ => Nat.le_of_ble_eq_true rfl) ?_
  intro p e s m args below meth c D tc aK aV A X
  have X : Cx p s m args meth c cX8_takeNamed 5 (some .int) RX8 D tc aK aV A [(shTape, ad0), (shValley, ad1)] := X
  show aW p l e (x_Rm 3) s m args below meth c D tc A 5 [(shTape, ad0), (shValley, ad1)] (some (.int o.1)) True [o.2, v1] 0 [(0, .ref (ad0 0)), (1, .ref (ad1 0)), (2, .int x1), (3, .int x2)] [] [v0, v1]
  unfold f_X8_takeNamed at h
  refine a_aload_n (pc := 0) X 0 dX8_takeNamed_0 rfl rfl ?_
  obtain ⟨y2, e_y2, h⟩ := x_lt_elim h
  refine a_callV (pc := 1) (st2 := [.int y2]) (vs2 := [v0, v1]) X [(0, 0, 4)] [none] 0 0 8 [] [] cv_RX8_106 (c_X8_isName (ad0 := ad0)  e_y2) rfl rfl rfl rfl rfl rfl rfl rfl rfl rfl rfl rfl rfl rfl rfl (Nat.le_of_ble_eq_true rfl) ⟨Nat.le_of_ble_eq_true rfl, Nat.le_of_ble_eq_true rfl⟩ dX8_takeNamed_1 (fun z_1 => ?_)
  refine a_if_ne (pc := 4) X 15 dX8_takeNamed_4 rfl (fun c_4 => ?_) (fun c_4 => ?_)
  · have h := x_ifn c_4 h
    refine a_aload_n (pc := 15) X 1 dX8_takeNamed_15 rfl rfl ?_
    refine a_aload_n (pc := 16) X 0 dX8_takeNamed_16 rfl rfl ?_
    refine a_getL (pc := 17) X 0 fl_RX8_92 rfl rfl rfl rfl dX8_takeNamed_17 ?_
    obtain ⟨y3, e_y3, h⟩ := x_bo_elim h
    refine a_callV (pc := 20) (st2 := [.int y3]) (vs2 := [v0, v1]) X [(1, 0, 16)] [none] 1 0 9 [.long (v0.2 0 9)] [] cv_RX8_110 (c_X9_placeOfName (ad0 := ad1)  e_y3) rfl rfl rfl rfl rfl rfl rfl rfl rfl rfl rfl rfl rfl rfl rfl (Nat.le_of_ble_eq_true rfl) ⟨Nat.le_of_ble_eq_true rfl, Nat.le_of_ble_eq_true rfl⟩ dX8_takeNamed_20 (fun _ => ?_)
    refine a_iload_n (pc := 23) X 2 dX8_takeNamed_23 rfl rfl ?_
    refine a_isub (pc := 24) X dX8_takeNamed_24 ?_
    refine a_istore (pc := 25) X [(4, .int (y3 - x1)), (0, .ref (ad0 0)), (1, .ref (ad1 0)), (2, .int x1), (3, .int x2)] dX8_takeNamed_25 (by decide) rfl ?_
    refine a_iload (pc := 27) X 0 dX8_takeNamed_27 rfl ?_
    refine a_if_lt (pc := 29) X 38 dX8_takeNamed_29 rfl (fun c_29 => ?_) (fun c_29 => ?_)
    · have h := x_ifp c_29 h
      refine a_sub [1] rfl ?_
      exact w_X8_takeNamed_38 X     h
    · have h := x_ifn c_29 h
      refine a_iload (pc := 32) X 0 dX8_takeNamed_32 rfl ?_
      refine a_iload_n (pc := 34) X 4 dX8_takeNamed_34 rfl rfl ?_
      refine a_icmp_lt (pc := 35) X 46 dX8_takeNamed_35 rfl (fun c_35 => ?_) (fun c_35 => ?_)
      · have h := x_ifp c_35 h
        refine a_aload_n (pc := 46) X 1 dX8_takeNamed_46 rfl rfl ?_
        obtain ⟨y4, e_y4, h⟩ := x_bo_elim h
        refine a_callV (pc := 47) (st2 := []) (vs2 := [y4, v1]) X [(0, 0, 4)] [some y4] 0 0 8 [] [] cv_RX8_61 (c_X8_advance (ad0 := ad0)  e_y4) rfl rfl rfl rfl rfl rfl rfl rfl rfl rfl rfl rfl rfl rfl rfl (Nat.le_of_ble_eq_true rfl) ⟨Nat.le_of_ble_eq_true rfl, Nat.le_of_ble_eq_true rfl⟩ dX8_takeNamed_47 (fun _ => ?_)
        refine a_iload (pc := 50) X 0 dX8_takeNamed_50 rfl ?_
        have h := Option.some.inj h; subst h
        exact a_iret (pc := 52) X trivial dX8_takeNamed_52
      · have h := x_ifn c_35 h
        refine a_sub [1] rfl ?_
        exact w_X8_takeNamed_38 X     h
  · have h := x_ifp c_4 h
    refine a_aload_n (pc := 7) X 0 dX8_takeNamed_7 rfl rfl ?_
    refine a_iconst (pc := 8) X dX8_takeNamed_8 q_ic_1 ?_
    obtain ⟨y5, e_y5, h⟩ := x_lt_elim h
    refine a_callV (pc := 9) (st2 := [.int y5.1]) (vs2 := [y5.2, v1]) X [(0, 0, 4)] [some y5.2] 0 0 8 [.int (1 : Int32)] [] cv_RX8_103 (c_X8_refuse (ad0 := ad0)  e_y5) rfl rfl rfl rfl rfl rfl rfl rfl rfl rfl rfl rfl rfl rfl rfl (Nat.le_of_ble_eq_true rfl) ⟨Nat.le_of_ble_eq_true rfl, Nat.le_of_ble_eq_true rfl⟩ dX8_takeNamed_9 (fun z_9 => ?_)
    refine a_pop (pc := 12) X dX8_takeNamed_12 rfl ?_
    refine a_iconst (pc := 13) X dX8_takeNamed_13 q_ic_m1 ?_
    have h := Option.some.inj h; subst h
    exact a_iret (pc := 14) X trivial dX8_takeNamed_14
theorem dX8_takeNumber_0 : decode cX8_takeNumber 0 = .ok (.aload_n 0, 1) := by decide +kernel
theorem dX8_takeNumber_1 : decode cX8_takeNumber 1 = .ok (.getfield 74, 3) := by decide +kernel
theorem dX8_takeNumber_4 : decode cX8_takeNumber 4 = .ok (.iconst 3, 1) := by decide +kernel
theorem dX8_takeNumber_5 : decode cX8_takeNumber 5 = .ok (.if_icmp .eq 11, 3) := by decide +kernel
theorem dX8_takeNumber_8 : decode cX8_takeNumber 8 = .ok (.aload_n 0, 1) := by decide +kernel
theorem dX8_takeNumber_9 : decode cX8_takeNumber 9 = .ok (.iconst 1, 1) := by decide +kernel
theorem dX8_takeNumber_10 : decode cX8_takeNumber 10 = .ok (.invokevirtual 103, 3) := by decide +kernel
theorem dX8_takeNumber_13 : decode cX8_takeNumber 13 = .ok (.pop, 1) := by decide +kernel
theorem dX8_takeNumber_14 : decode cX8_takeNumber 14 = .ok (.iconst (-1), 1) := by decide +kernel
theorem dX8_takeNumber_15 : decode cX8_takeNumber 15 = .ok (.ireturn, 1) := by decide +kernel
theorem dX8_takeNumber_16 : decode cX8_takeNumber 16 = .ok (.aload_n 0, 1) := by decide +kernel
theorem dX8_takeNumber_17 : decode cX8_takeNumber 17 = .ok (.getfield 89, 3) := by decide +kernel
theorem dX8_takeNumber_20 : decode cX8_takeNumber 20 = .ok (.istore_n 3, 1) := by decide +kernel
theorem dX8_takeNumber_21 : decode cX8_takeNumber 21 = .ok (.iload_n 3, 1) := by decide +kernel
theorem dX8_takeNumber_22 : decode cX8_takeNumber 22 = .ok (.iload_n 1, 1) := by decide +kernel
theorem dX8_takeNumber_23 : decode cX8_takeNumber 23 = .ok (.if_icmp .lt 8, 3) := by decide +kernel
theorem dX8_takeNumber_26 : decode cX8_takeNumber 26 = .ok (.iload_n 3, 1) := by decide +kernel
theorem dX8_takeNumber_27 : decode cX8_takeNumber 27 = .ok (.iload_n 2, 1) := by decide +kernel
theorem dX8_takeNumber_28 : decode cX8_takeNumber 28 = .ok (.if_icmp .le 11, 3) := by decide +kernel
theorem dX8_takeNumber_31 : decode cX8_takeNumber 31 = .ok (.aload_n 0, 1) := by decide +kernel
theorem dX8_takeNumber_32 : decode cX8_takeNumber 32 = .ok (.iconst 2, 1) := by decide +kernel
theorem dX8_takeNumber_33 : decode cX8_takeNumber 33 = .ok (.invokevirtual 103, 3) := by decide +kernel
theorem dX8_takeNumber_36 : decode cX8_takeNumber 36 = .ok (.pop, 1) := by decide +kernel
theorem dX8_takeNumber_37 : decode cX8_takeNumber 37 = .ok (.iconst (-1), 1) := by decide +kernel
theorem dX8_takeNumber_38 : decode cX8_takeNumber 38 = .ok (.ireturn, 1) := by decide +kernel
theorem dX8_takeNumber_39 : decode cX8_takeNumber 39 = .ok (.aload_n 0, 1) := by decide +kernel
theorem dX8_takeNumber_40 : decode cX8_takeNumber 40 = .ok (.invokevirtual 61, 3) := by decide +kernel
theorem dX8_takeNumber_43 : decode cX8_takeNumber 43 = .ok (.iload_n 3, 1) := by decide +kernel
theorem dX8_takeNumber_44 : decode cX8_takeNumber 44 = .ok (.ireturn, 1) := by decide +kernel
def f_X8_takeNumber_31 (w0 : XM) : Option (Int32 × XM) :=
  x_lt (f_X8_refuse w0 (2 : Int32)) (fun y1 =>
  some ((-1 : Int32), y1.2))
def f_X8_takeNumber (v0 : XM) (x0 : Int32) (x1 : Int32) : Option (Int32 × XM) :=
  if ((v0.1 0 6) : Int32) = (3 : Int32) then
  (if ((v0.1 0 7) : Int32) < x0 then
  (f_X8_takeNumber_31   v0)
  else (if ((v0.1 0 7) : Int32) ≤ x1 then
  (x_bo (f_X8_advance v0) (fun y2 =>
  some (v0.1 0 7, y2)))
  else (f_X8_takeNumber_31   v0)))
  else (x_lt (f_X8_refuse v0 (1 : Int32)) (fun y3 =>
  some ((-1 : Int32), y3.2)))
set_option maxRecDepth 100000 in
set_option maxHeartbeats 4000000 in
theorem w_X8_takeNumber_31 {p : Program} {l : Launch} {e : Env} {s : State} {m : MethodId} {args : Array Value} {below : List Frame} {meth : Method} {c : Code} {D : va_G} {tc : Nat → ClassId} {aK aV : Nat → Nat} {A : Nat → Prop} {ad0 : Nat → Nat}  (X : Cx p s m args meth c cX8_takeNumber 4 (some .int) RX8 D tc aK aV A [(shTape, ad0)])  {o : Int32 × XM}  {w0 : XM}  (h : f_X8_takeNumber_31   w0 = some o) : aW p l e (x_Rm 3) s m args below meth c D tc A 4 [(shTape, ad0)] (some (.int o.1)) True [o.2] 31 [(0, .ref (ad0 0))] [] [w0] := by
  unfold f_X8_takeNumber_31 at h
  refine a_aload_n (pc := 31) X 0 dX8_takeNumber_31 rfl rfl ?_
  refine a_iconst (pc := 32) X dX8_takeNumber_32 q_ic_2 ?_
  obtain ⟨y1, e_y1, h⟩ := x_lt_elim h
  refine a_callV (pc := 33) (st2 := [.int y1.1]) (vs2 := [y1.2]) X [(0, 0, 4)] [some y1.2] 0 0 8 [.int (2 : Int32)] [] cv_RX8_103 (c_X8_refuse (ad0 := ad0)  e_y1) rfl rfl rfl rfl rfl rfl rfl rfl rfl rfl rfl rfl rfl rfl rfl (Nat.le_of_ble_eq_true rfl) ⟨Nat.le_of_ble_eq_true rfl, Nat.le_of_ble_eq_true rfl⟩ dX8_takeNumber_33 (fun z_33 => ?_)
  refine a_pop (pc := 36) X dX8_takeNumber_36 rfl ?_
  refine a_iconst (pc := 37) X dX8_takeNumber_37 q_ic_m1 ?_
  have h := Option.some.inj h; subst h
  exact a_iret (pc := 38) X trivial dX8_takeNumber_38
set_option maxRecDepth 100000 in
set_option maxHeartbeats 4000000 in
theorem c_X8_takeNumber {l : Launch}  {ad0 : Nat → Nat} {v0 : XM} {x0 : Int32} {x1 : Int32}  {o : Int32 × XM} (h : f_X8_takeNumber v0 x0 x1 = some o) : CT l yX8_takeNumber cX8_takeNumber 4 (some .int) 3 [(shTape, ad0)] [v0] (fun aK => [.ref (ad0 0), .int x0, .int x1]) (some (.int o.1)) True [o.2] := by
  refine CT_of (by decide) (fun _ => Nat.le_of_ble_eq_true rfl) ?_
  intro p e s m args below meth c D tc aK aV A X
  have X : Cx p s m args meth c cX8_takeNumber 4 (some .int) RX8 D tc aK aV A [(shTape, ad0)] := X
  show aW p l e (x_Rm 3) s m args below meth c D tc A 4 [(shTape, ad0)] (some (.int o.1)) True [o.2] 0 [(0, .ref (ad0 0)), (1, .int x0), (2, .int x1)] [] [v0]
  unfold f_X8_takeNumber at h
  refine a_aload_n (pc := 0) X 0 dX8_takeNumber_0 rfl rfl ?_
  refine a_getI (pc := 1) X 0 fl_RX8_74 rfl rfl rfl rfl dX8_takeNumber_1 ?_
  refine a_iconst (pc := 4) X dX8_takeNumber_4 q_ic_3 ?_
  refine a_icmp_eq (pc := 5) X 16 dX8_takeNumber_5 rfl (fun c_5 => ?_) (fun c_5 => ?_)
  · have h := x_ifp c_5 h
    refine a_aload_n (pc := 16) X 0 dX8_takeNumber_16 rfl rfl ?_
    refine a_getI (pc := 17) X 0 fl_RX8_89 rfl rfl rfl rfl dX8_takeNumber_17 ?_
    refine a_istore_n (pc := 20) X [(3, .int (v0.1 0 7)), (0, .ref (ad0 0)), (1, .int x0), (2, .int x1)] dX8_takeNumber_20 rfl (by decide) rfl ?_
    refine a_iload_n (pc := 21) X 0 dX8_takeNumber_21 rfl rfl ?_
    refine a_iload_n (pc := 22) X 2 dX8_takeNumber_22 rfl rfl ?_
    refine a_icmp_lt (pc := 23) X 31 dX8_takeNumber_23 rfl (fun c_23 => ?_) (fun c_23 => ?_)
    · have h := x_ifp c_23 h
      refine a_sub [1] rfl ?_
      exact w_X8_takeNumber_31 X     h
    · have h := x_ifn c_23 h
      refine a_iload_n (pc := 26) X 0 dX8_takeNumber_26 rfl rfl ?_
      refine a_iload_n (pc := 27) X 3 dX8_takeNumber_27 rfl rfl ?_
      refine a_icmp_le (pc := 28) X 39 dX8_takeNumber_28 rfl (fun c_28 => ?_) (fun c_28 => ?_)
      · have h := x_ifp c_28 h
        refine a_aload_n (pc := 39) X 1 dX8_takeNumber_39 rfl rfl ?_
        obtain ⟨y2, e_y2, h⟩ := x_bo_elim h
        refine a_callV (pc := 40) (st2 := []) (vs2 := [y2]) X [(0, 0, 4)] [some y2] 0 0 8 [] [] cv_RX8_61 (c_X8_advance (ad0 := ad0)  e_y2) rfl rfl rfl rfl rfl rfl rfl rfl rfl rfl rfl rfl rfl rfl rfl (Nat.le_of_ble_eq_true rfl) ⟨Nat.le_of_ble_eq_true rfl, Nat.le_of_ble_eq_true rfl⟩ dX8_takeNumber_40 (fun _ => ?_)
        refine a_iload_n (pc := 43) X 0 dX8_takeNumber_43 rfl rfl ?_
        have h := Option.some.inj h; subst h
        exact a_iret (pc := 44) X trivial dX8_takeNumber_44
      · have h := x_ifn c_28 h
        refine a_sub [1] rfl ?_
        exact w_X8_takeNumber_31 X     h
  · have h := x_ifn c_5 h
    refine a_aload_n (pc := 8) X 0 dX8_takeNumber_8 rfl rfl ?_
    refine a_iconst (pc := 9) X dX8_takeNumber_9 q_ic_1 ?_
    obtain ⟨y3, e_y3, h⟩ := x_lt_elim h
    refine a_callV (pc := 10) (st2 := [.int y3.1]) (vs2 := [y3.2]) X [(0, 0, 4)] [some y3.2] 0 0 8 [.int (1 : Int32)] [] cv_RX8_103 (c_X8_refuse (ad0 := ad0)  e_y3) rfl rfl rfl rfl rfl rfl rfl rfl rfl rfl rfl rfl rfl rfl rfl (Nat.le_of_ble_eq_true rfl) ⟨Nat.le_of_ble_eq_true rfl, Nat.le_of_ble_eq_true rfl⟩ dX8_takeNumber_10 (fun z_10 => ?_)
    refine a_pop (pc := 13) X dX8_takeNumber_13 rfl ?_
    refine a_iconst (pc := 14) X dX8_takeNumber_14 q_ic_m1 ?_
    have h := Option.some.inj h; subst h
    exact a_iret (pc := 15) X trivial dX8_takeNumber_15
theorem dX8_takeKind_0 : decode cX8_takeKind 0 = .ok (.aload_n 0, 1) := by decide +kernel
theorem dX8_takeKind_1 : decode cX8_takeKind 1 = .ok (.getfield 71, 3) := by decide +kernel
theorem dX8_takeKind_4 : decode cX8_takeKind 4 = .ok (.bipush 6, 2) := by decide +kernel
theorem dX8_takeKind_6 : decode cX8_takeKind 6 = .ok (.isub, 1) := by decide +kernel
theorem dX8_takeKind_7 : decode cX8_takeKind 7 = .ok (.istore_n 1, 1) := by decide +kernel
theorem dX8_takeKind_8 : decode cX8_takeKind 8 = .ok (.iload_n 1, 1) := by decide +kernel
theorem dX8_takeKind_9 : decode cX8_takeKind 9 = .ok (.ifCond .lt 8, 3) := by decide +kernel
theorem dX8_takeKind_12 : decode cX8_takeKind 12 = .ok (.iload_n 1, 1) := by decide +kernel
theorem dX8_takeKind_13 : decode cX8_takeKind 13 = .ok (.iconst 3, 1) := by decide +kernel
theorem dX8_takeKind_14 : decode cX8_takeKind 14 = .ok (.if_icmp .lt 11, 3) := by decide +kernel
theorem dX8_takeKind_17 : decode cX8_takeKind 17 = .ok (.aload_n 0, 1) := by decide +kernel
theorem dX8_takeKind_18 : decode cX8_takeKind 18 = .ok (.iconst 1, 1) := by decide +kernel
theorem dX8_takeKind_19 : decode cX8_takeKind 19 = .ok (.invokevirtual 103, 3) := by decide +kernel
theorem dX8_takeKind_22 : decode cX8_takeKind 22 = .ok (.pop, 1) := by decide +kernel
theorem dX8_takeKind_23 : decode cX8_takeKind 23 = .ok (.iconst (-1), 1) := by decide +kernel
theorem dX8_takeKind_24 : decode cX8_takeKind 24 = .ok (.ireturn, 1) := by decide +kernel
theorem dX8_takeKind_25 : decode cX8_takeKind 25 = .ok (.aload_n 0, 1) := by decide +kernel
theorem dX8_takeKind_26 : decode cX8_takeKind 26 = .ok (.invokevirtual 61, 3) := by decide +kernel
theorem dX8_takeKind_29 : decode cX8_takeKind 29 = .ok (.iload_n 1, 1) := by decide +kernel
theorem dX8_takeKind_30 : decode cX8_takeKind 30 = .ok (.ireturn, 1) := by decide +kernel
def f_X8_takeKind_17 (w0 : XM) : Option (Int32 × XM) :=
  x_lt (f_X8_refuse w0 (1 : Int32)) (fun y1 =>
  some ((-1 : Int32), y1.2))
def f_X8_takeKind (v0 : XM) : Option (Int32 × XM) :=
  if ((v0.1 0 8) - (6 : Int32)) < (0 : Int32) then
  (f_X8_takeKind_17   v0)
  else (if (((v0.1 0 8) - (6 : Int32)) : Int32) < (3 : Int32) then
  (x_bo (f_X8_advance v0) (fun y2 =>
  some ((v0.1 0 8) - (6 : Int32), y2)))
  else (f_X8_takeKind_17   v0))
set_option maxRecDepth 100000 in
set_option maxHeartbeats 4000000 in
theorem w_X8_takeKind_17 {p : Program} {l : Launch} {e : Env} {s : State} {m : MethodId} {args : Array Value} {below : List Frame} {meth : Method} {c : Code} {D : va_G} {tc : Nat → ClassId} {aK aV : Nat → Nat} {A : Nat → Prop} {ad0 : Nat → Nat}  (X : Cx p s m args meth c cX8_takeKind 2 (some .int) RX8 D tc aK aV A [(shTape, ad0)])  {o : Int32 × XM}  {w0 : XM}  (h : f_X8_takeKind_17   w0 = some o) : aW p l e (x_Rm 3) s m args below meth c D tc A 2 [(shTape, ad0)] (some (.int o.1)) True [o.2] 17 [(0, .ref (ad0 0))] [] [w0] := by
  unfold f_X8_takeKind_17 at h
  refine a_aload_n (pc := 17) X 0 dX8_takeKind_17 rfl rfl ?_
  refine a_iconst (pc := 18) X dX8_takeKind_18 q_ic_1 ?_
  obtain ⟨y1, e_y1, h⟩ := x_lt_elim h
  refine a_callV (pc := 19) (st2 := [.int y1.1]) (vs2 := [y1.2]) X [(0, 0, 4)] [some y1.2] 0 0 8 [.int (1 : Int32)] [] cv_RX8_103 (c_X8_refuse (ad0 := ad0)  e_y1) rfl rfl rfl rfl rfl rfl rfl rfl rfl rfl rfl rfl rfl rfl rfl (Nat.le_of_ble_eq_true rfl) ⟨Nat.le_of_ble_eq_true rfl, Nat.le_of_ble_eq_true rfl⟩ dX8_takeKind_19 (fun z_19 => ?_)
  refine a_pop (pc := 22) X dX8_takeKind_22 rfl ?_
  refine a_iconst (pc := 23) X dX8_takeKind_23 q_ic_m1 ?_
  have h := Option.some.inj h; subst h
  exact a_iret (pc := 24) X trivial dX8_takeKind_24
set_option maxRecDepth 100000 in
set_option maxHeartbeats 4000000 in
theorem c_X8_takeKind {l : Launch}  {ad0 : Nat → Nat} {v0 : XM}   {o : Int32 × XM} (h : f_X8_takeKind v0 = some o) : CT l yX8_takeKind cX8_takeKind 2 (some .int) 3 [(shTape, ad0)] [v0] (fun aK => [.ref (ad0 0)]) (some (.int o.1)) True [o.2] := by
  refine CT_of (by decide) (fun _ => Nat.le_of_ble_eq_true rfl) ?_
  intro p e s m args below meth c D tc aK aV A X
  have X : Cx p s m args meth c cX8_takeKind 2 (some .int) RX8 D tc aK aV A [(shTape, ad0)] := X
  show aW p l e (x_Rm 3) s m args below meth c D tc A 2 [(shTape, ad0)] (some (.int o.1)) True [o.2] 0 [(0, .ref (ad0 0))] [] [v0]
  unfold f_X8_takeKind at h
  refine a_aload_n (pc := 0) X 0 dX8_takeKind_0 rfl rfl ?_
  refine a_getI (pc := 1) X 0 fl_RX8_71 rfl rfl rfl rfl dX8_takeKind_1 ?_
  refine a_bipush (pc := 4) X dX8_takeKind_4 q_bp_6 ?_
  refine a_isub (pc := 6) X dX8_takeKind_6 ?_
  refine a_istore_n (pc := 7) X [(1, .int ((v0.1 0 8) - (6 : Int32))), (0, .ref (ad0 0))] dX8_takeKind_7 rfl (by decide) rfl ?_
  refine a_iload_n (pc := 8) X 0 dX8_takeKind_8 rfl rfl ?_
  refine a_if_lt (pc := 9) X 17 dX8_takeKind_9 rfl (fun c_9 => ?_) (fun c_9 => ?_)
  · have h := x_ifp c_9 h
    refine a_sub [1] rfl ?_
    exact w_X8_takeKind_17 X     h
  · have h := x_ifn c_9 h
    refine a_iload_n (pc := 12) X 0 dX8_takeKind_12 rfl rfl ?_
    refine a_iconst (pc := 13) X dX8_takeKind_13 q_ic_3 ?_
    refine a_icmp_lt (pc := 14) X 25 dX8_takeKind_14 rfl (fun c_14 => ?_) (fun c_14 => ?_)
    · have h := x_ifp c_14 h
      refine a_aload_n (pc := 25) X 1 dX8_takeKind_25 rfl rfl ?_
      obtain ⟨y2, e_y2, h⟩ := x_bo_elim h
      refine a_callV (pc := 26) (st2 := []) (vs2 := [y2]) X [(0, 0, 4)] [some y2] 0 0 8 [] [] cv_RX8_61 (c_X8_advance (ad0 := ad0)  e_y2) rfl rfl rfl rfl rfl rfl rfl rfl rfl rfl rfl rfl rfl rfl rfl (Nat.le_of_ble_eq_true rfl) ⟨Nat.le_of_ble_eq_true rfl, Nat.le_of_ble_eq_true rfl⟩ dX8_takeKind_26 (fun _ => ?_)
      refine a_iload_n (pc := 29) X 0 dX8_takeKind_29 rfl rfl ?_
      have h := Option.some.inj h; subst h
      exact a_iret (pc := 30) X trivial dX8_takeKind_30
    · have h := x_ifn c_14 h
      refine a_sub [1] rfl ?_
      exact w_X8_takeKind_17 X     h
theorem dX0_takeWhat_0 : decode cX0_takeWhat 0 = .ok (.iload_n 2, 1) := by decide +kernel
theorem dX0_takeWhat_1 : decode cX0_takeWhat 1 = .ok (.tableswitch 87 9 16 #[47, 55, 65, 87, 47, 47, 74, 79], 47) := by decide +kernel
theorem dX0_takeWhat_48 : decode cX0_takeWhat 48 = .ok (.aload_n 0, 1) := by decide +kernel
theorem dX0_takeWhat_49 : decode cX0_takeWhat 49 = .ok (.iconst 0, 1) := by decide +kernel
theorem dX0_takeWhat_50 : decode cX0_takeWhat 50 = .ok (.bipush 11, 2) := by decide +kernel
theorem dX0_takeWhat_52 : decode cX0_takeWhat 52 = .ok (.invokevirtual 74, 3) := by decide +kernel
theorem dX0_takeWhat_55 : decode cX0_takeWhat 55 = .ok (.ireturn, 1) := by decide +kernel
theorem dX0_takeWhat_56 : decode cX0_takeWhat 56 = .ok (.aload_n 0, 1) := by decide +kernel
theorem dX0_takeWhat_57 : decode cX0_takeWhat 57 = .ok (.aload_n 1, 1) := by decide +kernel
theorem dX0_takeWhat_58 : decode cX0_takeWhat 58 = .ok (.bipush 8, 2) := by decide +kernel
theorem dX0_takeWhat_60 : decode cX0_takeWhat 60 = .ok (.bipush 6, 2) := by decide +kernel
theorem dX0_takeWhat_62 : decode cX0_takeWhat 62 = .ok (.invokevirtual 55, 3) := by decide +kernel
theorem dX0_takeWhat_65 : decode cX0_takeWhat 65 = .ok (.ireturn, 1) := by decide +kernel
theorem dX0_takeWhat_66 : decode cX0_takeWhat 66 = .ok (.aload_n 0, 1) := by decide +kernel
theorem dX0_takeWhat_67 : decode cX0_takeWhat 67 = .ok (.aload_n 1, 1) := by decide +kernel
theorem dX0_takeWhat_68 : decode cX0_takeWhat 68 = .ok (.bipush 14, 2) := by decide +kernel
theorem dX0_takeWhat_70 : decode cX0_takeWhat 70 = .ok (.iconst 5, 1) := by decide +kernel
theorem dX0_takeWhat_71 : decode cX0_takeWhat 71 = .ok (.invokevirtual 55, 3) := by decide +kernel
theorem dX0_takeWhat_74 : decode cX0_takeWhat 74 = .ok (.ireturn, 1) := by decide +kernel
theorem dX0_takeWhat_75 : decode cX0_takeWhat 75 = .ok (.aload_n 0, 1) := by decide +kernel
theorem dX0_takeWhat_76 : decode cX0_takeWhat 76 = .ok (.invokevirtual 82, 3) := by decide +kernel
theorem dX0_takeWhat_79 : decode cX0_takeWhat 79 = .ok (.ireturn, 1) := by decide +kernel
theorem dX0_takeWhat_80 : decode cX0_takeWhat 80 = .ok (.aload_n 0, 1) := by decide +kernel
theorem dX0_takeWhat_81 : decode cX0_takeWhat 81 = .ok (.iconst 1, 1) := by decide +kernel
theorem dX0_takeWhat_82 : decode cX0_takeWhat 82 = .ok (.bipush 60, 2) := by decide +kernel
theorem dX0_takeWhat_84 : decode cX0_takeWhat 84 = .ok (.invokevirtual 74, 3) := by decide +kernel
theorem dX0_takeWhat_87 : decode cX0_takeWhat 87 = .ok (.ireturn, 1) := by decide +kernel
theorem dX0_takeWhat_88 : decode cX0_takeWhat 88 = .ok (.iconst 0, 1) := by decide +kernel
theorem dX0_takeWhat_89 : decode cX0_takeWhat 89 = .ok (.ireturn, 1) := by decide +kernel
def f_X0_takeWhat (v0 : XM) (v1 : XM) (x2 : Int32) : Option (Int32 × XM) :=
  if x2 = (9 : Int32) then
  (x_bo (f_X8_takeNumber v0 (0 : Int32) (11 : Int32)) (fun y2 =>
  some (y2.1, y2.2)))
  else (if x2 = (10 : Int32) then
  (x_bo (f_X8_takeNamed v0 v1 (8 : Int32) (6 : Int32)) (fun y3 =>
  some (y3.1, y3.2)))
  else (if x2 = (11 : Int32) then
  (x_bo (f_X8_takeNamed v0 v1 (14 : Int32) (5 : Int32)) (fun y4 =>
  some (y4.1, y4.2)))
  else (if x2 = (12 : Int32) then
  (some ((0 : Int32), v0))
  else (if x2 = (13 : Int32) then
  (x_bo (f_X8_takeNumber v0 (0 : Int32) (11 : Int32)) (fun y5 =>
  some (y5.1, y5.2)))
  else (if x2 = (14 : Int32) then
  (x_bo (f_X8_takeNumber v0 (0 : Int32) (11 : Int32)) (fun y6 =>
  some (y6.1, y6.2)))
  else (if x2 = (15 : Int32) then
  (x_bo (f_X8_takeKind v0) (fun y7 =>
  some (y7.1, y7.2)))
  else (if x2 = (16 : Int32) then
  (x_bo (f_X8_takeNumber v0 (1 : Int32) (60 : Int32)) (fun y8 =>
  some (y8.1, y8.2)))
  else (some ((0 : Int32), v0)))))))))
set_option maxRecDepth 100000 in
set_option maxHeartbeats 4000000 in
theorem c_X0_takeWhat {l : Launch}  {ad0 : Nat → Nat} {ad1 : Nat → Nat} {v0 v1 : XM} {x2 : Int32}  {o : Int32 × XM} (h : f_X0_takeWhat v0 v1 x2 = some o) : CT l yX0_takeWhat cX0_takeWhat 3 (some .int) 4 [(shTape, ad0), (shValley, ad1)] [v0, v1] (fun aK => [.ref (ad0 0), .ref (ad1 0), .int x2]) (some (.int o.1)) True [o.2, v1] := by
  refine CT_of (by decide) (fun _ => Nat.le_of_ble_eq_true rfl) ?_
  intro p e s m args below meth c D tc aK aV A X
  have X : Cx p s m args meth c cX0_takeWhat 3 (some .int) RX0 D tc aK aV A [(shTape, ad0), (shValley, ad1)] := X
  show aW p l e (x_Rm 4) s m args below meth c D tc A 3 [(shTape, ad0), (shValley, ad1)] (some (.int o.1)) True [o.2, v1] 0 [(0, .ref (ad0 0)), (1, .ref (ad1 0)), (2, .int x2)] [] [v0, v1]
  unfold f_X0_takeWhat at h
  refine a_iload_n (pc := 0) X 2 dX0_takeWhat_0 rfl rfl ?_
  by_cases c_1_9 : x2 = (9 : Int32)
  · have h := x_ifp c_1_9 h
    refine a_tin (pc := 1) X 48 dX0_takeWhat_1 c_1_9 (by decide) (by decide) rfl rfl ?_
    refine a_aload_n (pc := 48) X 0 dX0_takeWhat_48 rfl rfl ?_
    refine a_iconst (pc := 49) X dX0_takeWhat_49 q_ic_0 ?_
    refine a_bipush (pc := 50) X dX0_takeWhat_50 q_bp_11 ?_
    obtain ⟨y2, e_y2, h⟩ := x_bo_elim h
    refine a_callV (pc := 52) (st2 := [.int y2.1]) (vs2 := [y2.2, v1]) X [(0, 0, 4)] [some y2.2] 0 0 8 [.int (0 : Int32), .int (11 : Int32)] [] cv_RX0_74 (c_X8_takeNumber (ad0 := ad0)  e_y2) rfl rfl rfl rfl rfl rfl rfl rfl rfl rfl rfl rfl rfl rfl rfl (Nat.le_of_ble_eq_true rfl) ⟨Nat.le_of_ble_eq_true rfl, Nat.le_of_ble_eq_true rfl⟩ dX0_takeWhat_52 (fun _ => ?_)
    have h := Option.some.inj h; subst h
    exact a_iret (pc := 55) X trivial dX0_takeWhat_55
  · have h := x_ifn c_1_9 h
    by_cases c_1_10 : x2 = (10 : Int32)
    · have h := x_ifp c_1_10 h
      refine a_tin (pc := 1) X 56 dX0_takeWhat_1 c_1_10 (by decide) (by decide) rfl rfl ?_
      refine a_aload_n (pc := 56) X 0 dX0_takeWhat_56 rfl rfl ?_
      refine a_aload_n (pc := 57) X 1 dX0_takeWhat_57 rfl rfl ?_
      refine a_bipush (pc := 58) X dX0_takeWhat_58 q_bp_8 ?_
      refine a_bipush (pc := 60) X dX0_takeWhat_60 q_bp_6 ?_
      obtain ⟨y3, e_y3, h⟩ := x_bo_elim h
      refine a_callV (pc := 62) (st2 := [.int y3.1]) (vs2 := [y3.2, v1]) X [(0, 0, 4), (1, 0, 16)] [some y3.2, none] 0 0 8 [.ref (ad1 0), .int (8 : Int32), .int (6 : Int32)] [] cv_RX0_55 (c_X8_takeNamed (ad0 := ad0) (ad1 := ad1)  e_y3) rfl rfl rfl rfl rfl rfl rfl rfl rfl rfl rfl rfl rfl rfl rfl (Nat.le_of_ble_eq_true rfl) ⟨Nat.le_of_ble_eq_true rfl, Nat.le_of_ble_eq_true rfl⟩ dX0_takeWhat_62 (fun _ => ?_)
      have h := Option.some.inj h; subst h
      exact a_iret (pc := 65) X trivial dX0_takeWhat_65
    · have h := x_ifn c_1_10 h
      by_cases c_1_11 : x2 = (11 : Int32)
      · have h := x_ifp c_1_11 h
        refine a_tin (pc := 1) X 66 dX0_takeWhat_1 c_1_11 (by decide) (by decide) rfl rfl ?_
        refine a_aload_n (pc := 66) X 0 dX0_takeWhat_66 rfl rfl ?_
        refine a_aload_n (pc := 67) X 1 dX0_takeWhat_67 rfl rfl ?_
        refine a_bipush (pc := 68) X dX0_takeWhat_68 q_bp_14 ?_
        refine a_iconst (pc := 70) X dX0_takeWhat_70 q_ic_5 ?_
        obtain ⟨y4, e_y4, h⟩ := x_bo_elim h
        refine a_callV (pc := 71) (st2 := [.int y4.1]) (vs2 := [y4.2, v1]) X [(0, 0, 4), (1, 0, 16)] [some y4.2, none] 0 0 8 [.ref (ad1 0), .int (14 : Int32), .int (5 : Int32)] [] cv_RX0_55 (c_X8_takeNamed (ad0 := ad0) (ad1 := ad1)  e_y4) rfl rfl rfl rfl rfl rfl rfl rfl rfl rfl rfl rfl rfl rfl rfl (Nat.le_of_ble_eq_true rfl) ⟨Nat.le_of_ble_eq_true rfl, Nat.le_of_ble_eq_true rfl⟩ dX0_takeWhat_71 (fun _ => ?_)
        have h := Option.some.inj h; subst h
        exact a_iret (pc := 74) X trivial dX0_takeWhat_74
      · have h := x_ifn c_1_11 h
        by_cases c_1_12 : x2 = (12 : Int32)
        · have h := x_ifp c_1_12 h
          refine a_tin (pc := 1) X 88 dX0_takeWhat_1 c_1_12 (by decide) (by decide) rfl rfl ?_
          refine a_iconst (pc := 88) X dX0_takeWhat_88 q_ic_0 ?_
          have h := Option.some.inj h; subst h
          exact a_iret (pc := 89) X trivial dX0_takeWhat_89
        · have h := x_ifn c_1_12 h
          by_cases c_1_13 : x2 = (13 : Int32)
          · have h := x_ifp c_1_13 h
            refine a_tin (pc := 1) X 48 dX0_takeWhat_1 c_1_13 (by decide) (by decide) rfl rfl ?_
            refine a_aload_n (pc := 48) X 0 dX0_takeWhat_48 rfl rfl ?_
            refine a_iconst (pc := 49) X dX0_takeWhat_49 q_ic_0 ?_
            refine a_bipush (pc := 50) X dX0_takeWhat_50 q_bp_11 ?_
            obtain ⟨y5, e_y5, h⟩ := x_bo_elim h
            refine a_callV (pc := 52) (st2 := [.int y5.1]) (vs2 := [y5.2, v1]) X [(0, 0, 4)] [some y5.2] 0 0 8 [.int (0 : Int32), .int (11 : Int32)] [] cv_RX0_74 (c_X8_takeNumber (ad0 := ad0)  e_y5) rfl rfl rfl rfl rfl rfl rfl rfl rfl rfl rfl rfl rfl rfl rfl (Nat.le_of_ble_eq_true rfl) ⟨Nat.le_of_ble_eq_true rfl, Nat.le_of_ble_eq_true rfl⟩ dX0_takeWhat_52 (fun _ => ?_)
            have h := Option.some.inj h; subst h
            exact a_iret (pc := 55) X trivial dX0_takeWhat_55
          · have h := x_ifn c_1_13 h
            by_cases c_1_14 : x2 = (14 : Int32)
            · have h := x_ifp c_1_14 h
              refine a_tin (pc := 1) X 48 dX0_takeWhat_1 c_1_14 (by decide) (by decide) rfl rfl ?_
              refine a_aload_n (pc := 48) X 0 dX0_takeWhat_48 rfl rfl ?_
              refine a_iconst (pc := 49) X dX0_takeWhat_49 q_ic_0 ?_
              refine a_bipush (pc := 50) X dX0_takeWhat_50 q_bp_11 ?_
              obtain ⟨y6, e_y6, h⟩ := x_bo_elim h
              refine a_callV (pc := 52) (st2 := [.int y6.1]) (vs2 := [y6.2, v1]) X [(0, 0, 4)] [some y6.2] 0 0 8 [.int (0 : Int32), .int (11 : Int32)] [] cv_RX0_74 (c_X8_takeNumber (ad0 := ad0)  e_y6) rfl rfl rfl rfl rfl rfl rfl rfl rfl rfl rfl rfl rfl rfl rfl (Nat.le_of_ble_eq_true rfl) ⟨Nat.le_of_ble_eq_true rfl, Nat.le_of_ble_eq_true rfl⟩ dX0_takeWhat_52 (fun _ => ?_)
              have h := Option.some.inj h; subst h
              exact a_iret (pc := 55) X trivial dX0_takeWhat_55
            · have h := x_ifn c_1_14 h
              by_cases c_1_15 : x2 = (15 : Int32)
              · have h := x_ifp c_1_15 h
                refine a_tin (pc := 1) X 75 dX0_takeWhat_1 c_1_15 (by decide) (by decide) rfl rfl ?_
                refine a_aload_n (pc := 75) X 0 dX0_takeWhat_75 rfl rfl ?_
                obtain ⟨y7, e_y7, h⟩ := x_bo_elim h
                refine a_callV (pc := 76) (st2 := [.int y7.1]) (vs2 := [y7.2, v1]) X [(0, 0, 4)] [some y7.2] 0 0 8 [] [] cv_RX0_82 (c_X8_takeKind (ad0 := ad0)  e_y7) rfl rfl rfl rfl rfl rfl rfl rfl rfl rfl rfl rfl rfl rfl rfl (Nat.le_of_ble_eq_true rfl) ⟨Nat.le_of_ble_eq_true rfl, Nat.le_of_ble_eq_true rfl⟩ dX0_takeWhat_76 (fun _ => ?_)
                have h := Option.some.inj h; subst h
                exact a_iret (pc := 79) X trivial dX0_takeWhat_79
              · have h := x_ifn c_1_15 h
                by_cases c_1_16 : x2 = (16 : Int32)
                · have h := x_ifp c_1_16 h
                  refine a_tin (pc := 1) X 80 dX0_takeWhat_1 c_1_16 (by decide) (by decide) rfl rfl ?_
                  refine a_aload_n (pc := 80) X 0 dX0_takeWhat_80 rfl rfl ?_
                  refine a_iconst (pc := 81) X dX0_takeWhat_81 q_ic_1 ?_
                  refine a_bipush (pc := 82) X dX0_takeWhat_82 q_bp_60 ?_
                  obtain ⟨y8, e_y8, h⟩ := x_bo_elim h
                  refine a_callV (pc := 84) (st2 := [.int y8.1]) (vs2 := [y8.2, v1]) X [(0, 0, 4)] [some y8.2] 0 0 8 [.int (1 : Int32), .int (60 : Int32)] [] cv_RX0_74 (c_X8_takeNumber (ad0 := ad0)  e_y8) rfl rfl rfl rfl rfl rfl rfl rfl rfl rfl rfl rfl rfl rfl rfl (Nat.le_of_ble_eq_true rfl) ⟨Nat.le_of_ble_eq_true rfl, Nat.le_of_ble_eq_true rfl⟩ dX0_takeWhat_84 (fun _ => ?_)
                  have h := Option.some.inj h; subst h
                  exact a_iret (pc := 87) X trivial dX0_takeWhat_87
                · have h := x_ifn c_1_16 h
                  refine a_tout (pc := 1) X 88 dX0_takeWhat_1 (by have q0 := x_ne c_1_9; have q1 := x_ne c_1_10; have q2 := x_ne c_1_11; have q3 := x_ne c_1_12; have q4 := x_ne c_1_13; have q5 := x_ne c_1_14; have q6 := x_ne c_1_15; have q7 := x_ne c_1_16; have q0 : (x2 : Int32).toInt ≠ 9 := q0; have q1 : (x2 : Int32).toInt ≠ 10 := q1; have q2 : (x2 : Int32).toInt ≠ 11 := q2; have q3 : (x2 : Int32).toInt ≠ 12 := q3; have q4 : (x2 : Int32).toInt ≠ 13 := q4; have q5 : (x2 : Int32).toInt ≠ 14 := q5; have q6 : (x2 : Int32).toInt ≠ 15 := q6; have q7 : (x2 : Int32).toInt ≠ 16 := q7; omega) rfl ?_
                  refine a_iconst (pc := 88) X dX0_takeWhat_88 q_ic_0 ?_
                  have h := Option.some.inj h; subst h
                  exact a_iret (pc := 89) X trivial dX0_takeWhat_89
theorem dX0_readLine_0 : decode cX0_readLine 0 = .ok (.aload_n 1, 1) := by decide +kernel
theorem dX0_readLine_1 : decode cX0_readLine 1 = .ok (.getfield 49, 3) := by decide +kernel
theorem dX0_readLine_4 : decode cX0_readLine 4 = .ok (.istore_n 3, 1) := by decide +kernel
theorem dX0_readLine_5 : decode cX0_readLine 5 = .ok (.aload_n 1, 1) := by decide +kernel
theorem dX0_readLine_6 : decode cX0_readLine 6 = .ok (.getfield 52, 3) := by decide +kernel
theorem dX0_readLine_9 : decode cX0_readLine 9 = .ok (.bipush 13, 2) := by decide +kernel
theorem dX0_readLine_11 : decode cX0_readLine 11 = .ok (.if_icmp .lt 12, 3) := by decide +kernel
theorem dX0_readLine_14 : decode cX0_readLine 14 = .ok (.aload_n 1, 1) := by decide +kernel
theorem dX0_readLine_15 : decode cX0_readLine 15 = .ok (.getfield 52, 3) := by decide +kernel
theorem dX0_readLine_18 : decode cX0_readLine 18 = .ok (.bipush 16, 2) := by decide +kernel
theorem dX0_readLine_20 : decode cX0_readLine 20 = .ok (.if_icmp .le 7, 3) := by decide +kernel
theorem dX0_readLine_23 : decode cX0_readLine 23 = .ok (.iconst 1, 1) := by decide +kernel
theorem dX0_readLine_24 : decode cX0_readLine 24 = .ok (.goto 4, 3) := by decide +kernel
theorem dX0_readLine_27 : decode cX0_readLine 27 = .ok (.iconst 0, 1) := by decide +kernel
theorem dX0_readLine_28 : decode cX0_readLine 28 = .ok (.istore 4, 2) := by decide +kernel
theorem dX0_readLine_30 : decode cX0_readLine 30 = .ok (.iconst 0, 1) := by decide +kernel
theorem dX0_readLine_31 : decode cX0_readLine 31 = .ok (.istore 5, 2) := by decide +kernel
theorem dX0_readLine_33 : decode cX0_readLine 33 = .ok (.iload 4, 2) := by decide +kernel
theorem dX0_readLine_35 : decode cX0_readLine 35 = .ok (.ifCond .eq 21, 3) := by decide +kernel
theorem dX0_readLine_38 : decode cX0_readLine 38 = .ok (.aload_n 1, 1) := by decide +kernel
theorem dX0_readLine_39 : decode cX0_readLine 39 = .ok (.aload_n 2, 1) := by decide +kernel
theorem dX0_readLine_40 : decode cX0_readLine 40 = .ok (.bipush 14, 2) := by decide +kernel
theorem dX0_readLine_42 : decode cX0_readLine 42 = .ok (.iconst 5, 1) := by decide +kernel
theorem dX0_readLine_43 : decode cX0_readLine 43 = .ok (.invokevirtual 55, 3) := by decide +kernel
theorem dX0_readLine_46 : decode cX0_readLine 46 = .ok (.istore 5, 2) := by decide +kernel
theorem dX0_readLine_48 : decode cX0_readLine 48 = .ok (.iload 5, 2) := by decide +kernel
theorem dX0_readLine_50 : decode cX0_readLine 50 = .ok (.iconst (-1), 1) := by decide +kernel
theorem dX0_readLine_51 : decode cX0_readLine 51 = .ok (.if_icmp .ne 5, 3) := by decide +kernel
theorem dX0_readLine_54 : decode cX0_readLine 54 = .ok (.iconst 0, 1) := by decide +kernel
theorem dX0_readLine_55 : decode cX0_readLine 55 = .ok (.ireturn, 1) := by decide +kernel
theorem dX0_readLine_56 : decode cX0_readLine 56 = .ok (.aload_n 0, 1) := by decide +kernel
theorem dX0_readLine_57 : decode cX0_readLine 57 = .ok (.getfield 29, 3) := by decide +kernel
theorem dX0_readLine_60 : decode cX0_readLine 60 = .ok (.bipush 40, 2) := by decide +kernel
theorem dX0_readLine_62 : decode cX0_readLine 62 = .ok (.if_icmp .lt 10, 3) := by decide +kernel
theorem dX0_readLine_65 : decode cX0_readLine 65 = .ok (.aload_n 1, 1) := by decide +kernel
theorem dX0_readLine_66 : decode cX0_readLine 66 = .ok (.iconst 4, 1) := by decide +kernel
theorem dX0_readLine_67 : decode cX0_readLine 67 = .ok (.iload_n 3, 1) := by decide +kernel
theorem dX0_readLine_68 : decode cX0_readLine 68 = .ok (.invokevirtual 59, 3) := by decide +kernel
theorem dX0_readLine_71 : decode cX0_readLine 71 = .ok (.ireturn, 1) := by decide +kernel
theorem dX0_readLine_72 : decode cX0_readLine 72 = .ok (.aload_n 1, 1) := by decide +kernel
theorem dX0_readLine_73 : decode cX0_readLine 73 = .ok (.getfield 52, 3) := by decide +kernel
theorem dX0_readLine_76 : decode cX0_readLine 76 = .ok (.istore 6, 2) := by decide +kernel
theorem dX0_readLine_78 : decode cX0_readLine 78 = .ok (.iload 4, 2) := by decide +kernel
theorem dX0_readLine_80 : decode cX0_readLine 80 = .ok (.ifCond .eq 23, 3) := by decide +kernel
theorem dX0_readLine_83 : decode cX0_readLine 83 = .ok (.iload 6, 2) := by decide +kernel
theorem dX0_readLine_85 : decode cX0_readLine 85 = .ok (.bipush 9, 2) := by decide +kernel
theorem dX0_readLine_87 : decode cX0_readLine 87 = .ok (.if_icmp .lt 10, 3) := by decide +kernel
theorem dX0_readLine_90 : decode cX0_readLine 90 = .ok (.iload 6, 2) := by decide +kernel
theorem dX0_readLine_92 : decode cX0_readLine 92 = .ok (.bipush 12, 2) := by decide +kernel
theorem dX0_readLine_94 : decode cX0_readLine 94 = .ok (.if_icmp .le 9, 3) := by decide +kernel
theorem dX0_readLine_97 : decode cX0_readLine 97 = .ok (.aload_n 1, 1) := by decide +kernel
theorem dX0_readLine_98 : decode cX0_readLine 98 = .ok (.iconst 1, 1) := by decide +kernel
theorem dX0_readLine_99 : decode cX0_readLine 99 = .ok (.invokevirtual 63, 3) := by decide +kernel
theorem dX0_readLine_102 : decode cX0_readLine 102 = .ok (.ireturn, 1) := by decide +kernel
theorem dX0_readLine_103 : decode cX0_readLine 103 = .ok (.aload_n 1, 1) := by decide +kernel
theorem dX0_readLine_104 : decode cX0_readLine 104 = .ok (.invokevirtual 67, 3) := by decide +kernel
theorem dX0_readLine_107 : decode cX0_readLine 107 = .ok (.aload_n 1, 1) := by decide +kernel
theorem dX0_readLine_108 : decode cX0_readLine 108 = .ok (.aload_n 2, 1) := by decide +kernel
theorem dX0_readLine_109 : decode cX0_readLine 109 = .ok (.iload 6, 2) := by decide +kernel
theorem dX0_readLine_111 : decode cX0_readLine 111 = .ok (.invokestatic 70, 3) := by decide +kernel
theorem dX0_readLine_114 : decode cX0_readLine 114 = .ok (.istore 7, 2) := by decide +kernel
theorem dX0_readLine_116 : decode cX0_readLine 116 = .ok (.iload 7, 2) := by decide +kernel
theorem dX0_readLine_118 : decode cX0_readLine 118 = .ok (.iconst (-1), 1) := by decide +kernel
theorem dX0_readLine_119 : decode cX0_readLine 119 = .ok (.if_icmp .eq 20, 3) := by decide +kernel
theorem dX0_readLine_122 : decode cX0_readLine 122 = .ok (.iload 6, 2) := by decide +kernel
theorem dX0_readLine_124 : decode cX0_readLine 124 = .ok (.bipush 14, 2) := by decide +kernel
theorem dX0_readLine_126 : decode cX0_readLine 126 = .ok (.if_icmp .ne 13, 3) := by decide +kernel
theorem dX0_readLine_129 : decode cX0_readLine 129 = .ok (.aload_n 1, 1) := by decide +kernel
theorem dX0_readLine_130 : decode cX0_readLine 130 = .ok (.iconst 1, 1) := by decide +kernel
theorem dX0_readLine_131 : decode cX0_readLine 131 = .ok (.bipush 30, 2) := by decide +kernel
theorem dX0_readLine_133 : decode cX0_readLine 133 = .ok (.invokevirtual 74, 3) := by decide +kernel
theorem dX0_readLine_136 : decode cX0_readLine 136 = .ok (.goto 4, 3) := by decide +kernel
theorem dX0_readLine_139 : decode cX0_readLine 139 = .ok (.iconst 0, 1) := by decide +kernel
theorem dX0_readLine_140 : decode cX0_readLine 140 = .ok (.istore 8, 2) := by decide +kernel
theorem dX0_readLine_142 : decode cX0_readLine 142 = .ok (.iload 7, 2) := by decide +kernel
theorem dX0_readLine_144 : decode cX0_readLine 144 = .ok (.iconst (-1), 1) := by decide +kernel
theorem dX0_readLine_145 : decode cX0_readLine 145 = .ok (.if_icmp .eq 9, 3) := by decide +kernel
theorem dX0_readLine_148 : decode cX0_readLine 148 = .ok (.iload 8, 2) := by decide +kernel
theorem dX0_readLine_150 : decode cX0_readLine 150 = .ok (.iconst (-1), 1) := by decide +kernel
theorem dX0_readLine_151 : decode cX0_readLine 151 = .ok (.if_icmp .ne 5, 3) := by decide +kernel
theorem dX0_readLine_154 : decode cX0_readLine 154 = .ok (.iconst 0, 1) := by decide +kernel
theorem dX0_readLine_155 : decode cX0_readLine 155 = .ok (.ireturn, 1) := by decide +kernel
theorem dX0_readLine_156 : decode cX0_readLine 156 = .ok (.aload_n 0, 1) := by decide +kernel
theorem dX0_readLine_157 : decode cX0_readLine 157 = .ok (.getfield 14, 3) := by decide +kernel
theorem dX0_readLine_160 : decode cX0_readLine 160 = .ok (.aload_n 0, 1) := by decide +kernel
theorem dX0_readLine_161 : decode cX0_readLine 161 = .ok (.getfield 29, 3) := by decide +kernel
theorem dX0_readLine_164 : decode cX0_readLine 164 = .ok (.iload 6, 2) := by decide +kernel
theorem dX0_readLine_166 : decode cX0_readLine 166 = .ok (.invokevirtual 78, 3) := by decide +kernel
theorem dX0_readLine_169 : decode cX0_readLine 169 = .ok (.aload_n 0, 1) := by decide +kernel
theorem dX0_readLine_170 : decode cX0_readLine 170 = .ok (.getfield 20, 3) := by decide +kernel
theorem dX0_readLine_173 : decode cX0_readLine 173 = .ok (.aload_n 0, 1) := by decide +kernel
theorem dX0_readLine_174 : decode cX0_readLine 174 = .ok (.getfield 29, 3) := by decide +kernel
theorem dX0_readLine_177 : decode cX0_readLine 177 = .ok (.iload 5, 2) := by decide +kernel
theorem dX0_readLine_179 : decode cX0_readLine 179 = .ok (.invokevirtual 78, 3) := by decide +kernel
theorem dX0_readLine_182 : decode cX0_readLine 182 = .ok (.aload_n 0, 1) := by decide +kernel
theorem dX0_readLine_183 : decode cX0_readLine 183 = .ok (.getfield 23, 3) := by decide +kernel
theorem dX0_readLine_186 : decode cX0_readLine 186 = .ok (.aload_n 0, 1) := by decide +kernel
theorem dX0_readLine_187 : decode cX0_readLine 187 = .ok (.getfield 29, 3) := by decide +kernel
theorem dX0_readLine_190 : decode cX0_readLine 190 = .ok (.iload 7, 2) := by decide +kernel
theorem dX0_readLine_192 : decode cX0_readLine 192 = .ok (.invokevirtual 78, 3) := by decide +kernel
theorem dX0_readLine_195 : decode cX0_readLine 195 = .ok (.aload_n 0, 1) := by decide +kernel
theorem dX0_readLine_196 : decode cX0_readLine 196 = .ok (.getfield 26, 3) := by decide +kernel
theorem dX0_readLine_199 : decode cX0_readLine 199 = .ok (.aload_n 0, 1) := by decide +kernel
theorem dX0_readLine_200 : decode cX0_readLine 200 = .ok (.getfield 29, 3) := by decide +kernel
theorem dX0_readLine_203 : decode cX0_readLine 203 = .ok (.iload 8, 2) := by decide +kernel
theorem dX0_readLine_205 : decode cX0_readLine 205 = .ok (.invokevirtual 78, 3) := by decide +kernel
theorem dX0_readLine_208 : decode cX0_readLine 208 = .ok (.aload_n 0, 1) := by decide +kernel
theorem dX0_readLine_209 : decode cX0_readLine 209 = .ok (.dup, 1) := by decide +kernel
theorem dX0_readLine_210 : decode cX0_readLine 210 = .ok (.getfield 29, 3) := by decide +kernel
theorem dX0_readLine_213 : decode cX0_readLine 213 = .ok (.iconst 1, 1) := by decide +kernel
theorem dX0_readLine_214 : decode cX0_readLine 214 = .ok (.iadd, 1) := by decide +kernel
theorem dX0_readLine_215 : decode cX0_readLine 215 = .ok (.putfield 29, 3) := by decide +kernel
theorem dX0_readLine_218 : decode cX0_readLine 218 = .ok (.iconst 1, 1) := by decide +kernel
theorem dX0_readLine_219 : decode cX0_readLine 219 = .ok (.ireturn, 1) := by decide +kernel
def f_X0_readLine_97 (v2 : XM) (w0 : XM) (w1 : XM) : Option (Int32 × XM × XM) :=
  x_lt (f_X8_refuse w1 (1 : Int32)) (fun y1 =>
  some (y1.1, w0, y1.2))
def f_X0_readLine_140 (v2 : XM) (w0 : XM) (w1 : XM) (l5 : Int32) (l6 : Int32) (l7 : Int32) (s0 : Int32) : Option (Int32 × XM × XM) :=
  if (l7 : Int32) = (-1 : Int32) then
  (some ((0 : Int32), w0, w1))
  else (if (s0 : Int32) = (-1 : Int32) then
  (some ((0 : Int32), w0, w1))
  else (x_lt (r_put 40 (x_sub w0 1) (w0.1 0 4) l6) (fun y2 =>
  x_lt (x_put w0 1 2 y2) (fun m3 =>
  x_lt (r_put 40 (x_sub m3 3) (m3.1 0 4) l5) (fun y4 =>
  x_lt (x_put m3 3 2 y4) (fun m5 =>
  x_lt (r_put 40 (x_sub m5 5) (m5.1 0 4) l7) (fun y6 =>
  x_lt (x_put m5 5 2 y6) (fun m7 =>
  x_lt (r_put 40 (x_sub m7 7) (m7.1 0 4) s0) (fun y8 =>
  x_lt (x_put m7 7 2 y8) (fun m9 =>
  x_lt (x_si m9 0 4 ((m9.1 0 4) + (1 : Int32))) (fun m10 =>
  some ((1 : Int32), m10, w1))))))))))))
def f_X0_readLine_139 (v2 : XM) (w0 : XM) (w1 : XM) (l5 : Int32) (l6 : Int32) (l7 : Int32) : Option (Int32 × XM × XM) :=
  f_X0_readLine_140 v2  w0 w1 l5 l6 l7 (0 : Int32)
def f_X0_readLine_103 (v2 : XM) (w0 : XM) (w1 : XM) (l5 : Int32) (l6 : Int32) : Option (Int32 × XM × XM) :=
  x_bo (f_X8_advance w1) (fun y11 =>
  x_bo (f_X0_takeWhat y11 v2 l6) (fun y12 =>
  if (y12.1 : Int32) = (-1 : Int32) then
  (f_X0_readLine_139 v2  w0 y12.2 l5 l6 y12.1)
  else (if (l6 : Int32) = (14 : Int32) then
  (x_bo (f_X8_takeNumber y12.2 (1 : Int32) (30 : Int32)) (fun y13 =>
  f_X0_readLine_140 v2  w0 y13.2 l5 l6 y12.1 y13.1))
  else (f_X0_readLine_139 v2  w0 y12.2 l5 l6 y12.1))))
def f_X0_readLine_56 (v2 : XM) (w0 : XM) (w1 : XM) (l3 : Int32) (l4 : Int32) (l5 : Int32) : Option (Int32 × XM × XM) :=
  if ((w0.1 0 4) : Int32) < (40 : Int32) then
  (if l4 = (0 : Int32) then
  (f_X0_readLine_103 v2  w0 w1 l5 (w1.1 0 8))
  else (if ((w1.1 0 8) : Int32) < (9 : Int32) then
  (f_X0_readLine_97 v2  w0 w1)
  else (if ((w1.1 0 8) : Int32) ≤ (12 : Int32) then
  (f_X0_readLine_103 v2  w0 w1 l5 (w1.1 0 8))
  else (f_X0_readLine_97 v2  w0 w1))))
  else (x_lt (f_X8_refuseAt w1 (4 : Int32) l3) (fun y14 =>
  some (y14.1, w0, y14.2)))
def f_X0_readLine_28 (v2 : XM) (w0 : XM) (w1 : XM) (l3 : Int32) (s0 : Int32) : Option (Int32 × XM × XM) :=
  if s0 = (0 : Int32) then
  (f_X0_readLine_56 v2  w0 w1 l3 s0 (0 : Int32))
  else (x_bo (f_X8_takeNamed w1 v2 (14 : Int32) (5 : Int32)) (fun y15 =>
  if (y15.1 : Int32) = (-1 : Int32) then
  (some ((0 : Int32), w0, y15.2))
  else (f_X0_readLine_56 v2  w0 y15.2 l3 s0 y15.1)))
def f_X0_readLine_23 (v2 : XM) (w0 : XM) (w1 : XM) (l3 : Int32) : Option (Int32 × XM × XM) :=
  f_X0_readLine_28 v2  w0 w1 l3 (1 : Int32)
def f_X0_readLine (v0 : XM) (v1 : XM) (v2 : XM) : Option (Int32 × XM × XM) :=
  if ((v1.1 0 8) : Int32) < (13 : Int32) then
  (f_X0_readLine_23 v2  v0 v1 (v1.1 0 5))
  else (if ((v1.1 0 8) : Int32) ≤ (16 : Int32) then
  (f_X0_readLine_28 v2  v0 v1 (v1.1 0 5) (0 : Int32))
  else (f_X0_readLine_23 v2  v0 v1 (v1.1 0 5)))
set_option maxRecDepth 100000 in
set_option maxHeartbeats 4000000 in
theorem w_X0_readLine_97 {p : Program} {l : Launch} {e : Env} {s : State} {m : MethodId} {args : Array Value} {below : List Frame} {meth : Method} {c : Code} {D : va_G} {tc : Nat → ClassId} {aK aV : Nat → Nat} {A : Nat → Prop} {ad0 : Nat → Nat} {ad1 : Nat → Nat} {ad2 : Nat → Nat} {v2 : XM} (X : Cx p s m args meth c cX0_readLine 9 (some .boolean) RX0 D tc aK aV A [(shBook, ad0), (shTape, ad1), (shValley, ad2)])  {o : Int32 × XM × XM}  {w0 : XM} {w1 : XM}  (h : f_X0_readLine_97 v2  w0 w1 = some o) : aW p l e (x_Rm 5) s m args below meth c D tc A 9 [(shBook, ad0), (shTape, ad1), (shValley, ad2)] (some (.int o.1)) (x_Z o.1) [o.2.1, o.2.2, v2] 97 [(1, .ref (ad1 0))] [] [w0, w1, v2] := by
  unfold f_X0_readLine_97 at h
  refine a_aload_n (pc := 97) X 0 dX0_readLine_97 rfl rfl ?_
  refine a_iconst (pc := 98) X dX0_readLine_98 q_ic_1 ?_
  obtain ⟨y1, e_y1, h⟩ := x_lt_elim h
  refine a_callV (pc := 99) (st2 := [.int y1.1]) (vs2 := [w0, y1.2, v2]) X [(1, 0, 4)] [some y1.2] 1 0 8 [.int (1 : Int32)] [] cv_RX0_63 (c_X8_refuse (ad0 := ad1)  e_y1) rfl rfl rfl rfl rfl rfl rfl rfl rfl rfl rfl rfl rfl rfl rfl (Nat.le_of_ble_eq_true rfl) ⟨Nat.le_of_ble_eq_true rfl, Nat.le_of_ble_eq_true rfl⟩ dX0_readLine_99 (fun z_99 => ?_)
  have h := Option.some.inj h; subst h
  exact a_zret (pc := 102) X z_99 z_99 dX0_readLine_102
set_option maxRecDepth 100000 in
set_option maxHeartbeats 4000000 in
theorem w_X0_readLine_140 {p : Program} {l : Launch} {e : Env} {s : State} {m : MethodId} {args : Array Value} {below : List Frame} {meth : Method} {c : Code} {D : va_G} {tc : Nat → ClassId} {aK aV : Nat → Nat} {A : Nat → Prop} {ad0 : Nat → Nat} {ad1 : Nat → Nat} {ad2 : Nat → Nat} {v2 : XM} (X : Cx p s m args meth c cX0_readLine 9 (some .boolean) RX0 D tc aK aV A [(shBook, ad0), (shTape, ad1), (shValley, ad2)])  {o : Int32 × XM × XM}  {w0 : XM} {w1 : XM} {l5 : Int32} {l6 : Int32} {l7 : Int32} {s0 : Int32}  (h : f_X0_readLine_140 v2  w0 w1 l5 l6 l7 s0 = some o) : aW p l e (x_Rm 5) s m args below meth c D tc A 9 [(shBook, ad0), (shTape, ad1), (shValley, ad2)] (some (.int o.1)) (x_Z o.1) [o.2.1, o.2.2, v2] 140 [(0, .ref (ad0 0)), (5, .int l5), (6, .int l6), (7, .int l7)] [.int s0] [w0, w1, v2] := by
  unfold f_X0_readLine_140 at h
  refine a_istore (pc := 140) X [(8, .int s0), (0, .ref (ad0 0)), (5, .int l5), (6, .int l6), (7, .int l7)] dX0_readLine_140 (by decide) rfl ?_
  refine a_iload (pc := 142) X 4 dX0_readLine_142 rfl ?_
  refine a_iconst (pc := 144) X dX0_readLine_144 q_ic_m1 ?_
  refine a_icmp_eq (pc := 145) X 154 dX0_readLine_145 rfl (fun c_145 => ?_) (fun c_145 => ?_)
  · have h := x_ifp c_145 h
    refine a_iconst (pc := 154) X dX0_readLine_154 q_ic_0 ?_
    have h := Option.some.inj h; subst h
    exact a_zret (pc := 155) X x_Z0 x_Z0 dX0_readLine_155
  · have h := x_ifn c_145 h
    refine a_iload (pc := 148) X 0 dX0_readLine_148 rfl ?_
    refine a_iconst (pc := 150) X dX0_readLine_150 q_ic_m1 ?_
    refine a_icmp_ne (pc := 151) X 156 dX0_readLine_151 rfl (fun c_151 => ?_) (fun c_151 => ?_)
    · have h := x_ifn c_151 h
      refine a_aload_n (pc := 156) X 1 dX0_readLine_156 rfl rfl ?_
      refine a_getR (pc := 157) X 0 1 1 fl_RX0_14 rfl rfl rfl rfl rfl dX0_readLine_157 ?_
      refine a_aload_n (pc := 160) X 1 dX0_readLine_160 rfl rfl ?_
      refine a_getI (pc := 161) X 0 fl_RX0_29 rfl rfl rfl rfl dX0_readLine_161 ?_
      refine a_iload (pc := 164) X 3 dX0_readLine_164 rfl ?_
      obtain ⟨y2, e_y2, h⟩ := x_lt_elim h
      refine a_callV (pc := 166) (st2 := []) (vs2 := [x_put w0 1 2 y2, w1, v2]) X [(0, 1, 2)] [some y2] 0 1 3 [.int (w0.1 0 4), .int l6] [] cv_RX0_78 (ct_put (ad0 := (fun i => ad0 (i + 1))) (by decide) e_y2) rfl rfl rfl rfl rfl rfl rfl rfl rfl rfl rfl rfl rfl rfl rfl (Nat.le_of_ble_eq_true rfl) ⟨Nat.le_of_ble_eq_true rfl, Nat.le_of_ble_eq_true rfl⟩ dX0_readLine_166 (fun _ => ?_)
      obtain ⟨m3, e_m3, h⟩ := x_lt_elim h
      refine a_nm (vs2 := [m3, w1, v2]) (congrArg (fun q : XM => [q, w1, v2]) e_m3) ?_
      refine a_aload_n (pc := 169) X 1 dX0_readLine_169 rfl rfl ?_
      refine a_getR (pc := 170) X 0 3 3 fl_RX0_20 rfl rfl rfl rfl rfl dX0_readLine_170 ?_
      refine a_aload_n (pc := 173) X 1 dX0_readLine_173 rfl rfl ?_
      refine a_getI (pc := 174) X 0 fl_RX0_29 rfl rfl rfl rfl dX0_readLine_174 ?_
      refine a_iload (pc := 177) X 2 dX0_readLine_177 rfl ?_
      obtain ⟨y4, e_y4, h⟩ := x_lt_elim h
      refine a_callV (pc := 179) (st2 := []) (vs2 := [x_put m3 3 2 y4, w1, v2]) X [(0, 3, 2)] [some y4] 0 3 3 [.int (m3.1 0 4), .int l5] [] cv_RX0_78 (ct_put (ad0 := (fun i => ad0 (i + 3))) (by decide) e_y4) rfl rfl rfl rfl rfl rfl rfl rfl rfl rfl rfl rfl rfl rfl rfl (Nat.le_of_ble_eq_true rfl) ⟨Nat.le_of_ble_eq_true rfl, Nat.le_of_ble_eq_true rfl⟩ dX0_readLine_179 (fun _ => ?_)
      obtain ⟨m5, e_m5, h⟩ := x_lt_elim h
      refine a_nm (vs2 := [m5, w1, v2]) (congrArg (fun q : XM => [q, w1, v2]) e_m5) ?_
      refine a_aload_n (pc := 182) X 1 dX0_readLine_182 rfl rfl ?_
      refine a_getR (pc := 183) X 0 5 5 fl_RX0_23 rfl rfl rfl rfl rfl dX0_readLine_183 ?_
      refine a_aload_n (pc := 186) X 1 dX0_readLine_186 rfl rfl ?_
      refine a_getI (pc := 187) X 0 fl_RX0_29 rfl rfl rfl rfl dX0_readLine_187 ?_
      refine a_iload (pc := 190) X 4 dX0_readLine_190 rfl ?_
      obtain ⟨y6, e_y6, h⟩ := x_lt_elim h
      refine a_callV (pc := 192) (st2 := []) (vs2 := [x_put m5 5 2 y6, w1, v2]) X [(0, 5, 2)] [some y6] 0 5 3 [.int (m5.1 0 4), .int l7] [] cv_RX0_78 (ct_put (ad0 := (fun i => ad0 (i + 5))) (by decide) e_y6) rfl rfl rfl rfl rfl rfl rfl rfl rfl rfl rfl rfl rfl rfl rfl (Nat.le_of_ble_eq_true rfl) ⟨Nat.le_of_ble_eq_true rfl, Nat.le_of_ble_eq_true rfl⟩ dX0_readLine_192 (fun _ => ?_)
      obtain ⟨m7, e_m7, h⟩ := x_lt_elim h
      refine a_nm (vs2 := [m7, w1, v2]) (congrArg (fun q : XM => [q, w1, v2]) e_m7) ?_
      refine a_aload_n (pc := 195) X 1 dX0_readLine_195 rfl rfl ?_
      refine a_getR (pc := 196) X 0 7 7 fl_RX0_26 rfl rfl rfl rfl rfl dX0_readLine_196 ?_
      refine a_aload_n (pc := 199) X 1 dX0_readLine_199 rfl rfl ?_
      refine a_getI (pc := 200) X 0 fl_RX0_29 rfl rfl rfl rfl dX0_readLine_200 ?_
      refine a_iload (pc := 203) X 0 dX0_readLine_203 rfl ?_
      obtain ⟨y8, e_y8, h⟩ := x_lt_elim h
      refine a_callV (pc := 205) (st2 := []) (vs2 := [x_put m7 7 2 y8, w1, v2]) X [(0, 7, 2)] [some y8] 0 7 3 [.int (m7.1 0 4), .int s0] [] cv_RX0_78 (ct_put (ad0 := (fun i => ad0 (i + 7))) (by decide) e_y8) rfl rfl rfl rfl rfl rfl rfl rfl rfl rfl rfl rfl rfl rfl rfl (Nat.le_of_ble_eq_true rfl) ⟨Nat.le_of_ble_eq_true rfl, Nat.le_of_ble_eq_true rfl⟩ dX0_readLine_205 (fun _ => ?_)
      obtain ⟨m9, e_m9, h⟩ := x_lt_elim h
      refine a_nm (vs2 := [m9, w1, v2]) (congrArg (fun q : XM => [q, w1, v2]) e_m9) ?_
      refine a_aload_n (pc := 208) X 1 dX0_readLine_208 rfl rfl ?_
      refine a_dup (pc := 209) X dX0_readLine_209 rfl ?_
      refine a_getI (pc := 210) X 0 fl_RX0_29 rfl rfl rfl rfl dX0_readLine_210 ?_
      refine a_iconst (pc := 213) X dX0_readLine_213 q_ic_1 ?_
      refine a_iadd (pc := 214) X dX0_readLine_214 ?_
      refine a_putI (pc := 215) X 0 fl_RX0_29 rfl rfl rfl rfl dX0_readLine_215 ?_
      obtain ⟨m10, e_m10, h⟩ := x_lt_elim h
      refine a_nm (vs2 := [m10, w1, v2]) (congrArg (fun q : XM => [q, w1, v2]) e_m10) ?_
      refine a_iconst (pc := 218) X dX0_readLine_218 q_ic_1 ?_
      have h := Option.some.inj h; subst h
      exact a_zret (pc := 219) X x_Z1 x_Z1 dX0_readLine_219
    · have h := x_ifp c_151 h
      refine a_iconst (pc := 154) X dX0_readLine_154 q_ic_0 ?_
      have h := Option.some.inj h; subst h
      exact a_zret (pc := 155) X x_Z0 x_Z0 dX0_readLine_155
set_option maxRecDepth 100000 in
set_option maxHeartbeats 4000000 in
theorem w_X0_readLine_139 {p : Program} {l : Launch} {e : Env} {s : State} {m : MethodId} {args : Array Value} {below : List Frame} {meth : Method} {c : Code} {D : va_G} {tc : Nat → ClassId} {aK aV : Nat → Nat} {A : Nat → Prop} {ad0 : Nat → Nat} {ad1 : Nat → Nat} {ad2 : Nat → Nat} {v2 : XM} (X : Cx p s m args meth c cX0_readLine 9 (some .boolean) RX0 D tc aK aV A [(shBook, ad0), (shTape, ad1), (shValley, ad2)])  {o : Int32 × XM × XM}  {w0 : XM} {w1 : XM} {l5 : Int32} {l6 : Int32} {l7 : Int32}  (h : f_X0_readLine_139 v2  w0 w1 l5 l6 l7 = some o) : aW p l e (x_Rm 5) s m args below meth c D tc A 9 [(shBook, ad0), (shTape, ad1), (shValley, ad2)] (some (.int o.1)) (x_Z o.1) [o.2.1, o.2.2, v2] 139 [(0, .ref (ad0 0)), (5, .int l5), (6, .int l6), (7, .int l7)] [] [w0, w1, v2] := by
  unfold f_X0_readLine_139 at h
  refine a_iconst (pc := 139) X dX0_readLine_139 q_ic_0 ?_
  exact w_X0_readLine_140 X     h
set_option maxRecDepth 100000 in
set_option maxHeartbeats 4000000 in
theorem w_X0_readLine_103 {p : Program} {l : Launch} {e : Env} {s : State} {m : MethodId} {args : Array Value} {below : List Frame} {meth : Method} {c : Code} {D : va_G} {tc : Nat → ClassId} {aK aV : Nat → Nat} {A : Nat → Prop} {ad0 : Nat → Nat} {ad1 : Nat → Nat} {ad2 : Nat → Nat} {v2 : XM} (X : Cx p s m args meth c cX0_readLine 9 (some .boolean) RX0 D tc aK aV A [(shBook, ad0), (shTape, ad1), (shValley, ad2)])  {o : Int32 × XM × XM}  {w0 : XM} {w1 : XM} {l5 : Int32} {l6 : Int32}  (h : f_X0_readLine_103 v2  w0 w1 l5 l6 = some o) : aW p l e (x_Rm 5) s m args below meth c D tc A 9 [(shBook, ad0), (shTape, ad1), (shValley, ad2)] (some (.int o.1)) (x_Z o.1) [o.2.1, o.2.2, v2] 103 [(0, .ref (ad0 0)), (1, .ref (ad1 0)), (2, .ref (ad2 0)), (5, .int l5), (6, .int l6)] [] [w0, w1, v2] := by
  unfold f_X0_readLine_103 at h
  refine a_aload_n (pc := 103) X 1 dX0_readLine_103 rfl rfl ?_
  obtain ⟨y11, e_y11, h⟩ := x_bo_elim h
  refine a_callV (pc := 104) (st2 := []) (vs2 := [w0, y11, v2]) X [(1, 0, 4)] [some y11] 1 0 8 [] [] cv_RX0_67 (c_X8_advance (ad0 := ad1)  e_y11) rfl rfl rfl rfl rfl rfl rfl rfl rfl rfl rfl rfl rfl rfl rfl (Nat.le_of_ble_eq_true rfl) ⟨Nat.le_of_ble_eq_true rfl, Nat.le_of_ble_eq_true rfl⟩ dX0_readLine_104 (fun _ => ?_)
  refine a_aload_n (pc := 107) X 1 dX0_readLine_107 rfl rfl ?_
  refine a_aload_n (pc := 108) X 2 dX0_readLine_108 rfl rfl ?_
  refine a_iload (pc := 109) X 4 dX0_readLine_109 rfl ?_
  obtain ⟨y12, e_y12, h⟩ := x_bo_elim h
  refine a_callS (pc := 111) (st2 := [.int y12.1]) (vs2 := [w0, y12.2, v2]) X [(1, 0, 4), (2, 0, 16)] [some y12.2, none] [.ref (ad1 0), .ref (ad2 0), .int l6] [] cv_RX0_70 (c_X0_takeWhat (ad0 := ad1) (ad1 := ad2)  e_y12) rfl rfl rfl rfl rfl rfl rfl rfl rfl rfl rfl (Nat.le_of_ble_eq_true rfl) ⟨Nat.le_of_ble_eq_true rfl, Nat.le_of_ble_eq_true rfl⟩ dX0_readLine_111 (fun _ => ?_)
  refine a_istore (pc := 114) X [(7, .int y12.1), (0, .ref (ad0 0)), (1, .ref (ad1 0)), (2, .ref (ad2 0)), (5, .int l5), (6, .int l6)] dX0_readLine_114 (by decide) rfl ?_
  refine a_iload (pc := 116) X 0 dX0_readLine_116 rfl ?_
  refine a_iconst (pc := 118) X dX0_readLine_118 q_ic_m1 ?_
  refine a_icmp_eq (pc := 119) X 139 dX0_readLine_119 rfl (fun c_119 => ?_) (fun c_119 => ?_)
  · have h := x_ifp c_119 h
    refine a_sub [1, 4, 5, 0] rfl ?_
    exact w_X0_readLine_139 X     h
  · have h := x_ifn c_119 h
    refine a_iload (pc := 122) X 5 dX0_readLine_122 rfl ?_
    refine a_bipush (pc := 124) X dX0_readLine_124 q_bp_14 ?_
    refine a_icmp_ne (pc := 126) X 139 dX0_readLine_126 rfl (fun c_126 => ?_) (fun c_126 => ?_)
    · have h := x_ifn c_126 h
      refine a_sub [1, 4, 5, 0] rfl ?_
      exact w_X0_readLine_139 X     h
    · have h := x_ifp c_126 h
      refine a_aload_n (pc := 129) X 2 dX0_readLine_129 rfl rfl ?_
      refine a_iconst (pc := 130) X dX0_readLine_130 q_ic_1 ?_
      refine a_bipush (pc := 131) X dX0_readLine_131 q_bp_30 ?_
      obtain ⟨y13, e_y13, h⟩ := x_bo_elim h
      refine a_callV (pc := 133) (st2 := [.int y13.1]) (vs2 := [w0, y13.2, v2]) X [(1, 0, 4)] [some y13.2] 1 0 8 [.int (1 : Int32), .int (30 : Int32)] [] cv_RX0_74 (c_X8_takeNumber (ad0 := ad1)  e_y13) rfl rfl rfl rfl rfl rfl rfl rfl rfl rfl rfl rfl rfl rfl rfl (Nat.le_of_ble_eq_true rfl) ⟨Nat.le_of_ble_eq_true rfl, Nat.le_of_ble_eq_true rfl⟩ dX0_readLine_133 (fun _ => ?_)
      refine a_goto (pc := 136) X 140 dX0_readLine_136 rfl ?_
      refine a_sub [1, 4, 5, 0] rfl ?_
      exact w_X0_readLine_140 X     h
set_option maxRecDepth 100000 in
set_option maxHeartbeats 4000000 in
theorem w_X0_readLine_56 {p : Program} {l : Launch} {e : Env} {s : State} {m : MethodId} {args : Array Value} {below : List Frame} {meth : Method} {c : Code} {D : va_G} {tc : Nat → ClassId} {aK aV : Nat → Nat} {A : Nat → Prop} {ad0 : Nat → Nat} {ad1 : Nat → Nat} {ad2 : Nat → Nat} {v2 : XM} (X : Cx p s m args meth c cX0_readLine 9 (some .boolean) RX0 D tc aK aV A [(shBook, ad0), (shTape, ad1), (shValley, ad2)])  {o : Int32 × XM × XM}  {w0 : XM} {w1 : XM} {l3 : Int32} {l4 : Int32} {l5 : Int32} (hzl4 : x_Z l4) (h : f_X0_readLine_56 v2  w0 w1 l3 l4 l5 = some o) : aW p l e (x_Rm 5) s m args below meth c D tc A 9 [(shBook, ad0), (shTape, ad1), (shValley, ad2)] (some (.int o.1)) (x_Z o.1) [o.2.1, o.2.2, v2] 56 [(0, .ref (ad0 0)), (1, .ref (ad1 0)), (2, .ref (ad2 0)), (3, .int l3), (4, .int l4), (5, .int l5)] [] [w0, w1, v2] := by
  unfold f_X0_readLine_56 at h
  refine a_aload_n (pc := 56) X 0 dX0_readLine_56 rfl rfl ?_
  refine a_getI (pc := 57) X 0 fl_RX0_29 rfl rfl rfl rfl dX0_readLine_57 ?_
  refine a_bipush (pc := 60) X dX0_readLine_60 q_bp_40 ?_
  refine a_icmp_lt (pc := 62) X 72 dX0_readLine_62 rfl (fun c_62 => ?_) (fun c_62 => ?_)
  · have h := x_ifp c_62 h
    refine a_aload_n (pc := 72) X 1 dX0_readLine_72 rfl rfl ?_
    refine a_getI (pc := 73) X 1 fl_RX0_52 rfl rfl rfl rfl dX0_readLine_73 ?_
    refine a_istore (pc := 76) X [(6, .int (w1.1 0 8)), (0, .ref (ad0 0)), (1, .ref (ad1 0)), (2, .ref (ad2 0)), (3, .int l3), (4, .int l4), (5, .int l5)] dX0_readLine_76 (by decide) rfl ?_
    refine a_iload (pc := 78) X 5 dX0_readLine_78 rfl ?_
    refine a_if_eq (pc := 80) X 103 dX0_readLine_80 rfl (fun c_80 => ?_) (fun c_80 => ?_)
    · have h := x_ifp c_80 h
      refine a_sub [1, 2, 3, 6, 0] rfl ?_
      exact w_X0_readLine_103 X     h
    · have h := x_ifn c_80 h
      refine a_iload (pc := 83) X 0 dX0_readLine_83 rfl ?_
      refine a_bipush (pc := 85) X dX0_readLine_85 q_bp_9 ?_
      refine a_icmp_lt (pc := 87) X 97 dX0_readLine_87 rfl (fun c_87 => ?_) (fun c_87 => ?_)
      · have h := x_ifp c_87 h
        refine a_sub [2] rfl ?_
        exact w_X0_readLine_97 X     h
      · have h := x_ifn c_87 h
        refine a_iload (pc := 90) X 0 dX0_readLine_90 rfl ?_
        refine a_bipush (pc := 92) X dX0_readLine_92 q_bp_12 ?_
        refine a_icmp_le (pc := 94) X 103 dX0_readLine_94 rfl (fun c_94 => ?_) (fun c_94 => ?_)
        · have h := x_ifp c_94 h
          refine a_sub [1, 2, 3, 6, 0] rfl ?_
          exact w_X0_readLine_103 X     h
        · have h := x_ifn c_94 h
          refine a_sub [2] rfl ?_
          exact w_X0_readLine_97 X     h
  · have h := x_ifn c_62 h
    refine a_aload_n (pc := 65) X 1 dX0_readLine_65 rfl rfl ?_
    refine a_iconst (pc := 66) X dX0_readLine_66 q_ic_4 ?_
    refine a_iload_n (pc := 67) X 3 dX0_readLine_67 rfl rfl ?_
    obtain ⟨y14, e_y14, h⟩ := x_lt_elim h
    refine a_callV (pc := 68) (st2 := [.int y14.1]) (vs2 := [w0, y14.2, v2]) X [(1, 0, 4)] [some y14.2] 1 0 8 [.int (4 : Int32), .int l3] [] cv_RX0_59 (c_X8_refuseAt (ad0 := ad1)  e_y14) rfl rfl rfl rfl rfl rfl rfl rfl rfl rfl rfl rfl rfl rfl rfl (Nat.le_of_ble_eq_true rfl) ⟨Nat.le_of_ble_eq_true rfl, Nat.le_of_ble_eq_true rfl⟩ dX0_readLine_68 (fun z_68 => ?_)
    have h := Option.some.inj h; subst h
    exact a_zret (pc := 71) X z_68 z_68 dX0_readLine_71
set_option maxRecDepth 100000 in
set_option maxHeartbeats 4000000 in
theorem w_X0_readLine_28 {p : Program} {l : Launch} {e : Env} {s : State} {m : MethodId} {args : Array Value} {below : List Frame} {meth : Method} {c : Code} {D : va_G} {tc : Nat → ClassId} {aK aV : Nat → Nat} {A : Nat → Prop} {ad0 : Nat → Nat} {ad1 : Nat → Nat} {ad2 : Nat → Nat} {v2 : XM} (X : Cx p s m args meth c cX0_readLine 9 (some .boolean) RX0 D tc aK aV A [(shBook, ad0), (shTape, ad1), (shValley, ad2)])  {o : Int32 × XM × XM}  {w0 : XM} {w1 : XM} {l3 : Int32} {s0 : Int32} (hzs0 : x_Z s0) (h : f_X0_readLine_28 v2  w0 w1 l3 s0 = some o) : aW p l e (x_Rm 5) s m args below meth c D tc A 9 [(shBook, ad0), (shTape, ad1), (shValley, ad2)] (some (.int o.1)) (x_Z o.1) [o.2.1, o.2.2, v2] 28 [(0, .ref (ad0 0)), (1, .ref (ad1 0)), (2, .ref (ad2 0)), (3, .int l3)] [.int s0] [w0, w1, v2] := by
  unfold f_X0_readLine_28 at h
  refine a_istore (pc := 28) X [(4, .int s0), (0, .ref (ad0 0)), (1, .ref (ad1 0)), (2, .ref (ad2 0)), (3, .int l3)] dX0_readLine_28 (by decide) rfl ?_
  refine a_iconst (pc := 30) X dX0_readLine_30 q_ic_0 ?_
  refine a_istore (pc := 31) X [(5, .int (0 : Int32)), (4, .int s0), (0, .ref (ad0 0)), (1, .ref (ad1 0)), (2, .ref (ad2 0)), (3, .int l3)] dX0_readLine_31 (by decide) rfl ?_
  refine a_iload (pc := 33) X 1 dX0_readLine_33 rfl ?_
  refine a_if_eq (pc := 35) X 56 dX0_readLine_35 rfl (fun c_35 => ?_) (fun c_35 => ?_)
  · have h := x_ifp c_35 h
    refine a_sub [2, 3, 4, 5, 1, 0] rfl ?_
    exact w_X0_readLine_56 X    hzs0 h
  · have h := x_ifn c_35 h
    refine a_aload_n (pc := 38) X 3 dX0_readLine_38 rfl rfl ?_
    refine a_aload_n (pc := 39) X 4 dX0_readLine_39 rfl rfl ?_
    refine a_bipush (pc := 40) X dX0_readLine_40 q_bp_14 ?_
    refine a_iconst (pc := 42) X dX0_readLine_42 q_ic_5 ?_
    obtain ⟨y15, e_y15, h⟩ := x_bo_elim h
    refine a_callV (pc := 43) (st2 := [.int y15.1]) (vs2 := [w0, y15.2, v2]) X [(1, 0, 4), (2, 0, 16)] [some y15.2, none] 1 0 8 [.ref (ad2 0), .int (14 : Int32), .int (5 : Int32)] [] cv_RX0_55 (c_X8_takeNamed (ad0 := ad1) (ad1 := ad2)  e_y15) rfl rfl rfl rfl rfl rfl rfl rfl rfl rfl rfl rfl rfl rfl rfl (Nat.le_of_ble_eq_true rfl) ⟨Nat.le_of_ble_eq_true rfl, Nat.le_of_ble_eq_true rfl⟩ dX0_readLine_43 (fun _ => ?_)
    refine a_istore (pc := 46) X [(5, .int y15.1), (4, .int s0), (0, .ref (ad0 0)), (1, .ref (ad1 0)), (2, .ref (ad2 0)), (3, .int l3)] dX0_readLine_46 (by decide) rfl ?_
    refine a_iload (pc := 48) X 0 dX0_readLine_48 rfl ?_
    refine a_iconst (pc := 50) X dX0_readLine_50 q_ic_m1 ?_
    refine a_icmp_ne (pc := 51) X 56 dX0_readLine_51 rfl (fun c_51 => ?_) (fun c_51 => ?_)
    · have h := x_ifn c_51 h
      refine a_sub [2, 3, 4, 5, 1, 0] rfl ?_
      exact w_X0_readLine_56 X    hzs0 h
    · have h := x_ifp c_51 h
      refine a_iconst (pc := 54) X dX0_readLine_54 q_ic_0 ?_
      have h := Option.some.inj h; subst h
      exact a_zret (pc := 55) X x_Z0 x_Z0 dX0_readLine_55
set_option maxRecDepth 100000 in
set_option maxHeartbeats 4000000 in
theorem w_X0_readLine_23 {p : Program} {l : Launch} {e : Env} {s : State} {m : MethodId} {args : Array Value} {below : List Frame} {meth : Method} {c : Code} {D : va_G} {tc : Nat → ClassId} {aK aV : Nat → Nat} {A : Nat → Prop} {ad0 : Nat → Nat} {ad1 : Nat → Nat} {ad2 : Nat → Nat} {v2 : XM} (X : Cx p s m args meth c cX0_readLine 9 (some .boolean) RX0 D tc aK aV A [(shBook, ad0), (shTape, ad1), (shValley, ad2)])  {o : Int32 × XM × XM}  {w0 : XM} {w1 : XM} {l3 : Int32}  (h : f_X0_readLine_23 v2  w0 w1 l3 = some o) : aW p l e (x_Rm 5) s m args below meth c D tc A 9 [(shBook, ad0), (shTape, ad1), (shValley, ad2)] (some (.int o.1)) (x_Z o.1) [o.2.1, o.2.2, v2] 23 [(0, .ref (ad0 0)), (1, .ref (ad1 0)), (2, .ref (ad2 0)), (3, .int l3)] [] [w0, w1, v2] := by
  unfold f_X0_readLine_23 at h
  refine a_iconst (pc := 23) X dX0_readLine_23 q_ic_1 ?_
  refine a_goto (pc := 24) X 28 dX0_readLine_24 rfl ?_
  exact w_X0_readLine_28 X    x_Z1 h
set_option maxRecDepth 100000 in
set_option maxHeartbeats 4000000 in
theorem c_X0_readLine {l : Launch}  {ad0 : Nat → Nat} {ad1 : Nat → Nat} {ad2 : Nat → Nat} {v0 v1 v2 : XM}   {o : Int32 × XM × XM} (h : f_X0_readLine v0 v1 v2 = some o) : CT l yX0_readLine cX0_readLine 9 (some .boolean) 5 [(shBook, ad0), (shTape, ad1), (shValley, ad2)] [v0, v1, v2] (fun aK => [.ref (ad0 0), .ref (ad1 0), .ref (ad2 0)]) (some (.int o.1)) (x_Z o.1) [o.2.1, o.2.2, v2] := by
  refine CT_of (by decide) (fun _ => Nat.le_of_ble_eq_true rfl) ?_
  intro p e s m args below meth c D tc aK aV A X
  have X : Cx p s m args meth c cX0_readLine 9 (some .boolean) RX0 D tc aK aV A [(shBook, ad0), (shTape, ad1), (shValley, ad2)] := X
  show aW p l e (x_Rm 5) s m args below meth c D tc A 9 [(shBook, ad0), (shTape, ad1), (shValley, ad2)] (some (.int o.1)) (x_Z o.1) [o.2.1, o.2.2, v2] 0 [(0, .ref (ad0 0)), (1, .ref (ad1 0)), (2, .ref (ad2 0))] [] [v0, v1, v2]
  unfold f_X0_readLine at h
  refine a_aload_n (pc := 0) X 1 dX0_readLine_0 rfl rfl ?_
  refine a_getI (pc := 1) X 1 fl_RX0_49 rfl rfl rfl rfl dX0_readLine_1 ?_
  refine a_istore_n (pc := 4) X [(3, .int (v1.1 0 5)), (0, .ref (ad0 0)), (1, .ref (ad1 0)), (2, .ref (ad2 0))] dX0_readLine_4 rfl (by decide) rfl ?_
  refine a_aload_n (pc := 5) X 2 dX0_readLine_5 rfl rfl ?_
  refine a_getI (pc := 6) X 1 fl_RX0_52 rfl rfl rfl rfl dX0_readLine_6 ?_
  refine a_bipush (pc := 9) X dX0_readLine_9 q_bp_13 ?_
  refine a_icmp_lt (pc := 11) X 23 dX0_readLine_11 rfl (fun c_11 => ?_) (fun c_11 => ?_)
  · have h := x_ifp c_11 h
    refine a_sub [1, 2, 3, 0] rfl ?_
    exact w_X0_readLine_23 X     h
  · have h := x_ifn c_11 h
    refine a_aload_n (pc := 14) X 2 dX0_readLine_14 rfl rfl ?_
    refine a_getI (pc := 15) X 1 fl_RX0_52 rfl rfl rfl rfl dX0_readLine_15 ?_
    refine a_bipush (pc := 18) X dX0_readLine_18 q_bp_16 ?_
    refine a_icmp_le (pc := 20) X 27 dX0_readLine_20 rfl (fun c_20 => ?_) (fun c_20 => ?_)
    · have h := x_ifp c_20 h
      refine a_iconst (pc := 27) X dX0_readLine_27 q_ic_0 ?_
      refine a_sub [1, 2, 3, 0] rfl ?_
      exact w_X0_readLine_28 X    x_Z0 h
    · have h := x_ifn c_20 h
      refine a_sub [1, 2, 3, 0] rfl ?_
      exact w_X0_readLine_23 X     h
theorem dX8_pass_0 : decode cX8_pass 0 = .ok (.aload_n 0, 1) := by decide +kernel
theorem dX8_pass_1 : decode cX8_pass 1 = .ok (.getfield 74, 3) := by decide +kernel
theorem dX8_pass_4 : decode cX8_pass 4 = .ok (.iload_n 1, 1) := by decide +kernel
theorem dX8_pass_5 : decode cX8_pass 5 = .ok (.if_icmp .eq 9, 3) := by decide +kernel
theorem dX8_pass_8 : decode cX8_pass 8 = .ok (.aload_n 0, 1) := by decide +kernel
theorem dX8_pass_9 : decode cX8_pass 9 = .ok (.iconst 1, 1) := by decide +kernel
theorem dX8_pass_10 : decode cX8_pass 10 = .ok (.invokevirtual 103, 3) := by decide +kernel
theorem dX8_pass_13 : decode cX8_pass 13 = .ok (.ireturn, 1) := by decide +kernel
theorem dX8_pass_14 : decode cX8_pass 14 = .ok (.aload_n 0, 1) := by decide +kernel
theorem dX8_pass_15 : decode cX8_pass 15 = .ok (.invokevirtual 61, 3) := by decide +kernel
theorem dX8_pass_18 : decode cX8_pass 18 = .ok (.iconst 1, 1) := by decide +kernel
theorem dX8_pass_19 : decode cX8_pass 19 = .ok (.ireturn, 1) := by decide +kernel
def f_X8_pass (v0 : XM) (x0 : Int32) : Option (Int32 × XM) :=
  if ((v0.1 0 6) : Int32) = x0 then
  (x_bo (f_X8_advance v0) (fun y1 =>
  some ((1 : Int32), y1)))
  else (x_lt (f_X8_refuse v0 (1 : Int32)) (fun y2 =>
  some (y2.1, y2.2)))
set_option maxRecDepth 100000 in
set_option maxHeartbeats 4000000 in
theorem c_X8_pass {l : Launch}  {ad0 : Nat → Nat} {v0 : XM} {x0 : Int32}  {o : Int32 × XM} (h : f_X8_pass v0 x0 = some o) : CT l yX8_pass cX8_pass 2 (some .boolean) 3 [(shTape, ad0)] [v0] (fun aK => [.ref (ad0 0), .int x0]) (some (.int o.1)) (x_Z o.1) [o.2] := by
  refine CT_of (by decide) (fun _ => Nat.le_of_ble_eq_true rfl) ?_
  intro p e s m args below meth c D tc aK aV A X
  have X : Cx p s m args meth c cX8_pass 2 (some .boolean) RX8 D tc aK aV A [(shTape, ad0)] := X
  show aW p l e (x_Rm 3) s m args below meth c D tc A 2 [(shTape, ad0)] (some (.int o.1)) (x_Z o.1) [o.2] 0 [(0, .ref (ad0 0)), (1, .int x0)] [] [v0]
  unfold f_X8_pass at h
  refine a_aload_n (pc := 0) X 0 dX8_pass_0 rfl rfl ?_
  refine a_getI (pc := 1) X 0 fl_RX8_74 rfl rfl rfl rfl dX8_pass_1 ?_
  refine a_iload_n (pc := 4) X 1 dX8_pass_4 rfl rfl ?_
  refine a_icmp_eq (pc := 5) X 14 dX8_pass_5 rfl (fun c_5 => ?_) (fun c_5 => ?_)
  · have h := x_ifp c_5 h
    refine a_aload_n (pc := 14) X 0 dX8_pass_14 rfl rfl ?_
    obtain ⟨y1, e_y1, h⟩ := x_bo_elim h
    refine a_callV (pc := 15) (st2 := []) (vs2 := [y1]) X [(0, 0, 4)] [some y1] 0 0 8 [] [] cv_RX8_61 (c_X8_advance (ad0 := ad0)  e_y1) rfl rfl rfl rfl rfl rfl rfl rfl rfl rfl rfl rfl rfl rfl rfl (Nat.le_of_ble_eq_true rfl) ⟨Nat.le_of_ble_eq_true rfl, Nat.le_of_ble_eq_true rfl⟩ dX8_pass_15 (fun _ => ?_)
    refine a_iconst (pc := 18) X dX8_pass_18 q_ic_1 ?_
    have h := Option.some.inj h; subst h
    exact a_zret (pc := 19) X x_Z1 x_Z1 dX8_pass_19
  · have h := x_ifn c_5 h
    refine a_aload_n (pc := 8) X 0 dX8_pass_8 rfl rfl ?_
    refine a_iconst (pc := 9) X dX8_pass_9 q_ic_1 ?_
    obtain ⟨y2, e_y2, h⟩ := x_lt_elim h
    refine a_callV (pc := 10) (st2 := [.int y2.1]) (vs2 := [y2.2]) X [(0, 0, 4)] [some y2.2] 0 0 8 [.int (1 : Int32)] [] cv_RX8_103 (c_X8_refuse (ad0 := ad0)  e_y2) rfl rfl rfl rfl rfl rfl rfl rfl rfl rfl rfl rfl rfl rfl rfl (Nat.le_of_ble_eq_true rfl) ⟨Nat.le_of_ble_eq_true rfl, Nat.le_of_ble_eq_true rfl⟩ dX8_pass_10 (fun z_10 => ?_)
    have h := Option.some.inj h; subst h
    exact a_zret (pc := 13) X z_10 z_10 dX8_pass_13
theorem dX0_readBook_0 : decode cX0_readBook 0 = .ok (.aload_n 0, 1) := by decide +kernel
theorem dX0_readBook_1 : decode cX0_readBook 1 = .ok (.iconst 0, 1) := by decide +kernel
theorem dX0_readBook_2 : decode cX0_readBook 2 = .ok (.putfield 29, 3) := by decide +kernel
theorem dX0_readBook_5 : decode cX0_readBook 5 = .ok (.aload_n 1, 1) := by decide +kernel
theorem dX0_readBook_6 : decode cX0_readBook 6 = .ok (.sipush 400, 3) := by decide +kernel
theorem dX0_readBook_9 : decode cX0_readBook 9 = .ok (.invokevirtual 33, 3) := by decide +kernel
theorem dX0_readBook_12 : decode cX0_readBook 12 = .ok (.iconst 0, 1) := by decide +kernel
theorem dX0_readBook_13 : decode cX0_readBook 13 = .ok (.istore_n 3, 1) := by decide +kernel
theorem dX0_readBook_14 : decode cX0_readBook 14 = .ok (.iload_n 3, 1) := by decide +kernel
theorem dX0_readBook_15 : decode cX0_readBook 15 = .ok (.bipush 40, 2) := by decide +kernel
theorem dX0_readBook_17 : decode cX0_readBook 17 = .ok (.if_icmp .gt 38, 3) := by decide +kernel
theorem dX0_readBook_20 : decode cX0_readBook 20 = .ok (.aload_n 1, 1) := by decide +kernel
theorem dX0_readBook_21 : decode cX0_readBook 21 = .ok (.getfield 38, 3) := by decide +kernel
theorem dX0_readBook_24 : decode cX0_readBook 24 = .ok (.ifCond .ne 5, 3) := by decide +kernel
theorem dX0_readBook_27 : decode cX0_readBook 27 = .ok (.iconst 1, 1) := by decide +kernel
theorem dX0_readBook_28 : decode cX0_readBook 28 = .ok (.ireturn, 1) := by decide +kernel
theorem dX0_readBook_29 : decode cX0_readBook 29 = .ok (.aload_n 0, 1) := by decide +kernel
theorem dX0_readBook_30 : decode cX0_readBook 30 = .ok (.aload_n 1, 1) := by decide +kernel
theorem dX0_readBook_31 : decode cX0_readBook 31 = .ok (.aload_n 2, 1) := by decide +kernel
theorem dX0_readBook_32 : decode cX0_readBook 32 = .ok (.invokevirtual 41, 3) := by decide +kernel
theorem dX0_readBook_35 : decode cX0_readBook 35 = .ok (.ifCond .eq 12, 3) := by decide +kernel
theorem dX0_readBook_38 : decode cX0_readBook 38 = .ok (.aload_n 1, 1) := by decide +kernel
theorem dX0_readBook_39 : decode cX0_readBook 39 = .ok (.bipush 59, 2) := by decide +kernel
theorem dX0_readBook_41 : decode cX0_readBook 41 = .ok (.invokevirtual 45, 3) := by decide +kernel
theorem dX0_readBook_44 : decode cX0_readBook 44 = .ok (.ifCond .ne 5, 3) := by decide +kernel
theorem dX0_readBook_47 : decode cX0_readBook 47 = .ok (.iconst 0, 1) := by decide +kernel
theorem dX0_readBook_48 : decode cX0_readBook 48 = .ok (.ireturn, 1) := by decide +kernel
theorem dX0_readBook_49 : decode cX0_readBook 49 = .ok (.iinc 3 1, 3) := by decide +kernel
theorem dX0_readBook_52 : decode cX0_readBook 52 = .ok (.goto (-38), 3) := by decide +kernel
theorem dX0_readBook_55 : decode cX0_readBook 55 = .ok (.iconst 0, 1) := by decide +kernel
theorem dX0_readBook_56 : decode cX0_readBook 56 = .ok (.ireturn, 1) := by decide +kernel
def f_X0_readBook_14 (v2 : XM) (k14 : XM → XM → Int32 → Option (Int32 × XM × XM)) (w0 : XM) (w1 : XM) (l3 : Int32) : Option (Int32 × XM × XM) :=
  if ((40 : Int32) : Int32) < l3 then
  (some ((0 : Int32), w0, w1))
  else (if (w1.1 0 6) = (0 : Int32) then
  (some ((1 : Int32), w0, w1))
  else (x_bo (f_X0_readLine w0 w1 v2) (fun y1 =>
  if y1.1 = (0 : Int32) then
  (some ((0 : Int32), y1.2.1, y1.2.2))
  else (x_bo (f_X8_pass y1.2.2 (59 : Int32)) (fun y2 =>
  if y2.1 = (0 : Int32) then
  (some ((0 : Int32), y1.2.1, y2.2))
  else (k14 y1.2.1 y2.2 (l3 + 1)))))))
def f_X0_readBook (v0 : XM) (v1 : XM) (v2 : XM) : Option (Int32 × XM × XM) :=
  x_lt (x_si v0 0 4 (0 : Int32)) (fun m3 =>
  x_bo (f_X8_open v1 (400 : Int32)) (fun y4 =>
  x_lp (φ := XM → XM → Int32 → Option (Int32 × XM × XM)) (fun _ _ _ => none) (f_X0_readBook_14 v2 ) x_NN m3 y4 (0 : Int32)))
set_option maxRecDepth 100000 in
set_option maxHeartbeats 4000000 in
theorem w_X0_readBook_14 {p : Program} {l : Launch} {e : Env} {s : State} {m : MethodId} {args : Array Value} {below : List Frame} {meth : Method} {c : Code} {D : va_G} {tc : Nat → ClassId} {aK aV : Nat → Nat} {A : Nat → Prop} {ad0 : Nat → Nat} {ad1 : Nat → Nat} {ad2 : Nat → Nat} {v2 : XM} (X : Cx p s m args meth c cX0_readBook 4 (some .boolean) RX0 D tc aK aV A [(shBook, ad0), (shTape, ad1), (shValley, ad2)])  {o : Int32 × XM × XM}  : ∀ (n : Nat), ∀ (w0 : XM) (w1 : XM) (l3 : Int32), x_lp (φ := XM → XM → Int32 → Option (Int32 × XM × XM)) (fun _ _ _ => none) (f_X0_readBook_14 v2 ) n w0 w1 l3 = some o → aW p l e (x_Rm 6) s m args below meth c D tc A 4 [(shBook, ad0), (shTape, ad1), (shValley, ad2)] (some (.int o.1)) (x_Z o.1) [o.2.1, o.2.2, v2] 14 [(0, .ref (ad0 0)), (1, .ref (ad1 0)), (2, .ref (ad2 0)), (3, .int l3)] [] [w0, w1, v2] := by
  intro n
  induction n with
  | zero => intro w0 w1 l3 h; exact absurd h (fun q => by cases q)
  | succ n ih =>
    intro w0 w1 l3 h
    have h : f_X0_readBook_14 v2  (x_lp (φ := XM → XM → Int32 → Option (Int32 × XM × XM)) (fun _ _ _ => none) (f_X0_readBook_14 v2 ) n) w0 w1 l3 = some o := h
    generalize x_lp (φ := XM → XM → Int32 → Option (Int32 × XM × XM)) (fun _ _ _ => none) (f_X0_readBook_14 v2 ) n = k14 at h ih
    have hk14 := ih
    unfold f_X0_readBook_14 at h
    refine a_iload_n (pc := 14) X 3 dX0_readBook_14 rfl rfl ?_
    refine a_bipush (pc := 15) X dX0_readBook_15 q_bp_40 ?_
    refine a_icmp_gt (pc := 17) X 55 dX0_readBook_17 rfl (fun c_17 => ?_) (fun c_17 => ?_)
    · have h := x_ifp c_17 h
      refine a_iconst (pc := 55) X dX0_readBook_55 q_ic_0 ?_
      have h := Option.some.inj h; subst h
      exact a_zret (pc := 56) X x_Z0 x_Z0 dX0_readBook_56
    · have h := x_ifn c_17 h
      refine a_aload_n (pc := 20) X 1 dX0_readBook_20 rfl rfl ?_
      refine a_getI (pc := 21) X 1 fl_RX0_38 rfl rfl rfl rfl dX0_readBook_21 ?_
      refine a_if_ne (pc := 24) X 29 dX0_readBook_24 rfl (fun c_24 => ?_) (fun c_24 => ?_)
      · have h := x_ifn c_24 h
        refine a_aload_n (pc := 29) X 0 dX0_readBook_29 rfl rfl ?_
        refine a_aload_n (pc := 30) X 1 dX0_readBook_30 rfl rfl ?_
        refine a_aload_n (pc := 31) X 2 dX0_readBook_31 rfl rfl ?_
        obtain ⟨y1, e_y1, h⟩ := x_bo_elim h
        refine a_callV (pc := 32) (st2 := [.int y1.1]) (vs2 := [y1.2.1, y1.2.2, v2]) X [(0, 0, 9), (1, 0, 4), (2, 0, 16)] [some y1.2.1, some y1.2.2, none] 0 0 0 [.ref (ad1 0), .ref (ad2 0)] [] cv_RX0_41 (c_X0_readLine (ad0 := ad0) (ad1 := ad1) (ad2 := ad2)  e_y1) rfl rfl rfl rfl rfl rfl rfl rfl rfl rfl rfl rfl rfl rfl rfl (Nat.le_of_ble_eq_true rfl) ⟨Nat.le_of_ble_eq_true rfl, Nat.le_of_ble_eq_true rfl⟩ dX0_readBook_32 (fun z_32 => ?_)
        refine a_if_eq (pc := 35) X 47 dX0_readBook_35 rfl (fun c_35 => ?_) (fun c_35 => ?_)
        · have h := x_ifp c_35 h
          refine a_iconst (pc := 47) X dX0_readBook_47 q_ic_0 ?_
          have h := Option.some.inj h; subst h
          exact a_zret (pc := 48) X x_Z0 x_Z0 dX0_readBook_48
        · have h := x_ifn c_35 h
          refine a_aload_n (pc := 38) X 1 dX0_readBook_38 rfl rfl ?_
          refine a_bipush (pc := 39) X dX0_readBook_39 q_bp_59 ?_
          obtain ⟨y2, e_y2, h⟩ := x_bo_elim h
          refine a_callV (pc := 41) (st2 := [.int y2.1]) (vs2 := [y1.2.1, y2.2, v2]) X [(1, 0, 4)] [some y2.2] 1 0 8 [.int (59 : Int32)] [] cv_RX0_45 (c_X8_pass (ad0 := ad1)  e_y2) rfl rfl rfl rfl rfl rfl rfl rfl rfl rfl rfl rfl rfl rfl rfl (Nat.le_of_ble_eq_true rfl) ⟨Nat.le_of_ble_eq_true rfl, Nat.le_of_ble_eq_true rfl⟩ dX0_readBook_41 (fun z_41 => ?_)
          refine a_if_ne (pc := 44) X 49 dX0_readBook_44 rfl (fun c_44 => ?_) (fun c_44 => ?_)
          · have h := x_ifn c_44 h
            refine a_iinc (pc := 49) X 3 [(3, .int (l3 + 1)), (0, .ref (ad0 0)), (1, .ref (ad1 0)), (2, .ref (ad2 0))] dX0_readBook_49 rfl (congrArg (HAdd.hAdd l3) q_ic_1) (by decide) rfl ?_
            refine a_goto (pc := 52) X 14 dX0_readBook_52 rfl ?_
            refine a_sub [1, 2, 3, 0] rfl ?_
            exact hk14 _ _ _ h
          · have h := x_ifp c_44 h
            refine a_iconst (pc := 47) X dX0_readBook_47 q_ic_0 ?_
            have h := Option.some.inj h; subst h
            exact a_zret (pc := 48) X x_Z0 x_Z0 dX0_readBook_48
      · have h := x_ifp c_24 h
        refine a_iconst (pc := 27) X dX0_readBook_27 q_ic_1 ?_
        have h := Option.some.inj h; subst h
        exact a_zret (pc := 28) X x_Z1 x_Z1 dX0_readBook_28
set_option maxRecDepth 100000 in
set_option maxHeartbeats 4000000 in
theorem c_X0_readBook {l : Launch}  {ad0 : Nat → Nat} {ad1 : Nat → Nat} {ad2 : Nat → Nat} {v0 v1 v2 : XM}   {o : Int32 × XM × XM} (h : f_X0_readBook v0 v1 v2 = some o) : CT l yX0_readBook cX0_readBook 4 (some .boolean) 6 [(shBook, ad0), (shTape, ad1), (shValley, ad2)] [v0, v1, v2] (fun aK => [.ref (ad0 0), .ref (ad1 0), .ref (ad2 0)]) (some (.int o.1)) (x_Z o.1) [o.2.1, o.2.2, v2] := by
  refine CT_of (by decide) (fun _ => Nat.le_of_ble_eq_true rfl) ?_
  intro p e s m args below meth c D tc aK aV A X
  have X : Cx p s m args meth c cX0_readBook 4 (some .boolean) RX0 D tc aK aV A [(shBook, ad0), (shTape, ad1), (shValley, ad2)] := X
  show aW p l e (x_Rm 6) s m args below meth c D tc A 4 [(shBook, ad0), (shTape, ad1), (shValley, ad2)] (some (.int o.1)) (x_Z o.1) [o.2.1, o.2.2, v2] 0 [(0, .ref (ad0 0)), (1, .ref (ad1 0)), (2, .ref (ad2 0))] [] [v0, v1, v2]
  unfold f_X0_readBook at h
  refine a_aload_n (pc := 0) X 0 dX0_readBook_0 rfl rfl ?_
  refine a_iconst (pc := 1) X dX0_readBook_1 q_ic_0 ?_
  refine a_putI (pc := 2) X 0 fl_RX0_29 rfl rfl rfl rfl dX0_readBook_2 ?_
  obtain ⟨m3, e_m3, h⟩ := x_lt_elim h
  refine a_nm (vs2 := [m3, v1, v2]) (congrArg (fun q : XM => [q, v1, v2]) e_m3) ?_
  refine a_aload_n (pc := 5) X 1 dX0_readBook_5 rfl rfl ?_
  refine a_sipush (pc := 6) X dX0_readBook_6 q_sp_400 ?_
  obtain ⟨y4, e_y4, h⟩ := x_bo_elim h
  refine a_callV (pc := 9) (st2 := []) (vs2 := [m3, y4, v2]) X [(1, 0, 4)] [some y4] 1 0 8 [.int (400 : Int32)] [] cv_RX0_33 (c_X8_open (ad0 := ad1)  e_y4) rfl rfl rfl rfl rfl rfl rfl rfl rfl rfl rfl rfl rfl rfl rfl (Nat.le_of_ble_eq_true rfl) ⟨Nat.le_of_ble_eq_true rfl, Nat.le_of_ble_eq_true rfl⟩ dX0_readBook_9 (fun _ => ?_)
  refine a_iconst (pc := 12) X dX0_readBook_12 q_ic_0 ?_
  refine a_istore_n (pc := 13) X [(3, .int (0 : Int32)), (0, .ref (ad0 0)), (1, .ref (ad1 0)), (2, .ref (ad2 0))] dX0_readBook_13 rfl (by decide) rfl ?_
  refine a_sub [1, 2, 3, 0] rfl ?_
  exact w_X0_readBook_14 X    x_NN _ _ _ h
theorem dX10_isGoing_0 : decode cX10_isGoing 0 = .ok (.aload_n 0, 1) := by decide +kernel
theorem dX10_isGoing_1 : decode cX10_isGoing 1 = .ok (.getfield 21, 3) := by decide +kernel
theorem dX10_isGoing_4 : decode cX10_isGoing 4 = .ok (.getfield 48, 3) := by decide +kernel
theorem dX10_isGoing_7 : decode cX10_isGoing 7 = .ok (.iload_n 1, 1) := by decide +kernel
theorem dX10_isGoing_8 : decode cX10_isGoing 8 = .ok (.invokevirtual 52, 3) := by decide +kernel
theorem dX10_isGoing_11 : decode cX10_isGoing 11 = .ok (.ifCond .le 7, 3) := by decide +kernel
theorem dX10_isGoing_14 : decode cX10_isGoing 14 = .ok (.iconst 1, 1) := by decide +kernel
theorem dX10_isGoing_15 : decode cX10_isGoing 15 = .ok (.goto 4, 3) := by decide +kernel
theorem dX10_isGoing_18 : decode cX10_isGoing 18 = .ok (.iconst 0, 1) := by decide +kernel
theorem dX10_isGoing_19 : decode cX10_isGoing 19 = .ok (.ireturn, 1) := by decide +kernel
def f_X10_isGoing (v0 : XM) (x0 : Int32) : Int32 :=
  x_lt (r_get 5 (x_sub v0 22) x0) (fun y1 =>
  if y1 ≤ (0 : Int32) then
  (((0 : Int32) : Int32))
  else (((1 : Int32) : Int32)))
set_option maxRecDepth 100000 in
set_option maxHeartbeats 4000000 in
theorem c_X10_isGoing {l : Launch}  {ad0 : Nat → Nat} {v0 : XM} {x0 : Int32}  {o : Int32} (h : f_X10_isGoing v0 x0 = o) : CT l yX10_isGoing cX10_isGoing 2 (some .boolean) 1 [(shWorld, ad0)] [v0] (fun aK => [.ref (ad0 0), .int x0]) (some (.int o)) (x_Z o) [v0] := by
  refine CT_of (by decide) (fun _ => Nat.le_of_ble_eq_true rfl) ?_
  intro p e s m args below meth c D tc aK aV A X
  have X : Cx p s m args meth c cX10_isGoing 2 (some .boolean) RX10 D tc aK aV A [(shWorld, ad0)] := X
  show aW p l e (x_Rm 1) s m args below meth c D tc A 2 [(shWorld, ad0)] (some (.int o)) (x_Z o) [v0] 0 [(0, .ref (ad0 0)), (1, .int x0)] [] [v0]
  unfold f_X10_isGoing at h
  refine a_aload_n (pc := 0) X 0 dX10_isGoing_0 rfl rfl ?_
  refine a_getR (pc := 1) X 0 17 17 fl_RX10_21 rfl rfl rfl rfl rfl dX10_isGoing_1 ?_
  refine a_getR (pc := 4) X 0 5 22 fl_RX10_48 rfl rfl rfl rfl rfl dX10_isGoing_4 ?_
  refine a_iload_n (pc := 7) X 1 dX10_isGoing_7 rfl rfl ?_
  obtain ⟨y1, e_y1, h⟩ := x_lt_elim h
  refine a_callV (pc := 8) (st2 := [.int y1]) (vs2 := [v0]) X [(0, 22, 2)] [none] 0 22 3 [.int x0] [] cv_RX10_52 (ct_get (ad0 := (fun i => ad0 (i + 22))) (by decide) e_y1) rfl rfl rfl rfl rfl rfl rfl rfl rfl rfl rfl rfl rfl rfl rfl (Nat.le_of_ble_eq_true rfl) ⟨Nat.le_of_ble_eq_true rfl, Nat.le_of_ble_eq_true rfl⟩ dX10_isGoing_8 (fun _ => ?_)
  refine a_if_le (pc := 11) X 18 dX10_isGoing_11 rfl (fun c_11 => ?_) (fun c_11 => ?_)
  · have h := x_ifp c_11 h
    refine a_iconst (pc := 18) X dX10_isGoing_18 q_ic_0 ?_
    subst h
    exact a_zret (pc := 19) X x_Z0 x_Z0 dX10_isGoing_19
  · have h := x_ifn c_11 h
    refine a_iconst (pc := 14) X dX10_isGoing_14 q_ic_1 ?_
    refine a_goto (pc := 15) X 19 dX10_isGoing_15 rfl ?_
    subst h
    exact a_zret (pc := 19) X x_Z1 x_Z1 dX10_isGoing_19
theorem dX10_passHour_0 : decode cX10_passHour 0 = .ok (.iconst 0, 1) := by decide +kernel
theorem dX10_passHour_1 : decode cX10_passHour 1 = .ok (.istore_n 1, 1) := by decide +kernel
theorem dX10_passHour_2 : decode cX10_passHour 2 = .ok (.iload_n 1, 1) := by decide +kernel
theorem dX10_passHour_3 : decode cX10_passHour 3 = .ok (.aload_n 0, 1) := by decide +kernel
theorem dX10_passHour_4 : decode cX10_passHour 4 = .ok (.getfield 12, 3) := by decide +kernel
theorem dX10_passHour_7 : decode cX10_passHour 7 = .ok (.getfield 88, 3) := by decide +kernel
theorem dX10_passHour_10 : decode cX10_passHour 10 = .ok (.if_icmp .ge 80, 3) := by decide +kernel
theorem dX10_passHour_13 : decode cX10_passHour 13 = .ok (.aload_n 0, 1) := by decide +kernel
theorem dX10_passHour_14 : decode cX10_passHour 14 = .ok (.iload_n 1, 1) := by decide +kernel
theorem dX10_passHour_15 : decode cX10_passHour 15 = .ok (.invokevirtual 58, 3) := by decide +kernel
theorem dX10_passHour_18 : decode cX10_passHour 18 = .ok (.ifCond .eq 66, 3) := by decide +kernel
theorem dX10_passHour_21 : decode cX10_passHour 21 = .ok (.aload_n 0, 1) := by decide +kernel
theorem dX10_passHour_22 : decode cX10_passHour 22 = .ok (.getfield 21, 3) := by decide +kernel
theorem dX10_passHour_25 : decode cX10_passHour 25 = .ok (.getfield 104, 3) := by decide +kernel
theorem dX10_passHour_28 : decode cX10_passHour 28 = .ok (.iload_n 1, 1) := by decide +kernel
theorem dX10_passHour_29 : decode cX10_passHour 29 = .ok (.iconst 1, 1) := by decide +kernel
theorem dX10_passHour_30 : decode cX10_passHour 30 = .ok (.invokevirtual 156, 3) := by decide +kernel
theorem dX10_passHour_33 : decode cX10_passHour 33 = .ok (.aload_n 0, 1) := by decide +kernel
theorem dX10_passHour_34 : decode cX10_passHour 34 = .ok (.getfield 21, 3) := by decide +kernel
theorem dX10_passHour_37 : decode cX10_passHour 37 = .ok (.getfield 48, 3) := by decide +kernel
theorem dX10_passHour_40 : decode cX10_passHour 40 = .ok (.iload_n 1, 1) := by decide +kernel
theorem dX10_passHour_41 : decode cX10_passHour 41 = .ok (.iconst (-1), 1) := by decide +kernel
theorem dX10_passHour_42 : decode cX10_passHour 42 = .ok (.invokevirtual 156, 3) := by decide +kernel
theorem dX10_passHour_45 : decode cX10_passHour 45 = .ok (.aload_n 0, 1) := by decide +kernel
theorem dX10_passHour_46 : decode cX10_passHour 46 = .ok (.getfield 21, 3) := by decide +kernel
theorem dX10_passHour_49 : decode cX10_passHour 49 = .ok (.getfield 48, 3) := by decide +kernel
theorem dX10_passHour_52 : decode cX10_passHour 52 = .ok (.iload_n 1, 1) := by decide +kernel
theorem dX10_passHour_53 : decode cX10_passHour 53 = .ok (.invokevirtual 52, 3) := by decide +kernel
theorem dX10_passHour_56 : decode cX10_passHour 56 = .ok (.ifCond .ne 28, 3) := by decide +kernel
theorem dX10_passHour_59 : decode cX10_passHour 59 = .ok (.aload_n 0, 1) := by decide +kernel
theorem dX10_passHour_60 : decode cX10_passHour 60 = .ok (.getfield 21, 3) := by decide +kernel
theorem dX10_passHour_63 : decode cX10_passHour 63 = .ok (.getfield 91, 3) := by decide +kernel
theorem dX10_passHour_66 : decode cX10_passHour 66 = .ok (.iload_n 1, 1) := by decide +kernel
theorem dX10_passHour_67 : decode cX10_passHour 67 = .ok (.iconst (-1), 1) := by decide +kernel
theorem dX10_passHour_68 : decode cX10_passHour 68 = .ok (.invokevirtual 137, 3) := by decide +kernel
theorem dX10_passHour_71 : decode cX10_passHour 71 = .ok (.aload_n 0, 1) := by decide +kernel
theorem dX10_passHour_72 : decode cX10_passHour 72 = .ok (.getfield 21, 3) := by decide +kernel
theorem dX10_passHour_75 : decode cX10_passHour 75 = .ok (.dup, 1) := by decide +kernel
theorem dX10_passHour_76 : decode cX10_passHour 76 = .ok (.getfield 159, 3) := by decide +kernel
theorem dX10_passHour_79 : decode cX10_passHour 79 = .ok (.iconst 1, 1) := by decide +kernel
theorem dX10_passHour_80 : decode cX10_passHour 80 = .ok (.iadd, 1) := by decide +kernel
theorem dX10_passHour_81 : decode cX10_passHour 81 = .ok (.putfield 159, 3) := by decide +kernel
theorem dX10_passHour_84 : decode cX10_passHour 84 = .ok (.iinc 1 1, 3) := by decide +kernel
theorem dX10_passHour_87 : decode cX10_passHour 87 = .ok (.goto (-85), 3) := by decide +kernel
theorem dX10_passHour_90 : decode cX10_passHour 90 = .ok (.iconst 0, 1) := by decide +kernel
theorem dX10_passHour_91 : decode cX10_passHour 91 = .ok (.istore_n 1, 1) := by decide +kernel
theorem dX10_passHour_92 : decode cX10_passHour 92 = .ok (.iload_n 1, 1) := by decide +kernel
theorem dX10_passHour_93 : decode cX10_passHour 93 = .ok (.aload_n 0, 1) := by decide +kernel
theorem dX10_passHour_94 : decode cX10_passHour 94 = .ok (.getfield 12, 3) := by decide +kernel
theorem dX10_passHour_97 : decode cX10_passHour 97 = .ok (.getfield 81, 3) := by decide +kernel
theorem dX10_passHour_100 : decode cX10_passHour 100 = .ok (.if_icmp .ge 35, 3) := by decide +kernel
theorem dX10_passHour_103 : decode cX10_passHour 103 = .ok (.aload_n 0, 1) := by decide +kernel
theorem dX10_passHour_104 : decode cX10_passHour 104 = .ok (.getfield 21, 3) := by decide +kernel
theorem dX10_passHour_107 : decode cX10_passHour 107 = .ok (.getfield 98, 3) := by decide +kernel
theorem dX10_passHour_110 : decode cX10_passHour 110 = .ok (.iload_n 1, 1) := by decide +kernel
theorem dX10_passHour_111 : decode cX10_passHour 111 = .ok (.invokevirtual 52, 3) := by decide +kernel
theorem dX10_passHour_114 : decode cX10_passHour 114 = .ok (.ifCond .le 15, 3) := by decide +kernel
theorem dX10_passHour_117 : decode cX10_passHour 117 = .ok (.aload_n 0, 1) := by decide +kernel
theorem dX10_passHour_118 : decode cX10_passHour 118 = .ok (.getfield 21, 3) := by decide +kernel
theorem dX10_passHour_121 : decode cX10_passHour 121 = .ok (.getfield 98, 3) := by decide +kernel
theorem dX10_passHour_124 : decode cX10_passHour 124 = .ok (.iload_n 1, 1) := by decide +kernel
theorem dX10_passHour_125 : decode cX10_passHour 125 = .ok (.iconst (-1), 1) := by decide +kernel
theorem dX10_passHour_126 : decode cX10_passHour 126 = .ok (.invokevirtual 156, 3) := by decide +kernel
theorem dX10_passHour_129 : decode cX10_passHour 129 = .ok (.iinc 1 1, 3) := by decide +kernel
theorem dX10_passHour_132 : decode cX10_passHour 132 = .ok (.goto (-40), 3) := by decide +kernel
theorem dX10_passHour_135 : decode cX10_passHour 135 = .ok (.aload_n 0, 1) := by decide +kernel
theorem dX10_passHour_136 : decode cX10_passHour 136 = .ok (.getfield 21, 3) := by decide +kernel
theorem dX10_passHour_139 : decode cX10_passHour 139 = .ok (.dup, 1) := by decide +kernel
theorem dX10_passHour_140 : decode cX10_passHour 140 = .ok (.getfield 150, 3) := by decide +kernel
theorem dX10_passHour_143 : decode cX10_passHour 143 = .ok (.iconst 1, 1) := by decide +kernel
theorem dX10_passHour_144 : decode cX10_passHour 144 = .ok (.iadd, 1) := by decide +kernel
theorem dX10_passHour_145 : decode cX10_passHour 145 = .ok (.putfield 150, 3) := by decide +kernel
theorem dX10_passHour_148 : decode cX10_passHour 148 = .ok (.return_, 1) := by decide +kernel
def f_X10_passHour_84 (k2 : XM → Int32 → Option (XM)) (w0 : XM) (l1 : Int32) : Option (XM) :=
  k2 w0 (l1 + 1)
def f_X10_passHour_129 (k92 : XM → Int32 → Option (XM)) (w0 : XM) (l1 : Int32) : Option (XM) :=
  k92 w0 (l1 + 1)
def f_X10_passHour_92 (k92 : XM → Int32 → Option (XM)) (w0 : XM) (l1 : Int32) : Option (XM) :=
  if ((w0.1 1 1) : Int32) ≤ l1 then
  (x_lt (x_si w0 17 0 ((w0.1 17 0) + (1 : Int32))) (fun m1 =>
  some m1))
  else (x_lt (r_get 12 (x_sub w0 30) l1) (fun y2 =>
  if y2 ≤ (0 : Int32) then
  (f_X10_passHour_129  k92 w0 l1)
  else (x_lt (r_add 12 (x_sub w0 30) l1 (-1 : Int32)) (fun y3 =>
  x_lt (x_put w0 30 2 y3) (fun m4 =>
  f_X10_passHour_129  k92 m4 l1)))))
def f_X10_passHour_2 (k2 : XM → Int32 → Option (XM)) (w0 : XM) (l1 : Int32) : Option (XM) :=
  if ((w0.1 1 3) : Int32) ≤ l1 then
  (x_lp (φ := XM → Int32 → Option (XM)) (fun _ _ => none) (f_X10_passHour_92  ) x_NN w0 (0 : Int32))
  else (x_lt (f_X10_isGoing w0 l1) (fun y5 =>
  if y5 = (0 : Int32) then
  (f_X10_passHour_84  k2 w0 l1)
  else (x_lt (r_add 5 (x_sub w0 24) l1 (1 : Int32)) (fun y6 =>
  x_lt (x_put w0 24 2 y6) (fun m7 =>
  x_lt (r_add 5 (x_sub m7 22) l1 (-1 : Int32)) (fun y8 =>
  x_lt (x_put m7 22 2 y8) (fun m9 =>
  x_lt (r_get 5 (x_sub m9 22) l1) (fun y10 =>
  if y10 = (0 : Int32) then
  (x_lt (r_put 5 (x_sub m9 20) l1 (-1 : Int32)) (fun y11 =>
  x_lt (x_put m9 20 2 y11) (fun m12 =>
  x_lt (x_si m12 17 2 ((m12.1 17 2) + (1 : Int32))) (fun m13 =>
  f_X10_passHour_84  k2 m13 l1))))
  else (f_X10_passHour_84  k2 m9 l1)))))))))
def f_X10_passHour (v0 : XM) : Option (XM) :=
  x_lp (φ := XM → Int32 → Option (XM)) (fun _ _ => none) (f_X10_passHour_2  ) x_NN v0 (0 : Int32)
set_option maxRecDepth 100000 in
set_option maxHeartbeats 4000000 in
theorem w_X10_passHour_84 {p : Program} {l : Launch} {e : Env} {s : State} {m : MethodId} {args : Array Value} {below : List Frame} {meth : Method} {c : Code} {D : va_G} {tc : Nat → ClassId} {aK aV : Nat → Nat} {A : Nat → Prop} {ad0 : Nat → Nat}  (X : Cx p s m args meth c cX10_passHour 2 none RX10 D tc aK aV A [(shWorld, ad0)])  {o : XM} {k2 : XM → Int32 → Option (XM)} (hk2 : ∀ (w0 : XM) (l1 : Int32), k2 w0 l1 = some o → aW p l e (x_Rm 2) s m args below meth c D tc A 2 [(shWorld, ad0)] none True [o] 2 [(0, .ref (ad0 0)), (1, .int l1)] [] [w0]) {w0 : XM} {l1 : Int32}  (h : f_X10_passHour_84  k2 w0 l1 = some o) : aW p l e (x_Rm 2) s m args below meth c D tc A 2 [(shWorld, ad0)] none True [o] 84 [(0, .ref (ad0 0)), (1, .int l1)] [] [w0] := by
  unfold f_X10_passHour_84 at h
  refine a_iinc (pc := 84) X 1 [(1, .int (l1 + 1)), (0, .ref (ad0 0))] dX10_passHour_84 rfl (congrArg (HAdd.hAdd l1) q_ic_1) (by decide) rfl ?_
  refine a_goto (pc := 87) X 2 dX10_passHour_87 rfl ?_
  refine a_sub [1, 0] rfl ?_
  exact hk2 _ _ h
set_option maxRecDepth 100000 in
set_option maxHeartbeats 4000000 in
theorem w_X10_passHour_129 {p : Program} {l : Launch} {e : Env} {s : State} {m : MethodId} {args : Array Value} {below : List Frame} {meth : Method} {c : Code} {D : va_G} {tc : Nat → ClassId} {aK aV : Nat → Nat} {A : Nat → Prop} {ad0 : Nat → Nat}  (X : Cx p s m args meth c cX10_passHour 2 none RX10 D tc aK aV A [(shWorld, ad0)])  {o : XM} {k92 : XM → Int32 → Option (XM)} (hk92 : ∀ (w0 : XM) (l1 : Int32), k92 w0 l1 = some o → aW p l e (x_Rm 2) s m args below meth c D tc A 2 [(shWorld, ad0)] none True [o] 92 [(0, .ref (ad0 0)), (1, .int l1)] [] [w0]) {w0 : XM} {l1 : Int32}  (h : f_X10_passHour_129  k92 w0 l1 = some o) : aW p l e (x_Rm 2) s m args below meth c D tc A 2 [(shWorld, ad0)] none True [o] 129 [(0, .ref (ad0 0)), (1, .int l1)] [] [w0] := by
  unfold f_X10_passHour_129 at h
  refine a_iinc (pc := 129) X 1 [(1, .int (l1 + 1)), (0, .ref (ad0 0))] dX10_passHour_129 rfl (congrArg (HAdd.hAdd l1) q_ic_1) (by decide) rfl ?_
  refine a_goto (pc := 132) X 92 dX10_passHour_132 rfl ?_
  refine a_sub [1, 0] rfl ?_
  exact hk92 _ _ h
set_option maxRecDepth 100000 in
set_option maxHeartbeats 4000000 in
theorem w_X10_passHour_92 {p : Program} {l : Launch} {e : Env} {s : State} {m : MethodId} {args : Array Value} {below : List Frame} {meth : Method} {c : Code} {D : va_G} {tc : Nat → ClassId} {aK aV : Nat → Nat} {A : Nat → Prop} {ad0 : Nat → Nat}  (X : Cx p s m args meth c cX10_passHour 2 none RX10 D tc aK aV A [(shWorld, ad0)])  {o : XM}  : ∀ (n : Nat), ∀ (w0 : XM) (l1 : Int32), x_lp (φ := XM → Int32 → Option (XM)) (fun _ _ => none) (f_X10_passHour_92  ) n w0 l1 = some o → aW p l e (x_Rm 2) s m args below meth c D tc A 2 [(shWorld, ad0)] none True [o] 92 [(0, .ref (ad0 0)), (1, .int l1)] [] [w0] := by
  intro n
  induction n with
  | zero => intro w0 l1 h; exact absurd h (fun q => by cases q)
  | succ n ih =>
    intro w0 l1 h
    have h : f_X10_passHour_92   (x_lp (φ := XM → Int32 → Option (XM)) (fun _ _ => none) (f_X10_passHour_92  ) n) w0 l1 = some o := h
    generalize x_lp (φ := XM → Int32 → Option (XM)) (fun _ _ => none) (f_X10_passHour_92  ) n = k92 at h ih
    have hk92 := ih
    unfold f_X10_passHour_92 at h
    refine a_iload_n (pc := 92) X 1 dX10_passHour_92 rfl rfl ?_
    refine a_aload_n (pc := 93) X 0 dX10_passHour_93 rfl rfl ?_
    refine a_getR (pc := 94) X 0 1 1 fl_RX10_12 rfl rfl rfl rfl rfl dX10_passHour_94 ?_
    refine a_getI (pc := 97) X 0 fl_RX10_81 rfl rfl rfl rfl dX10_passHour_97 ?_
    refine a_icmp_ge (pc := 100) X 135 dX10_passHour_100 rfl (fun c_100 => ?_) (fun c_100 => ?_)
    · have h := x_ifp c_100 h
      refine a_aload_n (pc := 135) X 0 dX10_passHour_135 rfl rfl ?_
      refine a_getR (pc := 136) X 0 17 17 fl_RX10_21 rfl rfl rfl rfl rfl dX10_passHour_136 ?_
      refine a_dup (pc := 139) X dX10_passHour_139 rfl ?_
      refine a_getI (pc := 140) X 0 fl_RX10_150 rfl rfl rfl rfl dX10_passHour_140 ?_
      refine a_iconst (pc := 143) X dX10_passHour_143 q_ic_1 ?_
      refine a_iadd (pc := 144) X dX10_passHour_144 ?_
      refine a_putI (pc := 145) X 0 fl_RX10_150 rfl rfl rfl rfl dX10_passHour_145 ?_
      obtain ⟨m1, e_m1, h⟩ := x_lt_elim h
      refine a_nm (vs2 := [m1]) (congrArg (fun q : XM => [q]) e_m1) ?_
      have h := Option.some.inj h; subst h
      exact a_vret (pc := 148) X trivial dX10_passHour_148
    · have h := x_ifn c_100 h
      refine a_aload_n (pc := 103) X 0 dX10_passHour_103 rfl rfl ?_
      refine a_getR (pc := 104) X 0 17 17 fl_RX10_21 rfl rfl rfl rfl rfl dX10_passHour_104 ?_
      refine a_getR (pc := 107) X 0 13 30 fl_RX10_98 rfl rfl rfl rfl rfl dX10_passHour_107 ?_
      refine a_iload_n (pc := 110) X 1 dX10_passHour_110 rfl rfl ?_
      obtain ⟨y2, e_y2, h⟩ := x_lt_elim h
      refine a_callV (pc := 111) (st2 := [.int y2]) (vs2 := [w0]) X [(0, 30, 2)] [none] 0 30 3 [.int l1] [] cv_RX10_52 (ct_get (ad0 := (fun i => ad0 (i + 30))) (by decide) e_y2) rfl rfl rfl rfl rfl rfl rfl rfl rfl rfl rfl rfl rfl rfl rfl (Nat.le_of_ble_eq_true rfl) ⟨Nat.le_of_ble_eq_true rfl, Nat.le_of_ble_eq_true rfl⟩ dX10_passHour_111 (fun _ => ?_)
      refine a_if_le (pc := 114) X 129 dX10_passHour_114 rfl (fun c_114 => ?_) (fun c_114 => ?_)
      · have h := x_ifp c_114 h
        exact w_X10_passHour_129 X   hk92  h
      · have h := x_ifn c_114 h
        refine a_aload_n (pc := 117) X 0 dX10_passHour_117 rfl rfl ?_
        refine a_getR (pc := 118) X 0 17 17 fl_RX10_21 rfl rfl rfl rfl rfl dX10_passHour_118 ?_
        refine a_getR (pc := 121) X 0 13 30 fl_RX10_98 rfl rfl rfl rfl rfl dX10_passHour_121 ?_
        refine a_iload_n (pc := 124) X 1 dX10_passHour_124 rfl rfl ?_
        refine a_iconst (pc := 125) X dX10_passHour_125 q_ic_m1 ?_
        obtain ⟨y3, e_y3, h⟩ := x_lt_elim h
        refine a_callV (pc := 126) (st2 := []) (vs2 := [x_put w0 30 2 y3]) X [(0, 30, 2)] [some y3] 0 30 3 [.int l1, .int (-1 : Int32)] [] cv_RX10_156 (ct_add (ad0 := (fun i => ad0 (i + 30))) (by decide) e_y3) rfl rfl rfl rfl rfl rfl rfl rfl rfl rfl rfl rfl rfl rfl rfl (Nat.le_of_ble_eq_true rfl) ⟨Nat.le_of_ble_eq_true rfl, Nat.le_of_ble_eq_true rfl⟩ dX10_passHour_126 (fun _ => ?_)
        obtain ⟨m4, e_m4, h⟩ := x_lt_elim h
        refine a_nm (vs2 := [m4]) (congrArg (fun q : XM => [q]) e_m4) ?_
        exact w_X10_passHour_129 X   hk92  h
set_option maxRecDepth 100000 in
set_option maxHeartbeats 4000000 in
theorem w_X10_passHour_2 {p : Program} {l : Launch} {e : Env} {s : State} {m : MethodId} {args : Array Value} {below : List Frame} {meth : Method} {c : Code} {D : va_G} {tc : Nat → ClassId} {aK aV : Nat → Nat} {A : Nat → Prop} {ad0 : Nat → Nat}  (X : Cx p s m args meth c cX10_passHour 2 none RX10 D tc aK aV A [(shWorld, ad0)])  {o : XM}  : ∀ (n : Nat), ∀ (w0 : XM) (l1 : Int32), x_lp (φ := XM → Int32 → Option (XM)) (fun _ _ => none) (f_X10_passHour_2  ) n w0 l1 = some o → aW p l e (x_Rm 2) s m args below meth c D tc A 2 [(shWorld, ad0)] none True [o] 2 [(0, .ref (ad0 0)), (1, .int l1)] [] [w0] := by
  intro n
  induction n with
  | zero => intro w0 l1 h; exact absurd h (fun q => by cases q)
  | succ n ih =>
    intro w0 l1 h
    have h : f_X10_passHour_2   (x_lp (φ := XM → Int32 → Option (XM)) (fun _ _ => none) (f_X10_passHour_2  ) n) w0 l1 = some o := h
    generalize x_lp (φ := XM → Int32 → Option (XM)) (fun _ _ => none) (f_X10_passHour_2  ) n = k2 at h ih
    have hk2 := ih
    unfold f_X10_passHour_2 at h
    refine a_iload_n (pc := 2) X 1 dX10_passHour_2 rfl rfl ?_
    refine a_aload_n (pc := 3) X 0 dX10_passHour_3 rfl rfl ?_
    refine a_getR (pc := 4) X 0 1 1 fl_RX10_12 rfl rfl rfl rfl rfl dX10_passHour_4 ?_
    refine a_getI (pc := 7) X 0 fl_RX10_88 rfl rfl rfl rfl dX10_passHour_7 ?_
    refine a_icmp_ge (pc := 10) X 90 dX10_passHour_10 rfl (fun c_10 => ?_) (fun c_10 => ?_)
    · have h := x_ifp c_10 h
      refine a_iconst (pc := 90) X dX10_passHour_90 q_ic_0 ?_
      refine a_istore_n (pc := 91) X [(1, .int (0 : Int32)), (0, .ref (ad0 0))] dX10_passHour_91 rfl (by decide) rfl ?_
      refine a_sub [1, 0] rfl ?_
      exact w_X10_passHour_92 X    x_NN _ _ h
    · have h := x_ifn c_10 h
      refine a_aload_n (pc := 13) X 0 dX10_passHour_13 rfl rfl ?_
      refine a_iload_n (pc := 14) X 1 dX10_passHour_14 rfl rfl ?_
      obtain ⟨y5, e_y5, h⟩ := x_lt_elim h
      refine a_callV (pc := 15) (st2 := [.int y5]) (vs2 := [w0]) X [(0, 0, 32)] [none] 0 0 10 [.int l1] [] cv_RX10_58 (c_X10_isGoing (ad0 := ad0)  e_y5) rfl rfl rfl rfl rfl rfl rfl rfl rfl rfl rfl rfl rfl rfl rfl (Nat.le_of_ble_eq_true rfl) ⟨Nat.le_of_ble_eq_true rfl, Nat.le_of_ble_eq_true rfl⟩ dX10_passHour_15 (fun z_15 => ?_)
      refine a_if_eq (pc := 18) X 84 dX10_passHour_18 rfl (fun c_18 => ?_) (fun c_18 => ?_)
      · have h := x_ifp c_18 h
        exact w_X10_passHour_84 X   hk2  h
      · have h := x_ifn c_18 h
        refine a_aload_n (pc := 21) X 0 dX10_passHour_21 rfl rfl ?_
        refine a_getR (pc := 22) X 0 17 17 fl_RX10_21 rfl rfl rfl rfl rfl dX10_passHour_22 ?_
        refine a_getR (pc := 25) X 0 7 24 fl_RX10_104 rfl rfl rfl rfl rfl dX10_passHour_25 ?_
        refine a_iload_n (pc := 28) X 1 dX10_passHour_28 rfl rfl ?_
        refine a_iconst (pc := 29) X dX10_passHour_29 q_ic_1 ?_
        obtain ⟨y6, e_y6, h⟩ := x_lt_elim h
        refine a_callV (pc := 30) (st2 := []) (vs2 := [x_put w0 24 2 y6]) X [(0, 24, 2)] [some y6] 0 24 3 [.int l1, .int (1 : Int32)] [] cv_RX10_156 (ct_add (ad0 := (fun i => ad0 (i + 24))) (by decide) e_y6) rfl rfl rfl rfl rfl rfl rfl rfl rfl rfl rfl rfl rfl rfl rfl (Nat.le_of_ble_eq_true rfl) ⟨Nat.le_of_ble_eq_true rfl, Nat.le_of_ble_eq_true rfl⟩ dX10_passHour_30 (fun _ => ?_)
        obtain ⟨m7, e_m7, h⟩ := x_lt_elim h
        refine a_nm (vs2 := [m7]) (congrArg (fun q : XM => [q]) e_m7) ?_
        refine a_aload_n (pc := 33) X 0 dX10_passHour_33 rfl rfl ?_
        refine a_getR (pc := 34) X 0 17 17 fl_RX10_21 rfl rfl rfl rfl rfl dX10_passHour_34 ?_
        refine a_getR (pc := 37) X 0 5 22 fl_RX10_48 rfl rfl rfl rfl rfl dX10_passHour_37 ?_
        refine a_iload_n (pc := 40) X 1 dX10_passHour_40 rfl rfl ?_
        refine a_iconst (pc := 41) X dX10_passHour_41 q_ic_m1 ?_
        obtain ⟨y8, e_y8, h⟩ := x_lt_elim h
        refine a_callV (pc := 42) (st2 := []) (vs2 := [x_put m7 22 2 y8]) X [(0, 22, 2)] [some y8] 0 22 3 [.int l1, .int (-1 : Int32)] [] cv_RX10_156 (ct_add (ad0 := (fun i => ad0 (i + 22))) (by decide) e_y8) rfl rfl rfl rfl rfl rfl rfl rfl rfl rfl rfl rfl rfl rfl rfl (Nat.le_of_ble_eq_true rfl) ⟨Nat.le_of_ble_eq_true rfl, Nat.le_of_ble_eq_true rfl⟩ dX10_passHour_42 (fun _ => ?_)
        obtain ⟨m9, e_m9, h⟩ := x_lt_elim h
        refine a_nm (vs2 := [m9]) (congrArg (fun q : XM => [q]) e_m9) ?_
        refine a_aload_n (pc := 45) X 0 dX10_passHour_45 rfl rfl ?_
        refine a_getR (pc := 46) X 0 17 17 fl_RX10_21 rfl rfl rfl rfl rfl dX10_passHour_46 ?_
        refine a_getR (pc := 49) X 0 5 22 fl_RX10_48 rfl rfl rfl rfl rfl dX10_passHour_49 ?_
        refine a_iload_n (pc := 52) X 1 dX10_passHour_52 rfl rfl ?_
        obtain ⟨y10, e_y10, h⟩ := x_lt_elim h
        refine a_callV (pc := 53) (st2 := [.int y10]) (vs2 := [m9]) X [(0, 22, 2)] [none] 0 22 3 [.int l1] [] cv_RX10_52 (ct_get (ad0 := (fun i => ad0 (i + 22))) (by decide) e_y10) rfl rfl rfl rfl rfl rfl rfl rfl rfl rfl rfl rfl rfl rfl rfl (Nat.le_of_ble_eq_true rfl) ⟨Nat.le_of_ble_eq_true rfl, Nat.le_of_ble_eq_true rfl⟩ dX10_passHour_53 (fun _ => ?_)
        refine a_if_ne (pc := 56) X 84 dX10_passHour_56 rfl (fun c_56 => ?_) (fun c_56 => ?_)
        · have h := x_ifn c_56 h
          exact w_X10_passHour_84 X   hk2  h
        · have h := x_ifp c_56 h
          refine a_aload_n (pc := 59) X 0 dX10_passHour_59 rfl rfl ?_
          refine a_getR (pc := 60) X 0 17 17 fl_RX10_21 rfl rfl rfl rfl rfl dX10_passHour_60 ?_
          refine a_getR (pc := 63) X 0 3 20 fl_RX10_91 rfl rfl rfl rfl rfl dX10_passHour_63 ?_
          refine a_iload_n (pc := 66) X 1 dX10_passHour_66 rfl rfl ?_
          refine a_iconst (pc := 67) X dX10_passHour_67 q_ic_m1 ?_
          obtain ⟨y11, e_y11, h⟩ := x_lt_elim h
          refine a_callV (pc := 68) (st2 := []) (vs2 := [x_put m9 20 2 y11]) X [(0, 20, 2)] [some y11] 0 20 3 [.int l1, .int (-1 : Int32)] [] cv_RX10_137 (ct_put (ad0 := (fun i => ad0 (i + 20))) (by decide) e_y11) rfl rfl rfl rfl rfl rfl rfl rfl rfl rfl rfl rfl rfl rfl rfl (Nat.le_of_ble_eq_true rfl) ⟨Nat.le_of_ble_eq_true rfl, Nat.le_of_ble_eq_true rfl⟩ dX10_passHour_68 (fun _ => ?_)
          obtain ⟨m12, e_m12, h⟩ := x_lt_elim h
          refine a_nm (vs2 := [m12]) (congrArg (fun q : XM => [q]) e_m12) ?_
          refine a_aload_n (pc := 71) X 0 dX10_passHour_71 rfl rfl ?_
          refine a_getR (pc := 72) X 0 17 17 fl_RX10_21 rfl rfl rfl rfl rfl dX10_passHour_72 ?_
          refine a_dup (pc := 75) X dX10_passHour_75 rfl ?_
          refine a_getI (pc := 76) X 0 fl_RX10_159 rfl rfl rfl rfl dX10_passHour_76 ?_
          refine a_iconst (pc := 79) X dX10_passHour_79 q_ic_1 ?_
          refine a_iadd (pc := 80) X dX10_passHour_80 ?_
          refine a_putI (pc := 81) X 0 fl_RX10_159 rfl rfl rfl rfl dX10_passHour_81 ?_
          obtain ⟨m13, e_m13, h⟩ := x_lt_elim h
          refine a_nm (vs2 := [m13]) (congrArg (fun q : XM => [q]) e_m13) ?_
          exact w_X10_passHour_84 X   hk2  h
set_option maxRecDepth 100000 in
set_option maxHeartbeats 4000000 in
theorem c_X10_passHour {l : Launch}  {ad0 : Nat → Nat} {v0 : XM}   {o : XM} (h : f_X10_passHour v0 = some o) : CT l yX10_passHour cX10_passHour 2 none 2 [(shWorld, ad0)] [v0] (fun aK => [.ref (ad0 0)]) none True [o] := by
  refine CT_of (by decide) (fun _ => Nat.le_of_ble_eq_true rfl) ?_
  intro p e s m args below meth c D tc aK aV A X
  have X : Cx p s m args meth c cX10_passHour 2 none RX10 D tc aK aV A [(shWorld, ad0)] := X
  show aW p l e (x_Rm 2) s m args below meth c D tc A 2 [(shWorld, ad0)] none True [o] 0 [(0, .ref (ad0 0))] [] [v0]
  unfold f_X10_passHour at h
  refine a_iconst (pc := 0) X dX10_passHour_0 q_ic_0 ?_
  refine a_istore_n (pc := 1) X [(1, .int (0 : Int32)), (0, .ref (ad0 0))] dX10_passHour_1 rfl (by decide) rfl ?_
  refine a_sub [1, 0] rfl ?_
  exact w_X10_passHour_2 X    x_NN _ _ h
theorem dX10_passHours_0 : decode cX10_passHours 0 = .ok (.iconst 0, 1) := by decide +kernel
theorem dX10_passHours_1 : decode cX10_passHours 1 = .ok (.istore_n 2, 1) := by decide +kernel
theorem dX10_passHours_2 : decode cX10_passHours 2 = .ok (.iload_n 2, 1) := by decide +kernel
theorem dX10_passHours_3 : decode cX10_passHours 3 = .ok (.iload_n 1, 1) := by decide +kernel
theorem dX10_passHours_4 : decode cX10_passHours 4 = .ok (.if_icmp .ge 26, 3) := by decide +kernel
theorem dX10_passHours_7 : decode cX10_passHours 7 = .ok (.aload_n 0, 1) := by decide +kernel
theorem dX10_passHours_8 : decode cX10_passHours 8 = .ok (.getfield 21, 3) := by decide +kernel
theorem dX10_passHours_11 : decode cX10_passHours 11 = .ok (.getfield 150, 3) := by decide +kernel
theorem dX10_passHours_14 : decode cX10_passHours 14 = .ok (.sipush 400, 3) := by decide +kernel
theorem dX10_passHours_17 : decode cX10_passHours 17 = .ok (.if_icmp .ge 13, 3) := by decide +kernel
theorem dX10_passHours_20 : decode cX10_passHours 20 = .ok (.aload_n 0, 1) := by decide +kernel
theorem dX10_passHours_21 : decode cX10_passHours 21 = .ok (.invokevirtual 153, 3) := by decide +kernel
theorem dX10_passHours_24 : decode cX10_passHours 24 = .ok (.iinc 2 1, 3) := by decide +kernel
theorem dX10_passHours_27 : decode cX10_passHours 27 = .ok (.goto (-25), 3) := by decide +kernel
theorem dX10_passHours_30 : decode cX10_passHours 30 = .ok (.iload_n 2, 1) := by decide +kernel
theorem dX10_passHours_31 : decode cX10_passHours 31 = .ok (.ireturn, 1) := by decide +kernel
def f_X10_passHours_2 (k2 : XM → Int32 → Int32 → Option (Int32 × XM)) (w0 : XM) (l1 : Int32) (l2 : Int32) : Option (Int32 × XM) :=
  if (l1 : Int32) ≤ l2 then
  (some (l2, w0))
  else (if ((400 : Int32) : Int32) ≤ (w0.1 17 0) then
  (some (l2, w0))
  else (x_bo (f_X10_passHour w0) (fun y1 =>
  k2 y1 l1 (l2 + 1))))
def f_X10_passHours (v0 : XM) (x0 : Int32) : Option (Int32 × XM) :=
  x_lp (φ := XM → Int32 → Int32 → Option (Int32 × XM)) (fun _ _ _ => none) (f_X10_passHours_2  ) x_NN v0 x0 (0 : Int32)
set_option maxRecDepth 100000 in
set_option maxHeartbeats 4000000 in
theorem w_X10_passHours_2 {p : Program} {l : Launch} {e : Env} {s : State} {m : MethodId} {args : Array Value} {below : List Frame} {meth : Method} {c : Code} {D : va_G} {tc : Nat → ClassId} {aK aV : Nat → Nat} {A : Nat → Prop} {ad0 : Nat → Nat}  (X : Cx p s m args meth c cX10_passHours 3 (some .int) RX10 D tc aK aV A [(shWorld, ad0)])  {o : Int32 × XM}  : ∀ (n : Nat), ∀ (w0 : XM) (l1 : Int32) (l2 : Int32), x_lp (φ := XM → Int32 → Int32 → Option (Int32 × XM)) (fun _ _ _ => none) (f_X10_passHours_2  ) n w0 l1 l2 = some o → aW p l e (x_Rm 3) s m args below meth c D tc A 3 [(shWorld, ad0)] (some (.int o.1)) True [o.2] 2 [(0, .ref (ad0 0)), (1, .int l1), (2, .int l2)] [] [w0] := by
  intro n
  induction n with
  | zero => intro w0 l1 l2 h; exact absurd h (fun q => by cases q)
  | succ n ih =>
    intro w0 l1 l2 h
    have h : f_X10_passHours_2   (x_lp (φ := XM → Int32 → Int32 → Option (Int32 × XM)) (fun _ _ _ => none) (f_X10_passHours_2  ) n) w0 l1 l2 = some o := h
    generalize x_lp (φ := XM → Int32 → Int32 → Option (Int32 × XM)) (fun _ _ _ => none) (f_X10_passHours_2  ) n = k2 at h ih
    have hk2 := ih
    unfold f_X10_passHours_2 at h
    refine a_iload_n (pc := 2) X 2 dX10_passHours_2 rfl rfl ?_
    refine a_iload_n (pc := 3) X 1 dX10_passHours_3 rfl rfl ?_
    refine a_icmp_ge (pc := 4) X 30 dX10_passHours_4 rfl (fun c_4 => ?_) (fun c_4 => ?_)
    · have h := x_ifp c_4 h
      refine a_iload_n (pc := 30) X 2 dX10_passHours_30 rfl rfl ?_
      have h := Option.some.inj h; subst h
      exact a_iret (pc := 31) X trivial dX10_passHours_31
    · have h := x_ifn c_4 h
      refine a_aload_n (pc := 7) X 0 dX10_passHours_7 rfl rfl ?_
      refine a_getR (pc := 8) X 0 17 17 fl_RX10_21 rfl rfl rfl rfl rfl dX10_passHours_8 ?_
      refine a_getI (pc := 11) X 0 fl_RX10_150 rfl rfl rfl rfl dX10_passHours_11 ?_
      refine a_sipush (pc := 14) X dX10_passHours_14 q_sp_400 ?_
      refine a_icmp_ge (pc := 17) X 30 dX10_passHours_17 rfl (fun c_17 => ?_) (fun c_17 => ?_)
      · have h := x_ifp c_17 h
        refine a_iload_n (pc := 30) X 2 dX10_passHours_30 rfl rfl ?_
        have h := Option.some.inj h; subst h
        exact a_iret (pc := 31) X trivial dX10_passHours_31
      · have h := x_ifn c_17 h
        refine a_aload_n (pc := 20) X 0 dX10_passHours_20 rfl rfl ?_
        obtain ⟨y1, e_y1, h⟩ := x_bo_elim h
        refine a_callV (pc := 21) (st2 := []) (vs2 := [y1]) X [(0, 0, 32)] [some y1] 0 0 10 [] [] cv_RX10_153 (c_X10_passHour (ad0 := ad0)  e_y1) rfl rfl rfl rfl rfl rfl rfl rfl rfl rfl rfl rfl rfl rfl rfl (Nat.le_of_ble_eq_true rfl) ⟨Nat.le_of_ble_eq_true rfl, Nat.le_of_ble_eq_true rfl⟩ dX10_passHours_21 (fun _ => ?_)
        refine a_iinc (pc := 24) X 2 [(2, .int (l2 + 1)), (0, .ref (ad0 0)), (1, .int l1)] dX10_passHours_24 rfl (congrArg (HAdd.hAdd l2) q_ic_1) (by decide) rfl ?_
        refine a_goto (pc := 27) X 2 dX10_passHours_27 rfl ?_
        refine a_sub [1, 2, 0] rfl ?_
        exact hk2 _ _ _ h
set_option maxRecDepth 100000 in
set_option maxHeartbeats 4000000 in
theorem c_X10_passHours {l : Launch}  {ad0 : Nat → Nat} {v0 : XM} {x0 : Int32}  {o : Int32 × XM} (h : f_X10_passHours v0 x0 = some o) : CT l yX10_passHours cX10_passHours 3 (some .int) 3 [(shWorld, ad0)] [v0] (fun aK => [.ref (ad0 0), .int x0]) (some (.int o.1)) True [o.2] := by
  refine CT_of (by decide) (fun _ => Nat.le_of_ble_eq_true rfl) ?_
  intro p e s m args below meth c D tc aK aV A X
  have X : Cx p s m args meth c cX10_passHours 3 (some .int) RX10 D tc aK aV A [(shWorld, ad0)] := X
  show aW p l e (x_Rm 3) s m args below meth c D tc A 3 [(shWorld, ad0)] (some (.int o.1)) True [o.2] 0 [(0, .ref (ad0 0)), (1, .int x0)] [] [v0]
  unfold f_X10_passHours at h
  refine a_iconst (pc := 0) X dX10_passHours_0 q_ic_0 ?_
  refine a_istore_n (pc := 1) X [(2, .int (0 : Int32)), (0, .ref (ad0 0)), (1, .int x0)] dX10_passHours_1 rfl (by decide) rfl ?_
  refine a_sub [1, 2, 0] rfl ?_
  exact w_X10_passHours_2 X    x_NN _ _ _ h
theorem dX9_hasFold_0 : decode cX9_hasFold 0 = .ok (.iload_n 1, 1) := by decide +kernel
theorem dX9_hasFold_1 : decode cX9_hasFold 1 = .ok (.ifCond .lt 15, 3) := by decide +kernel
theorem dX9_hasFold_4 : decode cX9_hasFold 4 = .ok (.iload_n 1, 1) := by decide +kernel
theorem dX9_hasFold_5 : decode cX9_hasFold 5 = .ok (.aload_n 0, 1) := by decide +kernel
theorem dX9_hasFold_6 : decode cX9_hasFold 6 = .ok (.getfield 49, 3) := by decide +kernel
theorem dX9_hasFold_9 : decode cX9_hasFold 9 = .ok (.if_icmp .ge 7, 3) := by decide +kernel
theorem dX9_hasFold_12 : decode cX9_hasFold 12 = .ok (.iconst 1, 1) := by decide +kernel
theorem dX9_hasFold_13 : decode cX9_hasFold 13 = .ok (.goto 4, 3) := by decide +kernel
theorem dX9_hasFold_16 : decode cX9_hasFold 16 = .ok (.iconst 0, 1) := by decide +kernel
theorem dX9_hasFold_17 : decode cX9_hasFold 17 = .ok (.ireturn, 1) := by decide +kernel
def f_X9_hasFold (v0 : XM) (x0 : Int32) : Int32 :=
  if x0 < (0 : Int32) then
  (((0 : Int32) : Int32))
  else (if ((v0.1 0 1) : Int32) ≤ x0 then
  (((0 : Int32) : Int32))
  else (((1 : Int32) : Int32)))
set_option maxRecDepth 100000 in
set_option maxHeartbeats 4000000 in
theorem c_X9_hasFold {l : Launch}  {ad0 : Nat → Nat} {v0 : XM} {x0 : Int32}  {o : Int32} (h : f_X9_hasFold v0 x0 = o) : CT l yX9_hasFold cX9_hasFold 2 (some .boolean) 0 [(shValley, ad0)] [v0] (fun aK => [.ref (ad0 0), .int x0]) (some (.int o)) (x_Z o) [v0] := by
  refine CT_of (by decide) (fun _ => Nat.le_of_ble_eq_true rfl) ?_
  intro p e s m args below meth c D tc aK aV A X
  have X : Cx p s m args meth c cX9_hasFold 2 (some .boolean) RX9 D tc aK aV A [(shValley, ad0)] := X
  show aW p l e (x_Rm 0) s m args below meth c D tc A 2 [(shValley, ad0)] (some (.int o)) (x_Z o) [v0] 0 [(0, .ref (ad0 0)), (1, .int x0)] [] [v0]
  unfold f_X9_hasFold at h
  refine a_iload_n (pc := 0) X 1 dX9_hasFold_0 rfl rfl ?_
  refine a_if_lt (pc := 1) X 16 dX9_hasFold_1 rfl (fun c_1 => ?_) (fun c_1 => ?_)
  · have h := x_ifp c_1 h
    refine a_iconst (pc := 16) X dX9_hasFold_16 q_ic_0 ?_
    subst h
    exact a_zret (pc := 17) X x_Z0 x_Z0 dX9_hasFold_17
  · have h := x_ifn c_1 h
    refine a_iload_n (pc := 4) X 1 dX9_hasFold_4 rfl rfl ?_
    refine a_aload_n (pc := 5) X 0 dX9_hasFold_5 rfl rfl ?_
    refine a_getI (pc := 6) X 0 fl_RX9_49 rfl rfl rfl rfl dX9_hasFold_6 ?_
    refine a_icmp_ge (pc := 9) X 16 dX9_hasFold_9 rfl (fun c_9 => ?_) (fun c_9 => ?_)
    · have h := x_ifp c_9 h
      refine a_iconst (pc := 16) X dX9_hasFold_16 q_ic_0 ?_
      subst h
      exact a_zret (pc := 17) X x_Z0 x_Z0 dX9_hasFold_17
    · have h := x_ifn c_9 h
      refine a_iconst (pc := 12) X dX9_hasFold_12 q_ic_1 ?_
      refine a_goto (pc := 13) X 17 dX9_hasFold_13 rfl ?_
      subst h
      exact a_zret (pc := 17) X x_Z1 x_Z1 dX9_hasFold_17
theorem dX9_across_0 : decode cX9_across 0 = .ok (.aload_n 0, 1) := by decide +kernel
theorem dX9_across_1 : decode cX9_across 1 = .ok (.getfield 20, 3) := by decide +kernel
theorem dX9_across_4 : decode cX9_across 4 = .ok (.iload_n 1, 1) := by decide +kernel
theorem dX9_across_5 : decode cX9_across 5 = .ok (.invokevirtual 69, 3) := by decide +kernel
theorem dX9_across_8 : decode cX9_across 8 = .ok (.iload_n 2, 1) := by decide +kernel
theorem dX9_across_9 : decode cX9_across 9 = .ok (.if_icmp .ne 12, 3) := by decide +kernel
theorem dX9_across_12 : decode cX9_across 12 = .ok (.aload_n 0, 1) := by decide +kernel
theorem dX9_across_13 : decode cX9_across 13 = .ok (.getfield 24, 3) := by decide +kernel
theorem dX9_across_16 : decode cX9_across 16 = .ok (.iload_n 1, 1) := by decide +kernel
theorem dX9_across_17 : decode cX9_across 17 = .ok (.invokevirtual 69, 3) := by decide +kernel
theorem dX9_across_20 : decode cX9_across 20 = .ok (.ireturn, 1) := by decide +kernel
theorem dX9_across_21 : decode cX9_across 21 = .ok (.aload_n 0, 1) := by decide +kernel
theorem dX9_across_22 : decode cX9_across 22 = .ok (.getfield 24, 3) := by decide +kernel
theorem dX9_across_25 : decode cX9_across 25 = .ok (.iload_n 1, 1) := by decide +kernel
theorem dX9_across_26 : decode cX9_across 26 = .ok (.invokevirtual 69, 3) := by decide +kernel
theorem dX9_across_29 : decode cX9_across 29 = .ok (.iload_n 2, 1) := by decide +kernel
theorem dX9_across_30 : decode cX9_across 30 = .ok (.if_icmp .ne 14, 3) := by decide +kernel
theorem dX9_across_33 : decode cX9_across 33 = .ok (.aload_n 0, 1) := by decide +kernel
theorem dX9_across_34 : decode cX9_across 34 = .ok (.getfield 20, 3) := by decide +kernel
theorem dX9_across_37 : decode cX9_across 37 = .ok (.iload_n 1, 1) := by decide +kernel
theorem dX9_across_38 : decode cX9_across 38 = .ok (.invokevirtual 69, 3) := by decide +kernel
theorem dX9_across_41 : decode cX9_across 41 = .ok (.goto 4, 3) := by decide +kernel
theorem dX9_across_44 : decode cX9_across 44 = .ok (.iconst (-1), 1) := by decide +kernel
theorem dX9_across_45 : decode cX9_across 45 = .ok (.ireturn, 1) := by decide +kernel
def f_X9_across (v0 : XM) (x0 : Int32) (x1 : Int32) : Int32 :=
  x_lt (r_get 12 (x_sub v0 1) x0) (fun y1 =>
  if (y1 : Int32) = x1 then
  (x_lt (r_get 12 (x_sub v0 3) x0) (fun y4 =>
  (y4 : Int32)))
  else (x_lt (r_get 12 (x_sub v0 3) x0) (fun y2 =>
  if (y2 : Int32) = x1 then
  (x_lt (r_get 12 (x_sub v0 1) x0) (fun y3 =>
  (y3 : Int32)))
  else (((-1 : Int32) : Int32)))))
set_option maxRecDepth 100000 in
set_option maxHeartbeats 4000000 in
theorem c_X9_across {l : Launch}  {ad0 : Nat → Nat} {v0 : XM} {x0 : Int32} {x1 : Int32}  {o : Int32} (h : f_X9_across v0 x0 x1 = o) : CT l yX9_across cX9_across 3 (some .int) 1 [(shValley, ad0)] [v0] (fun aK => [.ref (ad0 0), .int x0, .int x1]) (some (.int o)) True [v0] := by
  refine CT_of (by decide) (fun _ => Nat.le_of_ble_eq_true rfl) ?_
  intro p e s m args below meth c D tc aK aV A X
  have X : Cx p s m args meth c cX9_across 3 (some .int) RX9 D tc aK aV A [(shValley, ad0)] := X
  show aW p l e (x_Rm 1) s m args below meth c D tc A 3 [(shValley, ad0)] (some (.int o)) True [v0] 0 [(0, .ref (ad0 0)), (1, .int x0), (2, .int x1)] [] [v0]
  unfold f_X9_across at h
  refine a_aload_n (pc := 0) X 0 dX9_across_0 rfl rfl ?_
  refine a_getR (pc := 1) X 0 1 1 fl_RX9_20 rfl rfl rfl rfl rfl dX9_across_1 ?_
  refine a_iload_n (pc := 4) X 1 dX9_across_4 rfl rfl ?_
  obtain ⟨y1, e_y1, h⟩ := x_lt_elim h
  refine a_callV (pc := 5) (st2 := [.int y1]) (vs2 := [v0]) X [(0, 1, 2)] [none] 0 1 3 [.int x0] [] cv_RX9_69 (ct_get (ad0 := (fun i => ad0 (i + 1))) (by decide) e_y1) rfl rfl rfl rfl rfl rfl rfl rfl rfl rfl rfl rfl rfl rfl rfl (Nat.le_of_ble_eq_true rfl) ⟨Nat.le_of_ble_eq_true rfl, Nat.le_of_ble_eq_true rfl⟩ dX9_across_5 (fun _ => ?_)
  refine a_iload_n (pc := 8) X 2 dX9_across_8 rfl rfl ?_
  refine a_icmp_ne (pc := 9) X 21 dX9_across_9 rfl (fun c_9 => ?_) (fun c_9 => ?_)
  · have h := x_ifn c_9 h
    refine a_aload_n (pc := 21) X 0 dX9_across_21 rfl rfl ?_
    refine a_getR (pc := 22) X 0 3 3 fl_RX9_24 rfl rfl rfl rfl rfl dX9_across_22 ?_
    refine a_iload_n (pc := 25) X 1 dX9_across_25 rfl rfl ?_
    obtain ⟨y2, e_y2, h⟩ := x_lt_elim h
    refine a_callV (pc := 26) (st2 := [.int y2]) (vs2 := [v0]) X [(0, 3, 2)] [none] 0 3 3 [.int x0] [] cv_RX9_69 (ct_get (ad0 := (fun i => ad0 (i + 3))) (by decide) e_y2) rfl rfl rfl rfl rfl rfl rfl rfl rfl rfl rfl rfl rfl rfl rfl (Nat.le_of_ble_eq_true rfl) ⟨Nat.le_of_ble_eq_true rfl, Nat.le_of_ble_eq_true rfl⟩ dX9_across_26 (fun _ => ?_)
    refine a_iload_n (pc := 29) X 2 dX9_across_29 rfl rfl ?_
    refine a_icmp_ne (pc := 30) X 44 dX9_across_30 rfl (fun c_30 => ?_) (fun c_30 => ?_)
    · have h := x_ifn c_30 h
      refine a_iconst (pc := 44) X dX9_across_44 q_ic_m1 ?_
      subst h
      exact a_iret (pc := 45) X trivial dX9_across_45
    · have h := x_ifp c_30 h
      refine a_aload_n (pc := 33) X 0 dX9_across_33 rfl rfl ?_
      refine a_getR (pc := 34) X 0 1 1 fl_RX9_20 rfl rfl rfl rfl rfl dX9_across_34 ?_
      refine a_iload_n (pc := 37) X 1 dX9_across_37 rfl rfl ?_
      obtain ⟨y3, e_y3, h⟩ := x_lt_elim h
      refine a_callV (pc := 38) (st2 := [.int y3]) (vs2 := [v0]) X [(0, 1, 2)] [none] 0 1 3 [.int x0] [] cv_RX9_69 (ct_get (ad0 := (fun i => ad0 (i + 1))) (by decide) e_y3) rfl rfl rfl rfl rfl rfl rfl rfl rfl rfl rfl rfl rfl rfl rfl (Nat.le_of_ble_eq_true rfl) ⟨Nat.le_of_ble_eq_true rfl, Nat.le_of_ble_eq_true rfl⟩ dX9_across_38 (fun _ => ?_)
      refine a_goto (pc := 41) X 45 dX9_across_41 rfl ?_
      subst h
      exact a_iret (pc := 45) X trivial dX9_across_45
  · have h := x_ifp c_9 h
    refine a_aload_n (pc := 12) X 0 dX9_across_12 rfl rfl ?_
    refine a_getR (pc := 13) X 0 3 3 fl_RX9_24 rfl rfl rfl rfl rfl dX9_across_13 ?_
    refine a_iload_n (pc := 16) X 1 dX9_across_16 rfl rfl ?_
    obtain ⟨y4, e_y4, h⟩ := x_lt_elim h
    refine a_callV (pc := 17) (st2 := [.int y4]) (vs2 := [v0]) X [(0, 3, 2)] [none] 0 3 3 [.int x0] [] cv_RX9_69 (ct_get (ad0 := (fun i => ad0 (i + 3))) (by decide) e_y4) rfl rfl rfl rfl rfl rfl rfl rfl rfl rfl rfl rfl rfl rfl rfl (Nat.le_of_ble_eq_true rfl) ⟨Nat.le_of_ble_eq_true rfl, Nat.le_of_ble_eq_true rfl⟩ dX9_across_17 (fun _ => ?_)
    subst h
    exact a_iret (pc := 20) X trivial dX9_across_20
theorem dX10_deepNow_0 : decode cX10_deepNow 0 = .ok (.aload_n 0, 1) := by decide +kernel
theorem dX10_deepNow_1 : decode cX10_deepNow 1 = .ok (.getfield 21, 3) := by decide +kernel
theorem dX10_deepNow_4 : decode cX10_deepNow 4 = .ok (.getfield 69, 3) := by decide +kernel
theorem dX10_deepNow_7 : decode cX10_deepNow 7 = .ok (.iload_n 1, 1) := by decide +kernel
theorem dX10_deepNow_8 : decode cX10_deepNow 8 = .ok (.invokevirtual 52, 3) := by decide +kernel
theorem dX10_deepNow_11 : decode cX10_deepNow 11 = .ok (.istore_n 2, 1) := by decide +kernel
theorem dX10_deepNow_12 : decode cX10_deepNow 12 = .ok (.aload_n 0, 1) := by decide +kernel
theorem dX10_deepNow_13 : decode cX10_deepNow 13 = .ok (.getfield 12, 3) := by decide +kernel
theorem dX10_deepNow_16 : decode cX10_deepNow 16 = .ok (.getfield 72, 3) := by decide +kernel
theorem dX10_deepNow_19 : decode cX10_deepNow 19 = .ok (.iload_n 1, 1) := by decide +kernel
theorem dX10_deepNow_20 : decode cX10_deepNow 20 = .ok (.invokevirtual 52, 3) := by decide +kernel
theorem dX10_deepNow_23 : decode cX10_deepNow 23 = .ok (.aload_n 0, 1) := by decide +kernel
theorem dX10_deepNow_24 : decode cX10_deepNow 24 = .ok (.getfield 21, 3) := by decide +kernel
theorem dX10_deepNow_27 : decode cX10_deepNow 27 = .ok (.getfield 75, 3) := by decide +kernel
theorem dX10_deepNow_30 : decode cX10_deepNow 30 = .ok (.if_icmp .ne 14, 3) := by decide +kernel
theorem dX10_deepNow_33 : decode cX10_deepNow 33 = .ok (.iload_n 2, 1) := by decide +kernel
theorem dX10_deepNow_34 : decode cX10_deepNow 34 = .ok (.iconst 1, 1) := by decide +kernel
theorem dX10_deepNow_35 : decode cX10_deepNow 35 = .ok (.if_icmp .le 9, 3) := by decide +kernel
theorem dX10_deepNow_38 : decode cX10_deepNow 38 = .ok (.iload_n 2, 1) := by decide +kernel
theorem dX10_deepNow_39 : decode cX10_deepNow 39 = .ok (.iconst 1, 1) := by decide +kernel
theorem dX10_deepNow_40 : decode cX10_deepNow 40 = .ok (.isub, 1) := by decide +kernel
theorem dX10_deepNow_41 : decode cX10_deepNow 41 = .ok (.goto 4, 3) := by decide +kernel
theorem dX10_deepNow_44 : decode cX10_deepNow 44 = .ok (.iload_n 2, 1) := by decide +kernel
theorem dX10_deepNow_45 : decode cX10_deepNow 45 = .ok (.ireturn, 1) := by decide +kernel
def f_X10_deepNow (v0 : XM) (x0 : Int32) : Int32 :=
  x_lt (r_get 12 (x_sub v0 28) x0) (fun y1 =>
  x_lt (r_get 12 (x_sub v0 8) x0) (fun y2 =>
  if (y2 : Int32) = (v0.1 17 1) then
  (if (y1 : Int32) ≤ (1 : Int32) then
  ((y1 : Int32))
  else ((y1 - (1 : Int32) : Int32)))
  else ((y1 : Int32))))
set_option maxRecDepth 100000 in
set_option maxHeartbeats 4000000 in
theorem c_X10_deepNow {l : Launch}  {ad0 : Nat → Nat} {v0 : XM} {x0 : Int32}  {o : Int32} (h : f_X10_deepNow v0 x0 = o) : CT l yX10_deepNow cX10_deepNow 3 (some .int) 1 [(shWorld, ad0)] [v0] (fun aK => [.ref (ad0 0), .int x0]) (some (.int o)) True [v0] := by
  refine CT_of (by decide) (fun _ => Nat.le_of_ble_eq_true rfl) ?_
  intro p e s m args below meth c D tc aK aV A X
  have X : Cx p s m args meth c cX10_deepNow 3 (some .int) RX10 D tc aK aV A [(shWorld, ad0)] := X
  show aW p l e (x_Rm 1) s m args below meth c D tc A 3 [(shWorld, ad0)] (some (.int o)) True [v0] 0 [(0, .ref (ad0 0)), (1, .int x0)] [] [v0]
  unfold f_X10_deepNow at h
  refine a_aload_n (pc := 0) X 0 dX10_deepNow_0 rfl rfl ?_
  refine a_getR (pc := 1) X 0 17 17 fl_RX10_21 rfl rfl rfl rfl rfl dX10_deepNow_1 ?_
  refine a_getR (pc := 4) X 0 11 28 fl_RX10_69 rfl rfl rfl rfl rfl dX10_deepNow_4 ?_
  refine a_iload_n (pc := 7) X 1 dX10_deepNow_7 rfl rfl ?_
  obtain ⟨y1, e_y1, h⟩ := x_lt_elim h
  refine a_callV (pc := 8) (st2 := [.int y1]) (vs2 := [v0]) X [(0, 28, 2)] [none] 0 28 3 [.int x0] [] cv_RX10_52 (ct_get (ad0 := (fun i => ad0 (i + 28))) (by decide) e_y1) rfl rfl rfl rfl rfl rfl rfl rfl rfl rfl rfl rfl rfl rfl rfl (Nat.le_of_ble_eq_true rfl) ⟨Nat.le_of_ble_eq_true rfl, Nat.le_of_ble_eq_true rfl⟩ dX10_deepNow_8 (fun _ => ?_)
  refine a_istore_n (pc := 11) X [(2, .int y1), (0, .ref (ad0 0)), (1, .int x0)] dX10_deepNow_11 rfl (by decide) rfl ?_
  refine a_aload_n (pc := 12) X 1 dX10_deepNow_12 rfl rfl ?_
  refine a_getR (pc := 13) X 0 1 1 fl_RX10_12 rfl rfl rfl rfl rfl dX10_deepNow_13 ?_
  refine a_getR (pc := 16) X 0 7 8 fl_RX10_72 rfl rfl rfl rfl rfl dX10_deepNow_16 ?_
  refine a_iload_n (pc := 19) X 2 dX10_deepNow_19 rfl rfl ?_
  obtain ⟨y2, e_y2, h⟩ := x_lt_elim h
  refine a_callV (pc := 20) (st2 := [.int y2]) (vs2 := [v0]) X [(0, 8, 2)] [none] 0 8 3 [.int x0] [] cv_RX10_52 (ct_get (ad0 := (fun i => ad0 (i + 8))) (by decide) e_y2) rfl rfl rfl rfl rfl rfl rfl rfl rfl rfl rfl rfl rfl rfl rfl (Nat.le_of_ble_eq_true rfl) ⟨Nat.le_of_ble_eq_true rfl, Nat.le_of_ble_eq_true rfl⟩ dX10_deepNow_20 (fun _ => ?_)
  refine a_aload_n (pc := 23) X 1 dX10_deepNow_23 rfl rfl ?_
  refine a_getR (pc := 24) X 0 17 17 fl_RX10_21 rfl rfl rfl rfl rfl dX10_deepNow_24 ?_
  refine a_getI (pc := 27) X 0 fl_RX10_75 rfl rfl rfl rfl dX10_deepNow_27 ?_
  refine a_icmp_ne (pc := 30) X 44 dX10_deepNow_30 rfl (fun c_30 => ?_) (fun c_30 => ?_)
  · have h := x_ifn c_30 h
    refine a_iload_n (pc := 44) X 0 dX10_deepNow_44 rfl rfl ?_
    subst h
    exact a_iret (pc := 45) X trivial dX10_deepNow_45
  · have h := x_ifp c_30 h
    refine a_iload_n (pc := 33) X 0 dX10_deepNow_33 rfl rfl ?_
    refine a_iconst (pc := 34) X dX10_deepNow_34 q_ic_1 ?_
    refine a_icmp_le (pc := 35) X 44 dX10_deepNow_35 rfl (fun c_35 => ?_) (fun c_35 => ?_)
    · have h := x_ifp c_35 h
      refine a_iload_n (pc := 44) X 0 dX10_deepNow_44 rfl rfl ?_
      subst h
      exact a_iret (pc := 45) X trivial dX10_deepNow_45
    · have h := x_ifn c_35 h
      refine a_iload_n (pc := 38) X 0 dX10_deepNow_38 rfl rfl ?_
      refine a_iconst (pc := 39) X dX10_deepNow_39 q_ic_1 ?_
      refine a_isub (pc := 40) X dX10_deepNow_40 ?_
      refine a_goto (pc := 41) X 45 dX10_deepNow_41 rfl ?_
      subst h
      exact a_iret (pc := 45) X trivial dX10_deepNow_45
theorem dX10_hoursOn_0 : decode cX10_hoursOn 0 = .ok (.iload_n 2, 1) := by decide +kernel
theorem dX10_hoursOn_1 : decode cX10_hoursOn 1 = .ok (.iconst 1, 1) := by decide +kernel
theorem dX10_hoursOn_2 : decode cX10_hoursOn 2 = .ok (.if_icmp .ge 7, 3) := by decide +kernel
theorem dX10_hoursOn_5 : decode cX10_hoursOn 5 = .ok (.iconst 0, 1) := by decide +kernel
theorem dX10_hoursOn_6 : decode cX10_hoursOn 6 = .ok (.goto 14, 3) := by decide +kernel
theorem dX10_hoursOn_9 : decode cX10_hoursOn 9 = .ok (.aload_n 0, 1) := by decide +kernel
theorem dX10_hoursOn_10 : decode cX10_hoursOn 10 = .ok (.iload_n 1, 1) := by decide +kernel
theorem dX10_hoursOn_11 : decode cX10_hoursOn 11 = .ok (.invokevirtual 78, 3) := by decide +kernel
theorem dX10_hoursOn_14 : decode cX10_hoursOn 14 = .ok (.iload_n 2, 1) := by decide +kernel
theorem dX10_hoursOn_15 : decode cX10_hoursOn 15 = .ok (.iadd, 1) := by decide +kernel
theorem dX10_hoursOn_16 : decode cX10_hoursOn 16 = .ok (.iconst 1, 1) := by decide +kernel
theorem dX10_hoursOn_17 : decode cX10_hoursOn 17 = .ok (.isub, 1) := by decide +kernel
theorem dX10_hoursOn_18 : decode cX10_hoursOn 18 = .ok (.iload_n 2, 1) := by decide +kernel
theorem dX10_hoursOn_19 : decode cX10_hoursOn 19 = .ok (.idiv, 1) := by decide +kernel
theorem dX10_hoursOn_20 : decode cX10_hoursOn 20 = .ok (.ireturn, 1) := by decide +kernel
def f_X10_hoursOn (v0 : XM) (x0 : Int32) (x1 : Int32) : Option (Int32) :=
  if ((1 : Int32) : Int32) ≤ x1 then
  (x_lt (f_X10_deepNow v0 x0) (fun y1 =>
  x_nz x1 (
  some (((y1 + x1) - (1 : Int32)) / x1 : Int32))))
  else (some ((0 : Int32) : Int32))
set_option maxRecDepth 100000 in
set_option maxHeartbeats 4000000 in
theorem c_X10_hoursOn {l : Launch}  {ad0 : Nat → Nat} {v0 : XM} {x0 : Int32} {x1 : Int32}  {o : Int32} (h : f_X10_hoursOn v0 x0 x1 = some o) : CT l yX10_hoursOn cX10_hoursOn 3 (some .int) 2 [(shWorld, ad0)] [v0] (fun aK => [.ref (ad0 0), .int x0, .int x1]) (some (.int o)) True [v0] := by
  refine CT_of (by decide) (fun _ => Nat.le_of_ble_eq_true rfl) ?_
  intro p e s m args below meth c D tc aK aV A X
  have X : Cx p s m args meth c cX10_hoursOn 3 (some .int) RX10 D tc aK aV A [(shWorld, ad0)] := X
  show aW p l e (x_Rm 2) s m args below meth c D tc A 3 [(shWorld, ad0)] (some (.int o)) True [v0] 0 [(0, .ref (ad0 0)), (1, .int x0), (2, .int x1)] [] [v0]
  unfold f_X10_hoursOn at h
  refine a_iload_n (pc := 0) X 2 dX10_hoursOn_0 rfl rfl ?_
  refine a_iconst (pc := 1) X dX10_hoursOn_1 q_ic_1 ?_
  refine a_icmp_ge (pc := 2) X 9 dX10_hoursOn_2 rfl (fun c_2 => ?_) (fun c_2 => ?_)
  · have h := x_ifp c_2 h
    refine a_aload_n (pc := 9) X 0 dX10_hoursOn_9 rfl rfl ?_
    refine a_iload_n (pc := 10) X 1 dX10_hoursOn_10 rfl rfl ?_
    obtain ⟨y1, e_y1, h⟩ := x_lt_elim h
    refine a_callV (pc := 11) (st2 := [.int y1]) (vs2 := [v0]) X [(0, 0, 32)] [none] 0 0 10 [.int x0] [] cv_RX10_78 (c_X10_deepNow (ad0 := ad0)  e_y1) rfl rfl rfl rfl rfl rfl rfl rfl rfl rfl rfl rfl rfl rfl rfl (Nat.le_of_ble_eq_true rfl) ⟨Nat.le_of_ble_eq_true rfl, Nat.le_of_ble_eq_true rfl⟩ dX10_hoursOn_11 (fun _ => ?_)
    refine a_iload_n (pc := 14) X 2 dX10_hoursOn_14 rfl rfl ?_
    refine a_iadd (pc := 15) X dX10_hoursOn_15 ?_
    refine a_iconst (pc := 16) X dX10_hoursOn_16 q_ic_1 ?_
    refine a_isub (pc := 17) X dX10_hoursOn_17 ?_
    refine a_iload_n (pc := 18) X 2 dX10_hoursOn_18 rfl rfl ?_
    obtain ⟨c_19, h⟩ := x_nz_elim h
    refine a_idiv (pc := 19) X c_19 dX10_hoursOn_19 ?_
    have h := Option.some.inj h; subst h
    exact a_iret (pc := 20) X trivial dX10_hoursOn_20
  · have h := x_ifn c_2 h
    refine a_iconst (pc := 5) X dX10_hoursOn_5 q_ic_0 ?_
    refine a_goto (pc := 6) X 20 dX10_hoursOn_6 rfl ?_
    have h := Option.some.inj h; subst h
    exact a_iret (pc := 20) X trivial dX10_hoursOn_20
theorem dX10_setOut_0 : decode cX10_setOut 0 = .ok (.aload_n 0, 1) := by decide +kernel
theorem dX10_setOut_1 : decode cX10_setOut 1 = .ok (.iload_n 1, 1) := by decide +kernel
theorem dX10_setOut_2 : decode cX10_setOut 2 = .ok (.invokevirtual 58, 3) := by decide +kernel
theorem dX10_setOut_5 : decode cX10_setOut 5 = .ok (.ifCond .eq 5, 3) := by decide +kernel
theorem dX10_setOut_8 : decode cX10_setOut 8 = .ok (.iconst 1, 1) := by decide +kernel
theorem dX10_setOut_9 : decode cX10_setOut 9 = .ok (.ireturn, 1) := by decide +kernel
theorem dX10_setOut_10 : decode cX10_setOut 10 = .ok (.aload_n 0, 1) := by decide +kernel
theorem dX10_setOut_11 : decode cX10_setOut 11 = .ok (.getfield 12, 3) := by decide +kernel
theorem dX10_setOut_14 : decode cX10_setOut 14 = .ok (.iload_n 2, 1) := by decide +kernel
theorem dX10_setOut_15 : decode cX10_setOut 15 = .ok (.aload_n 0, 1) := by decide +kernel
theorem dX10_setOut_16 : decode cX10_setOut 16 = .ok (.getfield 21, 3) := by decide +kernel
theorem dX10_setOut_19 : decode cX10_setOut 19 = .ok (.getfield 62, 3) := by decide +kernel
theorem dX10_setOut_22 : decode cX10_setOut 22 = .ok (.iload_n 1, 1) := by decide +kernel
theorem dX10_setOut_23 : decode cX10_setOut 23 = .ok (.invokevirtual 52, 3) := by decide +kernel
theorem dX10_setOut_26 : decode cX10_setOut 26 = .ok (.invokevirtual 84, 3) := by decide +kernel
theorem dX10_setOut_29 : decode cX10_setOut 29 = .ok (.istore_n 3, 1) := by decide +kernel
theorem dX10_setOut_30 : decode cX10_setOut 30 = .ok (.iload_n 3, 1) := by decide +kernel
theorem dX10_setOut_31 : decode cX10_setOut 31 = .ok (.iconst (-1), 1) := by decide +kernel
theorem dX10_setOut_32 : decode cX10_setOut 32 = .ok (.if_icmp .ne 5, 3) := by decide +kernel
theorem dX10_setOut_35 : decode cX10_setOut 35 = .ok (.iconst 2, 1) := by decide +kernel
theorem dX10_setOut_36 : decode cX10_setOut 36 = .ok (.ireturn, 1) := by decide +kernel
theorem dX10_setOut_37 : decode cX10_setOut 37 = .ok (.aload_n 0, 1) := by decide +kernel
theorem dX10_setOut_38 : decode cX10_setOut 38 = .ok (.getfield 21, 3) := by decide +kernel
theorem dX10_setOut_41 : decode cX10_setOut 41 = .ok (.getfield 98, 3) := by decide +kernel
theorem dX10_setOut_44 : decode cX10_setOut 44 = .ok (.iload_n 2, 1) := by decide +kernel
theorem dX10_setOut_45 : decode cX10_setOut 45 = .ok (.invokevirtual 52, 3) := by decide +kernel
theorem dX10_setOut_48 : decode cX10_setOut 48 = .ok (.ifCond .le 5, 3) := by decide +kernel
theorem dX10_setOut_51 : decode cX10_setOut 51 = .ok (.iconst 3, 1) := by decide +kernel
theorem dX10_setOut_52 : decode cX10_setOut 52 = .ok (.ireturn, 1) := by decide +kernel
theorem dX10_setOut_53 : decode cX10_setOut 53 = .ok (.aload_n 0, 1) := by decide +kernel
theorem dX10_setOut_54 : decode cX10_setOut 54 = .ok (.iload_n 2, 1) := by decide +kernel
theorem dX10_setOut_55 : decode cX10_setOut 55 = .ok (.aload_n 0, 1) := by decide +kernel
theorem dX10_setOut_56 : decode cX10_setOut 56 = .ok (.getfield 12, 3) := by decide +kernel
theorem dX10_setOut_59 : decode cX10_setOut 59 = .ok (.getfield 128, 3) := by decide +kernel
theorem dX10_setOut_62 : decode cX10_setOut 62 = .ok (.iload_n 1, 1) := by decide +kernel
theorem dX10_setOut_63 : decode cX10_setOut 63 = .ok (.invokevirtual 52, 3) := by decide +kernel
theorem dX10_setOut_66 : decode cX10_setOut 66 = .ok (.invokevirtual 131, 3) := by decide +kernel
theorem dX10_setOut_69 : decode cX10_setOut 69 = .ok (.istore 4, 2) := by decide +kernel
theorem dX10_setOut_71 : decode cX10_setOut 71 = .ok (.aload_n 0, 1) := by decide +kernel
theorem dX10_setOut_72 : decode cX10_setOut 72 = .ok (.getfield 21, 3) := by decide +kernel
theorem dX10_setOut_75 : decode cX10_setOut 75 = .ok (.getfield 104, 3) := by decide +kernel
theorem dX10_setOut_78 : decode cX10_setOut 78 = .ok (.iload_n 1, 1) := by decide +kernel
theorem dX10_setOut_79 : decode cX10_setOut 79 = .ok (.invokevirtual 52, 3) := by decide +kernel
theorem dX10_setOut_82 : decode cX10_setOut 82 = .ok (.iload 4, 2) := by decide +kernel
theorem dX10_setOut_84 : decode cX10_setOut 84 = .ok (.iadd, 1) := by decide +kernel
theorem dX10_setOut_85 : decode cX10_setOut 85 = .ok (.aload_n 0, 1) := by decide +kernel
theorem dX10_setOut_86 : decode cX10_setOut 86 = .ok (.getfield 12, 3) := by decide +kernel
theorem dX10_setOut_89 : decode cX10_setOut 89 = .ok (.getfield 134, 3) := by decide +kernel
theorem dX10_setOut_92 : decode cX10_setOut 92 = .ok (.if_icmp .le 5, 3) := by decide +kernel
theorem dX10_setOut_95 : decode cX10_setOut 95 = .ok (.iconst 4, 1) := by decide +kernel
theorem dX10_setOut_96 : decode cX10_setOut 96 = .ok (.ireturn, 1) := by decide +kernel
theorem dX10_setOut_97 : decode cX10_setOut 97 = .ok (.aload_n 0, 1) := by decide +kernel
theorem dX10_setOut_98 : decode cX10_setOut 98 = .ok (.getfield 21, 3) := by decide +kernel
theorem dX10_setOut_101 : decode cX10_setOut 101 = .ok (.getfield 62, 3) := by decide +kernel
theorem dX10_setOut_104 : decode cX10_setOut 104 = .ok (.iload_n 1, 1) := by decide +kernel
theorem dX10_setOut_105 : decode cX10_setOut 105 = .ok (.iload_n 3, 1) := by decide +kernel
theorem dX10_setOut_106 : decode cX10_setOut 106 = .ok (.invokevirtual 137, 3) := by decide +kernel
theorem dX10_setOut_109 : decode cX10_setOut 109 = .ok (.aload_n 0, 1) := by decide +kernel
theorem dX10_setOut_110 : decode cX10_setOut 110 = .ok (.getfield 21, 3) := by decide +kernel
theorem dX10_setOut_113 : decode cX10_setOut 113 = .ok (.getfield 91, 3) := by decide +kernel
theorem dX10_setOut_116 : decode cX10_setOut 116 = .ok (.iload_n 1, 1) := by decide +kernel
theorem dX10_setOut_117 : decode cX10_setOut 117 = .ok (.iload_n 2, 1) := by decide +kernel
theorem dX10_setOut_118 : decode cX10_setOut 118 = .ok (.invokevirtual 137, 3) := by decide +kernel
theorem dX10_setOut_121 : decode cX10_setOut 121 = .ok (.aload_n 0, 1) := by decide +kernel
theorem dX10_setOut_122 : decode cX10_setOut 122 = .ok (.getfield 21, 3) := by decide +kernel
theorem dX10_setOut_125 : decode cX10_setOut 125 = .ok (.getfield 48, 3) := by decide +kernel
theorem dX10_setOut_128 : decode cX10_setOut 128 = .ok (.iload_n 1, 1) := by decide +kernel
theorem dX10_setOut_129 : decode cX10_setOut 129 = .ok (.iload 4, 2) := by decide +kernel
theorem dX10_setOut_131 : decode cX10_setOut 131 = .ok (.invokevirtual 137, 3) := by decide +kernel
theorem dX10_setOut_134 : decode cX10_setOut 134 = .ok (.iconst 0, 1) := by decide +kernel
theorem dX10_setOut_135 : decode cX10_setOut 135 = .ok (.ireturn, 1) := by decide +kernel
def f_X10_setOut (v0 : XM) (x0 : Int32) (x1 : Int32) : Option (Int32 × XM) :=
  x_lt (f_X10_isGoing v0 x0) (fun y1 =>
  if y1 = (0 : Int32) then
  (x_lt (r_get 5 (x_sub v0 18) x0) (fun y2 =>
  x_lt (f_X9_across (x_sub v0 1) x1 y2) (fun y3 =>
  if (y3 : Int32) = (-1 : Int32) then
  (some ((2 : Int32), v0))
  else (x_lt (r_get 12 (x_sub v0 30) x1) (fun y4 =>
  if y4 ≤ (0 : Int32) then
  (x_lt (r_get 5 (x_sub v0 14) x0) (fun y5 =>
  x_bo (f_X10_hoursOn v0 x1 y5) (fun y6 =>
  x_lt (r_get 5 (x_sub v0 24) x0) (fun y7 =>
  if ((y7 + y6) : Int32) ≤ (v0.1 1 4) then
  (x_lt (r_put 5 (x_sub v0 18) x0 y3) (fun y8 =>
  x_lt (x_put v0 18 2 y8) (fun m9 =>
  x_lt (r_put 5 (x_sub m9 20) x0 x1) (fun y10 =>
  x_lt (x_put m9 20 2 y10) (fun m11 =>
  x_lt (r_put 5 (x_sub m11 22) x0 y6) (fun y12 =>
  x_lt (x_put m11 22 2 y12) (fun m13 =>
  some ((0 : Int32), m13))))))))
  else (some ((4 : Int32), v0))))))
  else (some ((3 : Int32), v0)))))))
  else (some ((1 : Int32), v0)))
set_option maxRecDepth 100000 in
set_option maxHeartbeats 4000000 in
theorem c_X10_setOut {l : Launch}  {ad0 : Nat → Nat} {v0 : XM} {x0 : Int32} {x1 : Int32}  {o : Int32 × XM} (h : f_X10_setOut v0 x0 x1 = some o) : CT l yX10_setOut cX10_setOut 5 (some .int) 3 [(shWorld, ad0)] [v0] (fun aK => [.ref (ad0 0), .int x0, .int x1]) (some (.int o.1)) True [o.2] := by
  refine CT_of (by decide) (fun _ => Nat.le_of_ble_eq_true rfl) ?_
  intro p e s m args below meth c D tc aK aV A X
  have X : Cx p s m args meth c cX10_setOut 5 (some .int) RX10 D tc aK aV A [(shWorld, ad0)] := X
  show aW p l e (x_Rm 3) s m args below meth c D tc A 5 [(shWorld, ad0)] (some (.int o.1)) True [o.2] 0 [(0, .ref (ad0 0)), (1, .int x0), (2, .int x1)] [] [v0]
  unfold f_X10_setOut at h
  refine a_aload_n (pc := 0) X 0 dX10_setOut_0 rfl rfl ?_
  refine a_iload_n (pc := 1) X 1 dX10_setOut_1 rfl rfl ?_
  obtain ⟨y1, e_y1, h⟩ := x_lt_elim h
  refine a_callV (pc := 2) (st2 := [.int y1]) (vs2 := [v0]) X [(0, 0, 32)] [none] 0 0 10 [.int x0] [] cv_RX10_58 (c_X10_isGoing (ad0 := ad0)  e_y1) rfl rfl rfl rfl rfl rfl rfl rfl rfl rfl rfl rfl rfl rfl rfl (Nat.le_of_ble_eq_true rfl) ⟨Nat.le_of_ble_eq_true rfl, Nat.le_of_ble_eq_true rfl⟩ dX10_setOut_2 (fun z_2 => ?_)
  refine a_if_eq (pc := 5) X 10 dX10_setOut_5 rfl (fun c_5 => ?_) (fun c_5 => ?_)
  · have h := x_ifp c_5 h
    refine a_aload_n (pc := 10) X 0 dX10_setOut_10 rfl rfl ?_
    refine a_getR (pc := 11) X 0 1 1 fl_RX10_12 rfl rfl rfl rfl rfl dX10_setOut_11 ?_
    refine a_iload_n (pc := 14) X 2 dX10_setOut_14 rfl rfl ?_
    refine a_aload_n (pc := 15) X 0 dX10_setOut_15 rfl rfl ?_
    refine a_getR (pc := 16) X 0 17 17 fl_RX10_21 rfl rfl rfl rfl rfl dX10_setOut_16 ?_
    refine a_getR (pc := 19) X 0 1 18 fl_RX10_62 rfl rfl rfl rfl rfl dX10_setOut_19 ?_
    refine a_iload_n (pc := 22) X 1 dX10_setOut_22 rfl rfl ?_
    obtain ⟨y2, e_y2, h⟩ := x_lt_elim h
    refine a_callV (pc := 23) (st2 := [.int y2, .int x1, .ref (ad0 1)]) (vs2 := [v0]) X [(0, 18, 2)] [none] 0 18 3 [.int x0] [.int x1, .ref (ad0 1)] cv_RX10_52 (ct_get (ad0 := (fun i => ad0 (i + 18))) (by decide) e_y2) rfl rfl rfl rfl rfl rfl rfl rfl rfl rfl rfl rfl rfl rfl rfl (Nat.le_of_ble_eq_true rfl) ⟨Nat.le_of_ble_eq_true rfl, Nat.le_of_ble_eq_true rfl⟩ dX10_setOut_23 (fun _ => ?_)
    obtain ⟨y3, e_y3, h⟩ := x_lt_elim h
    refine a_callV (pc := 26) (st2 := [.int y3]) (vs2 := [v0]) X [(0, 1, 16)] [none] 0 1 9 [.int x1, .int y2] [] cv_RX10_84 (c_X9_across (ad0 := (fun i => ad0 (i + 1)))  e_y3) rfl rfl rfl rfl rfl rfl rfl rfl rfl rfl rfl rfl rfl rfl rfl (Nat.le_of_ble_eq_true rfl) ⟨Nat.le_of_ble_eq_true rfl, Nat.le_of_ble_eq_true rfl⟩ dX10_setOut_26 (fun _ => ?_)
    refine a_istore_n (pc := 29) X [(3, .int y3), (0, .ref (ad0 0)), (1, .int x0), (2, .int x1)] dX10_setOut_29 rfl (by decide) rfl ?_
    refine a_iload_n (pc := 30) X 0 dX10_setOut_30 rfl rfl ?_
    refine a_iconst (pc := 31) X dX10_setOut_31 q_ic_m1 ?_
    refine a_icmp_ne (pc := 32) X 37 dX10_setOut_32 rfl (fun c_32 => ?_) (fun c_32 => ?_)
    · have h := x_ifn c_32 h
      refine a_aload_n (pc := 37) X 1 dX10_setOut_37 rfl rfl ?_
      refine a_getR (pc := 38) X 0 17 17 fl_RX10_21 rfl rfl rfl rfl rfl dX10_setOut_38 ?_
      refine a_getR (pc := 41) X 0 13 30 fl_RX10_98 rfl rfl rfl rfl rfl dX10_setOut_41 ?_
      refine a_iload_n (pc := 44) X 3 dX10_setOut_44 rfl rfl ?_
      obtain ⟨y4, e_y4, h⟩ := x_lt_elim h
      refine a_callV (pc := 45) (st2 := [.int y4]) (vs2 := [v0]) X [(0, 30, 2)] [none] 0 30 3 [.int x1] [] cv_RX10_52 (ct_get (ad0 := (fun i => ad0 (i + 30))) (by decide) e_y4) rfl rfl rfl rfl rfl rfl rfl rfl rfl rfl rfl rfl rfl rfl rfl (Nat.le_of_ble_eq_true rfl) ⟨Nat.le_of_ble_eq_true rfl, Nat.le_of_ble_eq_true rfl⟩ dX10_setOut_45 (fun _ => ?_)
      refine a_if_le (pc := 48) X 53 dX10_setOut_48 rfl (fun c_48 => ?_) (fun c_48 => ?_)
      · have h := x_ifp c_48 h
        refine a_aload_n (pc := 53) X 1 dX10_setOut_53 rfl rfl ?_
        refine a_iload_n (pc := 54) X 3 dX10_setOut_54 rfl rfl ?_
        refine a_aload_n (pc := 55) X 1 dX10_setOut_55 rfl rfl ?_
        refine a_getR (pc := 56) X 0 1 1 fl_RX10_12 rfl rfl rfl rfl rfl dX10_setOut_56 ?_
        refine a_getR (pc := 59) X 0 13 14 fl_RX10_128 rfl rfl rfl rfl rfl dX10_setOut_59 ?_
        refine a_iload_n (pc := 62) X 2 dX10_setOut_62 rfl rfl ?_
        obtain ⟨y5, e_y5, h⟩ := x_lt_elim h
        refine a_callV (pc := 63) (st2 := [.int y5, .int x1, .ref (ad0 0)]) (vs2 := [v0]) X [(0, 14, 2)] [none] 0 14 3 [.int x0] [.int x1, .ref (ad0 0)] cv_RX10_52 (ct_get (ad0 := (fun i => ad0 (i + 14))) (by decide) e_y5) rfl rfl rfl rfl rfl rfl rfl rfl rfl rfl rfl rfl rfl rfl rfl (Nat.le_of_ble_eq_true rfl) ⟨Nat.le_of_ble_eq_true rfl, Nat.le_of_ble_eq_true rfl⟩ dX10_setOut_63 (fun _ => ?_)
        obtain ⟨y6, e_y6, h⟩ := x_bo_elim h
        refine a_callV (pc := 66) (st2 := [.int y6]) (vs2 := [v0]) X [(0, 0, 32)] [none] 0 0 10 [.int x1, .int y5] [] cv_RX10_131 (c_X10_hoursOn (ad0 := ad0)  e_y6) rfl rfl rfl rfl rfl rfl rfl rfl rfl rfl rfl rfl rfl rfl rfl (Nat.le_of_ble_eq_true rfl) ⟨Nat.le_of_ble_eq_true rfl, Nat.le_of_ble_eq_true rfl⟩ dX10_setOut_66 (fun _ => ?_)
        refine a_istore (pc := 69) X [(4, .int y6), (3, .int y3), (0, .ref (ad0 0)), (1, .int x0), (2, .int x1)] dX10_setOut_69 (by decide) rfl ?_
        refine a_aload_n (pc := 71) X 2 dX10_setOut_71 rfl rfl ?_
        refine a_getR (pc := 72) X 0 17 17 fl_RX10_21 rfl rfl rfl rfl rfl dX10_setOut_72 ?_
        refine a_getR (pc := 75) X 0 7 24 fl_RX10_104 rfl rfl rfl rfl rfl dX10_setOut_75 ?_
        refine a_iload_n (pc := 78) X 3 dX10_setOut_78 rfl rfl ?_
        obtain ⟨y7, e_y7, h⟩ := x_lt_elim h
        refine a_callV (pc := 79) (st2 := [.int y7]) (vs2 := [v0]) X [(0, 24, 2)] [none] 0 24 3 [.int x0] [] cv_RX10_52 (ct_get (ad0 := (fun i => ad0 (i + 24))) (by decide) e_y7) rfl rfl rfl rfl rfl rfl rfl rfl rfl rfl rfl rfl rfl rfl rfl (Nat.le_of_ble_eq_true rfl) ⟨Nat.le_of_ble_eq_true rfl, Nat.le_of_ble_eq_true rfl⟩ dX10_setOut_79 (fun _ => ?_)
        refine a_iload (pc := 82) X 0 dX10_setOut_82 rfl ?_
        refine a_iadd (pc := 84) X dX10_setOut_84 ?_
        refine a_aload_n (pc := 85) X 2 dX10_setOut_85 rfl rfl ?_
        refine a_getR (pc := 86) X 0 1 1 fl_RX10_12 rfl rfl rfl rfl rfl dX10_setOut_86 ?_
        refine a_getI (pc := 89) X 0 fl_RX10_134 rfl rfl rfl rfl dX10_setOut_89 ?_
        refine a_icmp_le (pc := 92) X 97 dX10_setOut_92 rfl (fun c_92 => ?_) (fun c_92 => ?_)
        · have h := x_ifp c_92 h
          refine a_aload_n (pc := 97) X 2 dX10_setOut_97 rfl rfl ?_
          refine a_getR (pc := 98) X 0 17 17 fl_RX10_21 rfl rfl rfl rfl rfl dX10_setOut_98 ?_
          refine a_getR (pc := 101) X 0 1 18 fl_RX10_62 rfl rfl rfl rfl rfl dX10_setOut_101 ?_
          refine a_iload_n (pc := 104) X 3 dX10_setOut_104 rfl rfl ?_
          refine a_iload_n (pc := 105) X 1 dX10_setOut_105 rfl rfl ?_
          obtain ⟨y8, e_y8, h⟩ := x_lt_elim h
          refine a_callV (pc := 106) (st2 := []) (vs2 := [x_put v0 18 2 y8]) X [(0, 18, 2)] [some y8] 0 18 3 [.int x0, .int y3] [] cv_RX10_137 (ct_put (ad0 := (fun i => ad0 (i + 18))) (by decide) e_y8) rfl rfl rfl rfl rfl rfl rfl rfl rfl rfl rfl rfl rfl rfl rfl (Nat.le_of_ble_eq_true rfl) ⟨Nat.le_of_ble_eq_true rfl, Nat.le_of_ble_eq_true rfl⟩ dX10_setOut_106 (fun _ => ?_)
          obtain ⟨m9, e_m9, h⟩ := x_lt_elim h
          refine a_nm (vs2 := [m9]) (congrArg (fun q : XM => [q]) e_m9) ?_
          refine a_aload_n (pc := 109) X 2 dX10_setOut_109 rfl rfl ?_
          refine a_getR (pc := 110) X 0 17 17 fl_RX10_21 rfl rfl rfl rfl rfl dX10_setOut_110 ?_
          refine a_getR (pc := 113) X 0 3 20 fl_RX10_91 rfl rfl rfl rfl rfl dX10_setOut_113 ?_
          refine a_iload_n (pc := 116) X 3 dX10_setOut_116 rfl rfl ?_
          refine a_iload_n (pc := 117) X 4 dX10_setOut_117 rfl rfl ?_
          obtain ⟨y10, e_y10, h⟩ := x_lt_elim h
          refine a_callV (pc := 118) (st2 := []) (vs2 := [x_put m9 20 2 y10]) X [(0, 20, 2)] [some y10] 0 20 3 [.int x0, .int x1] [] cv_RX10_137 (ct_put (ad0 := (fun i => ad0 (i + 20))) (by decide) e_y10) rfl rfl rfl rfl rfl rfl rfl rfl rfl rfl rfl rfl rfl rfl rfl (Nat.le_of_ble_eq_true rfl) ⟨Nat.le_of_ble_eq_true rfl, Nat.le_of_ble_eq_true rfl⟩ dX10_setOut_118 (fun _ => ?_)
          obtain ⟨m11, e_m11, h⟩ := x_lt_elim h
          refine a_nm (vs2 := [m11]) (congrArg (fun q : XM => [q]) e_m11) ?_
          refine a_aload_n (pc := 121) X 2 dX10_setOut_121 rfl rfl ?_
          refine a_getR (pc := 122) X 0 17 17 fl_RX10_21 rfl rfl rfl rfl rfl dX10_setOut_122 ?_
          refine a_getR (pc := 125) X 0 5 22 fl_RX10_48 rfl rfl rfl rfl rfl dX10_setOut_125 ?_
          refine a_iload_n (pc := 128) X 3 dX10_setOut_128 rfl rfl ?_
          refine a_iload (pc := 129) X 0 dX10_setOut_129 rfl ?_
          obtain ⟨y12, e_y12, h⟩ := x_lt_elim h
          refine a_callV (pc := 131) (st2 := []) (vs2 := [x_put m11 22 2 y12]) X [(0, 22, 2)] [some y12] 0 22 3 [.int x0, .int y6] [] cv_RX10_137 (ct_put (ad0 := (fun i => ad0 (i + 22))) (by decide) e_y12) rfl rfl rfl rfl rfl rfl rfl rfl rfl rfl rfl rfl rfl rfl rfl (Nat.le_of_ble_eq_true rfl) ⟨Nat.le_of_ble_eq_true rfl, Nat.le_of_ble_eq_true rfl⟩ dX10_setOut_131 (fun _ => ?_)
          obtain ⟨m13, e_m13, h⟩ := x_lt_elim h
          refine a_nm (vs2 := [m13]) (congrArg (fun q : XM => [q]) e_m13) ?_
          refine a_iconst (pc := 134) X dX10_setOut_134 q_ic_0 ?_
          have h := Option.some.inj h; subst h
          exact a_iret (pc := 135) X trivial dX10_setOut_135
        · have h := x_ifn c_92 h
          refine a_iconst (pc := 95) X dX10_setOut_95 q_ic_4 ?_
          have h := Option.some.inj h; subst h
          exact a_iret (pc := 96) X trivial dX10_setOut_96
      · have h := x_ifn c_48 h
        refine a_iconst (pc := 51) X dX10_setOut_51 q_ic_3 ?_
        have h := Option.some.inj h; subst h
        exact a_iret (pc := 52) X trivial dX10_setOut_52
    · have h := x_ifp c_32 h
      refine a_iconst (pc := 35) X dX10_setOut_35 q_ic_2 ?_
      have h := Option.some.inj h; subst h
      exact a_iret (pc := 36) X trivial dX10_setOut_36
  · have h := x_ifn c_5 h
    refine a_iconst (pc := 8) X dX10_setOut_8 q_ic_1 ?_
    have h := Option.some.inj h; subst h
    exact a_iret (pc := 9) X trivial dX10_setOut_9
theorem dX10_pickUp_0 : decode cX10_pickUp 0 = .ok (.aload_n 0, 1) := by decide +kernel
theorem dX10_pickUp_1 : decode cX10_pickUp 1 = .ok (.iload_n 1, 1) := by decide +kernel
theorem dX10_pickUp_2 : decode cX10_pickUp 2 = .ok (.invokevirtual 58, 3) := by decide +kernel
theorem dX10_pickUp_5 : decode cX10_pickUp 5 = .ok (.ifCond .eq 5, 3) := by decide +kernel
theorem dX10_pickUp_8 : decode cX10_pickUp 8 = .ok (.iconst 1, 1) := by decide +kernel
theorem dX10_pickUp_9 : decode cX10_pickUp 9 = .ok (.ireturn, 1) := by decide +kernel
theorem dX10_pickUp_10 : decode cX10_pickUp 10 = .ok (.aload_n 0, 1) := by decide +kernel
theorem dX10_pickUp_11 : decode cX10_pickUp 11 = .ok (.getfield 12, 3) := by decide +kernel
theorem dX10_pickUp_14 : decode cX10_pickUp 14 = .ok (.getfield 141, 3) := by decide +kernel
theorem dX10_pickUp_17 : decode cX10_pickUp 17 = .ok (.iload_n 2, 1) := by decide +kernel
theorem dX10_pickUp_18 : decode cX10_pickUp 18 = .ok (.invokevirtual 52, 3) := by decide +kernel
theorem dX10_pickUp_21 : decode cX10_pickUp 21 = .ok (.aload_n 0, 1) := by decide +kernel
theorem dX10_pickUp_22 : decode cX10_pickUp 22 = .ok (.getfield 21, 3) := by decide +kernel
theorem dX10_pickUp_25 : decode cX10_pickUp 25 = .ok (.getfield 62, 3) := by decide +kernel
theorem dX10_pickUp_28 : decode cX10_pickUp 28 = .ok (.iload_n 1, 1) := by decide +kernel
theorem dX10_pickUp_29 : decode cX10_pickUp 29 = .ok (.invokevirtual 52, 3) := by decide +kernel
theorem dX10_pickUp_32 : decode cX10_pickUp 32 = .ok (.if_icmp .eq 5, 3) := by decide +kernel
theorem dX10_pickUp_35 : decode cX10_pickUp 35 = .ok (.iconst 2, 1) := by decide +kernel
theorem dX10_pickUp_36 : decode cX10_pickUp 36 = .ok (.ireturn, 1) := by decide +kernel
theorem dX10_pickUp_37 : decode cX10_pickUp 37 = .ok (.aload_n 0, 1) := by decide +kernel
theorem dX10_pickUp_38 : decode cX10_pickUp 38 = .ok (.getfield 21, 3) := by decide +kernel
theorem dX10_pickUp_41 : decode cX10_pickUp 41 = .ok (.getfield 101, 3) := by decide +kernel
theorem dX10_pickUp_44 : decode cX10_pickUp 44 = .ok (.iload_n 1, 1) := by decide +kernel
theorem dX10_pickUp_45 : decode cX10_pickUp 45 = .ok (.invokevirtual 52, 3) := by decide +kernel
theorem dX10_pickUp_48 : decode cX10_pickUp 48 = .ok (.istore_n 3, 1) := by decide +kernel
theorem dX10_pickUp_49 : decode cX10_pickUp 49 = .ok (.iload_n 3, 1) := by decide +kernel
theorem dX10_pickUp_50 : decode cX10_pickUp 50 = .ok (.iload_n 2, 1) := by decide +kernel
theorem dX10_pickUp_51 : decode cX10_pickUp 51 = .ok (.ishr, 1) := by decide +kernel
theorem dX10_pickUp_52 : decode cX10_pickUp 52 = .ok (.iconst 1, 1) := by decide +kernel
theorem dX10_pickUp_53 : decode cX10_pickUp 53 = .ok (.iand, 1) := by decide +kernel
theorem dX10_pickUp_54 : decode cX10_pickUp 54 = .ok (.iconst 1, 1) := by decide +kernel
theorem dX10_pickUp_55 : decode cX10_pickUp 55 = .ok (.if_icmp .ne 5, 3) := by decide +kernel
theorem dX10_pickUp_58 : decode cX10_pickUp 58 = .ok (.iconst 3, 1) := by decide +kernel
theorem dX10_pickUp_59 : decode cX10_pickUp 59 = .ok (.ireturn, 1) := by decide +kernel
theorem dX10_pickUp_60 : decode cX10_pickUp 60 = .ok (.aload_n 0, 1) := by decide +kernel
theorem dX10_pickUp_61 : decode cX10_pickUp 61 = .ok (.getfield 21, 3) := by decide +kernel
theorem dX10_pickUp_64 : decode cX10_pickUp 64 = .ok (.getfield 101, 3) := by decide +kernel
theorem dX10_pickUp_67 : decode cX10_pickUp 67 = .ok (.iload_n 1, 1) := by decide +kernel
theorem dX10_pickUp_68 : decode cX10_pickUp 68 = .ok (.iload_n 3, 1) := by decide +kernel
theorem dX10_pickUp_69 : decode cX10_pickUp 69 = .ok (.iconst 1, 1) := by decide +kernel
theorem dX10_pickUp_70 : decode cX10_pickUp 70 = .ok (.iload_n 2, 1) := by decide +kernel
theorem dX10_pickUp_71 : decode cX10_pickUp 71 = .ok (.ishl, 1) := by decide +kernel
theorem dX10_pickUp_72 : decode cX10_pickUp 72 = .ok (.ior, 1) := by decide +kernel
theorem dX10_pickUp_73 : decode cX10_pickUp 73 = .ok (.invokevirtual 137, 3) := by decide +kernel
theorem dX10_pickUp_76 : decode cX10_pickUp 76 = .ok (.iconst 0, 1) := by decide +kernel
theorem dX10_pickUp_77 : decode cX10_pickUp 77 = .ok (.ireturn, 1) := by decide +kernel
def f_X10_pickUp (v0 : XM) (x0 : Int32) (x1 : Int32) : Int32 × XM :=
  x_lt (f_X10_isGoing v0 x0) (fun y1 =>
  if y1 = (0 : Int32) then
  (x_lt (r_get 6 (x_sub v0 10) x1) (fun y2 =>
  x_lt (r_get 5 (x_sub v0 18) x0) (fun y3 =>
  if (y2 : Int32) = y3 then
  (x_lt (r_get 5 (x_sub v0 26) x0) (fun y4 =>
  if (((y4 >>> (x1 &&& 31)) &&& (1 : Int32)) : Int32) = (1 : Int32) then
  (((3 : Int32), v0))
  else (x_lt (r_put 5 (x_sub v0 26) x0 (y4 ||| ((1 : Int32) <<< (x1 &&& 31)))) (fun y5 =>
  x_lt (x_put v0 26 2 y5) (fun m6 =>
  ((0 : Int32), m6))))))
  else (((2 : Int32), v0)))))
  else (((1 : Int32), v0)))
set_option maxRecDepth 100000 in
set_option maxHeartbeats 4000000 in
theorem c_X10_pickUp {l : Launch}  {ad0 : Nat → Nat} {v0 : XM} {x0 : Int32} {x1 : Int32}  {o : Int32 × XM} (h : f_X10_pickUp v0 x0 x1 = o) : CT l yX10_pickUp cX10_pickUp 4 (some .int) 2 [(shWorld, ad0)] [v0] (fun aK => [.ref (ad0 0), .int x0, .int x1]) (some (.int o.1)) True [o.2] := by
  refine CT_of (by decide) (fun _ => Nat.le_of_ble_eq_true rfl) ?_
  intro p e s m args below meth c D tc aK aV A X
  have X : Cx p s m args meth c cX10_pickUp 4 (some .int) RX10 D tc aK aV A [(shWorld, ad0)] := X
  show aW p l e (x_Rm 2) s m args below meth c D tc A 4 [(shWorld, ad0)] (some (.int o.1)) True [o.2] 0 [(0, .ref (ad0 0)), (1, .int x0), (2, .int x1)] [] [v0]
  unfold f_X10_pickUp at h
  refine a_aload_n (pc := 0) X 0 dX10_pickUp_0 rfl rfl ?_
  refine a_iload_n (pc := 1) X 1 dX10_pickUp_1 rfl rfl ?_
  obtain ⟨y1, e_y1, h⟩ := x_lt_elim h
  refine a_callV (pc := 2) (st2 := [.int y1]) (vs2 := [v0]) X [(0, 0, 32)] [none] 0 0 10 [.int x0] [] cv_RX10_58 (c_X10_isGoing (ad0 := ad0)  e_y1) rfl rfl rfl rfl rfl rfl rfl rfl rfl rfl rfl rfl rfl rfl rfl (Nat.le_of_ble_eq_true rfl) ⟨Nat.le_of_ble_eq_true rfl, Nat.le_of_ble_eq_true rfl⟩ dX10_pickUp_2 (fun z_2 => ?_)
  refine a_if_eq (pc := 5) X 10 dX10_pickUp_5 rfl (fun c_5 => ?_) (fun c_5 => ?_)
  · have h := x_ifp c_5 h
    refine a_aload_n (pc := 10) X 0 dX10_pickUp_10 rfl rfl ?_
    refine a_getR (pc := 11) X 0 1 1 fl_RX10_12 rfl rfl rfl rfl rfl dX10_pickUp_11 ?_
    refine a_getR (pc := 14) X 0 9 10 fl_RX10_141 rfl rfl rfl rfl rfl dX10_pickUp_14 ?_
    refine a_iload_n (pc := 17) X 2 dX10_pickUp_17 rfl rfl ?_
    obtain ⟨y2, e_y2, h⟩ := x_lt_elim h
    refine a_callV (pc := 18) (st2 := [.int y2]) (vs2 := [v0]) X [(0, 10, 2)] [none] 0 10 3 [.int x1] [] cv_RX10_52 (ct_get (ad0 := (fun i => ad0 (i + 10))) (by decide) e_y2) rfl rfl rfl rfl rfl rfl rfl rfl rfl rfl rfl rfl rfl rfl rfl (Nat.le_of_ble_eq_true rfl) ⟨Nat.le_of_ble_eq_true rfl, Nat.le_of_ble_eq_true rfl⟩ dX10_pickUp_18 (fun _ => ?_)
    refine a_aload_n (pc := 21) X 0 dX10_pickUp_21 rfl rfl ?_
    refine a_getR (pc := 22) X 0 17 17 fl_RX10_21 rfl rfl rfl rfl rfl dX10_pickUp_22 ?_
    refine a_getR (pc := 25) X 0 1 18 fl_RX10_62 rfl rfl rfl rfl rfl dX10_pickUp_25 ?_
    refine a_iload_n (pc := 28) X 1 dX10_pickUp_28 rfl rfl ?_
    obtain ⟨y3, e_y3, h⟩ := x_lt_elim h
    refine a_callV (pc := 29) (st2 := [.int y3, .int y2]) (vs2 := [v0]) X [(0, 18, 2)] [none] 0 18 3 [.int x0] [.int y2] cv_RX10_52 (ct_get (ad0 := (fun i => ad0 (i + 18))) (by decide) e_y3) rfl rfl rfl rfl rfl rfl rfl rfl rfl rfl rfl rfl rfl rfl rfl (Nat.le_of_ble_eq_true rfl) ⟨Nat.le_of_ble_eq_true rfl, Nat.le_of_ble_eq_true rfl⟩ dX10_pickUp_29 (fun _ => ?_)
    refine a_icmp_eq (pc := 32) X 37 dX10_pickUp_32 rfl (fun c_32 => ?_) (fun c_32 => ?_)
    · have h := x_ifp c_32 h
      refine a_aload_n (pc := 37) X 0 dX10_pickUp_37 rfl rfl ?_
      refine a_getR (pc := 38) X 0 17 17 fl_RX10_21 rfl rfl rfl rfl rfl dX10_pickUp_38 ?_
      refine a_getR (pc := 41) X 0 9 26 fl_RX10_101 rfl rfl rfl rfl rfl dX10_pickUp_41 ?_
      refine a_iload_n (pc := 44) X 1 dX10_pickUp_44 rfl rfl ?_
      obtain ⟨y4, e_y4, h⟩ := x_lt_elim h
      refine a_callV (pc := 45) (st2 := [.int y4]) (vs2 := [v0]) X [(0, 26, 2)] [none] 0 26 3 [.int x0] [] cv_RX10_52 (ct_get (ad0 := (fun i => ad0 (i + 26))) (by decide) e_y4) rfl rfl rfl rfl rfl rfl rfl rfl rfl rfl rfl rfl rfl rfl rfl (Nat.le_of_ble_eq_true rfl) ⟨Nat.le_of_ble_eq_true rfl, Nat.le_of_ble_eq_true rfl⟩ dX10_pickUp_45 (fun _ => ?_)
      refine a_istore_n (pc := 48) X [(3, .int y4), (0, .ref (ad0 0)), (1, .int x0), (2, .int x1)] dX10_pickUp_48 rfl (by decide) rfl ?_
      refine a_iload_n (pc := 49) X 0 dX10_pickUp_49 rfl rfl ?_
      refine a_iload_n (pc := 50) X 3 dX10_pickUp_50 rfl rfl ?_
      refine a_ishr (pc := 51) X dX10_pickUp_51 ?_
      refine a_iconst (pc := 52) X dX10_pickUp_52 q_ic_1 ?_
      refine a_iand (pc := 53) X dX10_pickUp_53 ?_
      refine a_iconst (pc := 54) X dX10_pickUp_54 q_ic_1 ?_
      refine a_icmp_ne (pc := 55) X 60 dX10_pickUp_55 rfl (fun c_55 => ?_) (fun c_55 => ?_)
      · have h := x_ifn c_55 h
        refine a_aload_n (pc := 60) X 1 dX10_pickUp_60 rfl rfl ?_
        refine a_getR (pc := 61) X 0 17 17 fl_RX10_21 rfl rfl rfl rfl rfl dX10_pickUp_61 ?_
        refine a_getR (pc := 64) X 0 9 26 fl_RX10_101 rfl rfl rfl rfl rfl dX10_pickUp_64 ?_
        refine a_iload_n (pc := 67) X 2 dX10_pickUp_67 rfl rfl ?_
        refine a_iload_n (pc := 68) X 0 dX10_pickUp_68 rfl rfl ?_
        refine a_iconst (pc := 69) X dX10_pickUp_69 q_ic_1 ?_
        refine a_iload_n (pc := 70) X 3 dX10_pickUp_70 rfl rfl ?_
        refine a_ishl (pc := 71) X dX10_pickUp_71 ?_
        refine a_ior (pc := 72) X dX10_pickUp_72 ?_
        obtain ⟨y5, e_y5, h⟩ := x_lt_elim h
        refine a_callV (pc := 73) (st2 := []) (vs2 := [x_put v0 26 2 y5]) X [(0, 26, 2)] [some y5] 0 26 3 [.int x0, .int (y4 ||| ((1 : Int32) <<< (x1 &&& 31)))] [] cv_RX10_137 (ct_put (ad0 := (fun i => ad0 (i + 26))) (by decide) e_y5) rfl rfl rfl rfl rfl rfl rfl rfl rfl rfl rfl rfl rfl rfl rfl (Nat.le_of_ble_eq_true rfl) ⟨Nat.le_of_ble_eq_true rfl, Nat.le_of_ble_eq_true rfl⟩ dX10_pickUp_73 (fun _ => ?_)
        obtain ⟨m6, e_m6, h⟩ := x_lt_elim h
        refine a_nm (vs2 := [m6]) (congrArg (fun q : XM => [q]) e_m6) ?_
        refine a_iconst (pc := 76) X dX10_pickUp_76 q_ic_0 ?_
        subst h
        exact a_iret (pc := 77) X trivial dX10_pickUp_77
      · have h := x_ifp c_55 h
        refine a_iconst (pc := 58) X dX10_pickUp_58 q_ic_3 ?_
        subst h
        exact a_iret (pc := 59) X trivial dX10_pickUp_59
    · have h := x_ifn c_32 h
      refine a_iconst (pc := 35) X dX10_pickUp_35 q_ic_2 ?_
      subst h
      exact a_iret (pc := 36) X trivial dX10_pickUp_36
  · have h := x_ifn c_5 h
    refine a_iconst (pc := 8) X dX10_pickUp_8 q_ic_1 ?_
    subst h
    exact a_iret (pc := 9) X trivial dX10_pickUp_9
theorem dX10_share_0 : decode cX10_share 0 = .ok (.iload_n 1, 1) := by decide +kernel
theorem dX10_share_1 : decode cX10_share 1 = .ok (.iload_n 2, 1) := by decide +kernel
theorem dX10_share_2 : decode cX10_share 2 = .ok (.if_icmp .eq 44, 3) := by decide +kernel
theorem dX10_share_5 : decode cX10_share 5 = .ok (.aload_n 0, 1) := by decide +kernel
theorem dX10_share_6 : decode cX10_share 6 = .ok (.iload_n 1, 1) := by decide +kernel
theorem dX10_share_7 : decode cX10_share 7 = .ok (.invokevirtual 58, 3) := by decide +kernel
theorem dX10_share_10 : decode cX10_share 10 = .ok (.ifCond .ne 36, 3) := by decide +kernel
theorem dX10_share_13 : decode cX10_share 13 = .ok (.aload_n 0, 1) := by decide +kernel
theorem dX10_share_14 : decode cX10_share 14 = .ok (.iload_n 2, 1) := by decide +kernel
theorem dX10_share_15 : decode cX10_share 15 = .ok (.invokevirtual 58, 3) := by decide +kernel
theorem dX10_share_18 : decode cX10_share 18 = .ok (.ifCond .ne 28, 3) := by decide +kernel
theorem dX10_share_21 : decode cX10_share 21 = .ok (.aload_n 0, 1) := by decide +kernel
theorem dX10_share_22 : decode cX10_share 22 = .ok (.getfield 21, 3) := by decide +kernel
theorem dX10_share_25 : decode cX10_share 25 = .ok (.getfield 62, 3) := by decide +kernel
theorem dX10_share_28 : decode cX10_share 28 = .ok (.iload_n 1, 1) := by decide +kernel
theorem dX10_share_29 : decode cX10_share 29 = .ok (.invokevirtual 52, 3) := by decide +kernel
theorem dX10_share_32 : decode cX10_share 32 = .ok (.aload_n 0, 1) := by decide +kernel
theorem dX10_share_33 : decode cX10_share 33 = .ok (.getfield 21, 3) := by decide +kernel
theorem dX10_share_36 : decode cX10_share 36 = .ok (.getfield 62, 3) := by decide +kernel
theorem dX10_share_39 : decode cX10_share 39 = .ok (.iload_n 2, 1) := by decide +kernel
theorem dX10_share_40 : decode cX10_share 40 = .ok (.invokevirtual 52, 3) := by decide +kernel
theorem dX10_share_43 : decode cX10_share 43 = .ok (.if_icmp .eq 5, 3) := by decide +kernel
theorem dX10_share_46 : decode cX10_share 46 = .ok (.iconst 1, 1) := by decide +kernel
theorem dX10_share_47 : decode cX10_share 47 = .ok (.ireturn, 1) := by decide +kernel
theorem dX10_share_48 : decode cX10_share 48 = .ok (.aload_n 0, 1) := by decide +kernel
theorem dX10_share_49 : decode cX10_share 49 = .ok (.getfield 21, 3) := by decide +kernel
theorem dX10_share_52 : decode cX10_share 52 = .ok (.getfield 101, 3) := by decide +kernel
theorem dX10_share_55 : decode cX10_share 55 = .ok (.iload_n 1, 1) := by decide +kernel
theorem dX10_share_56 : decode cX10_share 56 = .ok (.invokevirtual 52, 3) := by decide +kernel
theorem dX10_share_59 : decode cX10_share 59 = .ok (.istore_n 3, 1) := by decide +kernel
theorem dX10_share_60 : decode cX10_share 60 = .ok (.aload_n 0, 1) := by decide +kernel
theorem dX10_share_61 : decode cX10_share 61 = .ok (.getfield 21, 3) := by decide +kernel
theorem dX10_share_64 : decode cX10_share 64 = .ok (.getfield 101, 3) := by decide +kernel
theorem dX10_share_67 : decode cX10_share 67 = .ok (.iload_n 2, 1) := by decide +kernel
theorem dX10_share_68 : decode cX10_share 68 = .ok (.invokevirtual 52, 3) := by decide +kernel
theorem dX10_share_71 : decode cX10_share 71 = .ok (.istore 4, 2) := by decide +kernel
theorem dX10_share_73 : decode cX10_share 73 = .ok (.iload_n 3, 1) := by decide +kernel
theorem dX10_share_74 : decode cX10_share 74 = .ok (.iload 4, 2) := by decide +kernel
theorem dX10_share_76 : decode cX10_share 76 = .ok (.iconst (-1), 1) := by decide +kernel
theorem dX10_share_77 : decode cX10_share 77 = .ok (.ixor, 1) := by decide +kernel
theorem dX10_share_78 : decode cX10_share 78 = .ok (.iand, 1) := by decide +kernel
theorem dX10_share_79 : decode cX10_share 79 = .ok (.ifCond .ne 5, 3) := by decide +kernel
theorem dX10_share_82 : decode cX10_share 82 = .ok (.iconst 2, 1) := by decide +kernel
theorem dX10_share_83 : decode cX10_share 83 = .ok (.ireturn, 1) := by decide +kernel
theorem dX10_share_84 : decode cX10_share 84 = .ok (.aload_n 0, 1) := by decide +kernel
theorem dX10_share_85 : decode cX10_share 85 = .ok (.getfield 21, 3) := by decide +kernel
theorem dX10_share_88 : decode cX10_share 88 = .ok (.getfield 101, 3) := by decide +kernel
theorem dX10_share_91 : decode cX10_share 91 = .ok (.iload_n 2, 1) := by decide +kernel
theorem dX10_share_92 : decode cX10_share 92 = .ok (.iload_n 3, 1) := by decide +kernel
theorem dX10_share_93 : decode cX10_share 93 = .ok (.iload 4, 2) := by decide +kernel
theorem dX10_share_95 : decode cX10_share 95 = .ok (.ior, 1) := by decide +kernel
theorem dX10_share_96 : decode cX10_share 96 = .ok (.invokevirtual 137, 3) := by decide +kernel
theorem dX10_share_99 : decode cX10_share 99 = .ok (.iconst 0, 1) := by decide +kernel
theorem dX10_share_100 : decode cX10_share 100 = .ok (.ireturn, 1) := by decide +kernel
def f_X10_share (v0 : XM) (x0 : Int32) (x1 : Int32) : Int32 × XM :=
  if (x0 : Int32) = x1 then
  (((1 : Int32), v0))
  else (x_lt (f_X10_isGoing v0 x0) (fun y1 =>
  if y1 = (0 : Int32) then
  (x_lt (f_X10_isGoing v0 x1) (fun y2 =>
  if y2 = (0 : Int32) then
  (x_lt (r_get 5 (x_sub v0 18) x0) (fun y3 =>
  x_lt (r_get 5 (x_sub v0 18) x1) (fun y4 =>
  if (y3 : Int32) = y4 then
  (x_lt (r_get 5 (x_sub v0 26) x0) (fun y5 =>
  x_lt (r_get 5 (x_sub v0 26) x1) (fun y6 =>
  if (y5 &&& (y6 ^^^ (-1 : Int32))) = (0 : Int32) then
  (((2 : Int32), v0))
  else (x_lt (r_put 5 (x_sub v0 26) x1 (y5 ||| y6)) (fun y7 =>
  x_lt (x_put v0 26 2 y7) (fun m8 =>
  ((0 : Int32), m8)))))))
  else (((1 : Int32), v0)))))
  else (((1 : Int32), v0))))
  else (((1 : Int32), v0))))
set_option maxRecDepth 100000 in
set_option maxHeartbeats 4000000 in
theorem c_X10_share {l : Launch}  {ad0 : Nat → Nat} {v0 : XM} {x0 : Int32} {x1 : Int32}  {o : Int32 × XM} (h : f_X10_share v0 x0 x1 = o) : CT l yX10_share cX10_share 5 (some .int) 2 [(shWorld, ad0)] [v0] (fun aK => [.ref (ad0 0), .int x0, .int x1]) (some (.int o.1)) True [o.2] := by
  refine CT_of (by decide) (fun _ => Nat.le_of_ble_eq_true rfl) ?_
  intro p e s m args below meth c D tc aK aV A X
  have X : Cx p s m args meth c cX10_share 5 (some .int) RX10 D tc aK aV A [(shWorld, ad0)] := X
  show aW p l e (x_Rm 2) s m args below meth c D tc A 5 [(shWorld, ad0)] (some (.int o.1)) True [o.2] 0 [(0, .ref (ad0 0)), (1, .int x0), (2, .int x1)] [] [v0]
  unfold f_X10_share at h
  refine a_iload_n (pc := 0) X 1 dX10_share_0 rfl rfl ?_
  refine a_iload_n (pc := 1) X 2 dX10_share_1 rfl rfl ?_
  refine a_icmp_eq (pc := 2) X 46 dX10_share_2 rfl (fun c_2 => ?_) (fun c_2 => ?_)
  · have h := x_ifp c_2 h
    refine a_iconst (pc := 46) X dX10_share_46 q_ic_1 ?_
    subst h
    exact a_iret (pc := 47) X trivial dX10_share_47
  · have h := x_ifn c_2 h
    refine a_aload_n (pc := 5) X 0 dX10_share_5 rfl rfl ?_
    refine a_iload_n (pc := 6) X 1 dX10_share_6 rfl rfl ?_
    obtain ⟨y1, e_y1, h⟩ := x_lt_elim h
    refine a_callV (pc := 7) (st2 := [.int y1]) (vs2 := [v0]) X [(0, 0, 32)] [none] 0 0 10 [.int x0] [] cv_RX10_58 (c_X10_isGoing (ad0 := ad0)  e_y1) rfl rfl rfl rfl rfl rfl rfl rfl rfl rfl rfl rfl rfl rfl rfl (Nat.le_of_ble_eq_true rfl) ⟨Nat.le_of_ble_eq_true rfl, Nat.le_of_ble_eq_true rfl⟩ dX10_share_7 (fun z_7 => ?_)
    refine a_if_ne (pc := 10) X 46 dX10_share_10 rfl (fun c_10 => ?_) (fun c_10 => ?_)
    · have h := x_ifn c_10 h
      refine a_iconst (pc := 46) X dX10_share_46 q_ic_1 ?_
      subst h
      exact a_iret (pc := 47) X trivial dX10_share_47
    · have h := x_ifp c_10 h
      refine a_aload_n (pc := 13) X 0 dX10_share_13 rfl rfl ?_
      refine a_iload_n (pc := 14) X 2 dX10_share_14 rfl rfl ?_
      obtain ⟨y2, e_y2, h⟩ := x_lt_elim h
      refine a_callV (pc := 15) (st2 := [.int y2]) (vs2 := [v0]) X [(0, 0, 32)] [none] 0 0 10 [.int x1] [] cv_RX10_58 (c_X10_isGoing (ad0 := ad0)  e_y2) rfl rfl rfl rfl rfl rfl rfl rfl rfl rfl rfl rfl rfl rfl rfl (Nat.le_of_ble_eq_true rfl) ⟨Nat.le_of_ble_eq_true rfl, Nat.le_of_ble_eq_true rfl⟩ dX10_share_15 (fun z_15 => ?_)
      refine a_if_ne (pc := 18) X 46 dX10_share_18 rfl (fun c_18 => ?_) (fun c_18 => ?_)
      · have h := x_ifn c_18 h
        refine a_iconst (pc := 46) X dX10_share_46 q_ic_1 ?_
        subst h
        exact a_iret (pc := 47) X trivial dX10_share_47
      · have h := x_ifp c_18 h
        refine a_aload_n (pc := 21) X 0 dX10_share_21 rfl rfl ?_
        refine a_getR (pc := 22) X 0 17 17 fl_RX10_21 rfl rfl rfl rfl rfl dX10_share_22 ?_
        refine a_getR (pc := 25) X 0 1 18 fl_RX10_62 rfl rfl rfl rfl rfl dX10_share_25 ?_
        refine a_iload_n (pc := 28) X 1 dX10_share_28 rfl rfl ?_
        obtain ⟨y3, e_y3, h⟩ := x_lt_elim h
        refine a_callV (pc := 29) (st2 := [.int y3]) (vs2 := [v0]) X [(0, 18, 2)] [none] 0 18 3 [.int x0] [] cv_RX10_52 (ct_get (ad0 := (fun i => ad0 (i + 18))) (by decide) e_y3) rfl rfl rfl rfl rfl rfl rfl rfl rfl rfl rfl rfl rfl rfl rfl (Nat.le_of_ble_eq_true rfl) ⟨Nat.le_of_ble_eq_true rfl, Nat.le_of_ble_eq_true rfl⟩ dX10_share_29 (fun _ => ?_)
        refine a_aload_n (pc := 32) X 0 dX10_share_32 rfl rfl ?_
        refine a_getR (pc := 33) X 0 17 17 fl_RX10_21 rfl rfl rfl rfl rfl dX10_share_33 ?_
        refine a_getR (pc := 36) X 0 1 18 fl_RX10_62 rfl rfl rfl rfl rfl dX10_share_36 ?_
        refine a_iload_n (pc := 39) X 2 dX10_share_39 rfl rfl ?_
        obtain ⟨y4, e_y4, h⟩ := x_lt_elim h
        refine a_callV (pc := 40) (st2 := [.int y4, .int y3]) (vs2 := [v0]) X [(0, 18, 2)] [none] 0 18 3 [.int x1] [.int y3] cv_RX10_52 (ct_get (ad0 := (fun i => ad0 (i + 18))) (by decide) e_y4) rfl rfl rfl rfl rfl rfl rfl rfl rfl rfl rfl rfl rfl rfl rfl (Nat.le_of_ble_eq_true rfl) ⟨Nat.le_of_ble_eq_true rfl, Nat.le_of_ble_eq_true rfl⟩ dX10_share_40 (fun _ => ?_)
        refine a_icmp_eq (pc := 43) X 48 dX10_share_43 rfl (fun c_43 => ?_) (fun c_43 => ?_)
        · have h := x_ifp c_43 h
          refine a_aload_n (pc := 48) X 0 dX10_share_48 rfl rfl ?_
          refine a_getR (pc := 49) X 0 17 17 fl_RX10_21 rfl rfl rfl rfl rfl dX10_share_49 ?_
          refine a_getR (pc := 52) X 0 9 26 fl_RX10_101 rfl rfl rfl rfl rfl dX10_share_52 ?_
          refine a_iload_n (pc := 55) X 1 dX10_share_55 rfl rfl ?_
          obtain ⟨y5, e_y5, h⟩ := x_lt_elim h
          refine a_callV (pc := 56) (st2 := [.int y5]) (vs2 := [v0]) X [(0, 26, 2)] [none] 0 26 3 [.int x0] [] cv_RX10_52 (ct_get (ad0 := (fun i => ad0 (i + 26))) (by decide) e_y5) rfl rfl rfl rfl rfl rfl rfl rfl rfl rfl rfl rfl rfl rfl rfl (Nat.le_of_ble_eq_true rfl) ⟨Nat.le_of_ble_eq_true rfl, Nat.le_of_ble_eq_true rfl⟩ dX10_share_56 (fun _ => ?_)
          refine a_istore_n (pc := 59) X [(3, .int y5), (0, .ref (ad0 0)), (1, .int x0), (2, .int x1)] dX10_share_59 rfl (by decide) rfl ?_
          refine a_aload_n (pc := 60) X 1 dX10_share_60 rfl rfl ?_
          refine a_getR (pc := 61) X 0 17 17 fl_RX10_21 rfl rfl rfl rfl rfl dX10_share_61 ?_
          refine a_getR (pc := 64) X 0 9 26 fl_RX10_101 rfl rfl rfl rfl rfl dX10_share_64 ?_
          refine a_iload_n (pc := 67) X 3 dX10_share_67 rfl rfl ?_
          obtain ⟨y6, e_y6, h⟩ := x_lt_elim h
          refine a_callV (pc := 68) (st2 := [.int y6]) (vs2 := [v0]) X [(0, 26, 2)] [none] 0 26 3 [.int x1] [] cv_RX10_52 (ct_get (ad0 := (fun i => ad0 (i + 26))) (by decide) e_y6) rfl rfl rfl rfl rfl rfl rfl rfl rfl rfl rfl rfl rfl rfl rfl (Nat.le_of_ble_eq_true rfl) ⟨Nat.le_of_ble_eq_true rfl, Nat.le_of_ble_eq_true rfl⟩ dX10_share_68 (fun _ => ?_)
          refine a_istore (pc := 71) X [(4, .int y6), (3, .int y5), (0, .ref (ad0 0)), (1, .int x0), (2, .int x1)] dX10_share_71 (by decide) rfl ?_
          refine a_iload_n (pc := 73) X 1 dX10_share_73 rfl rfl ?_
          refine a_iload (pc := 74) X 0 dX10_share_74 rfl ?_
          refine a_iconst (pc := 76) X dX10_share_76 q_ic_m1 ?_
          refine a_ixor (pc := 77) X dX10_share_77 ?_
          refine a_iand (pc := 78) X dX10_share_78 ?_
          refine a_if_ne (pc := 79) X 84 dX10_share_79 rfl (fun c_79 => ?_) (fun c_79 => ?_)
          · have h := x_ifn c_79 h
            refine a_aload_n (pc := 84) X 2 dX10_share_84 rfl rfl ?_
            refine a_getR (pc := 85) X 0 17 17 fl_RX10_21 rfl rfl rfl rfl rfl dX10_share_85 ?_
            refine a_getR (pc := 88) X 0 9 26 fl_RX10_101 rfl rfl rfl rfl rfl dX10_share_88 ?_
            refine a_iload_n (pc := 91) X 4 dX10_share_91 rfl rfl ?_
            refine a_iload_n (pc := 92) X 1 dX10_share_92 rfl rfl ?_
            refine a_iload (pc := 93) X 0 dX10_share_93 rfl ?_
            refine a_ior (pc := 95) X dX10_share_95 ?_
            obtain ⟨y7, e_y7, h⟩ := x_lt_elim h
            refine a_callV (pc := 96) (st2 := []) (vs2 := [x_put v0 26 2 y7]) X [(0, 26, 2)] [some y7] 0 26 3 [.int x1, .int (y5 ||| y6)] [] cv_RX10_137 (ct_put (ad0 := (fun i => ad0 (i + 26))) (by decide) e_y7) rfl rfl rfl rfl rfl rfl rfl rfl rfl rfl rfl rfl rfl rfl rfl (Nat.le_of_ble_eq_true rfl) ⟨Nat.le_of_ble_eq_true rfl, Nat.le_of_ble_eq_true rfl⟩ dX10_share_96 (fun _ => ?_)
            obtain ⟨m8, e_m8, h⟩ := x_lt_elim h
            refine a_nm (vs2 := [m8]) (congrArg (fun q : XM => [q]) e_m8) ?_
            refine a_iconst (pc := 99) X dX10_share_99 q_ic_0 ?_
            subst h
            exact a_iret (pc := 100) X trivial dX10_share_100
          · have h := x_ifp c_79 h
            refine a_iconst (pc := 82) X dX10_share_82 q_ic_2 ?_
            subst h
            exact a_iret (pc := 83) X trivial dX10_share_83
        · have h := x_ifn c_43 h
          refine a_iconst (pc := 46) X dX10_share_46 q_ic_1 ?_
          subst h
          exact a_iret (pc := 47) X trivial dX10_share_47
theorem dX10_isHoused_0 : decode cX10_isHoused 0 = .ok (.aload_n 0, 1) := by decide +kernel
theorem dX10_isHoused_1 : decode cX10_isHoused 1 = .ok (.iload_n 1, 1) := by decide +kernel
theorem dX10_isHoused_2 : decode cX10_isHoused 2 = .ok (.invokevirtual 58, 3) := by decide +kernel
theorem dX10_isHoused_5 : decode cX10_isHoused 5 = .ok (.ifCond .ne 32, 3) := by decide +kernel
theorem dX10_isHoused_8 : decode cX10_isHoused 8 = .ok (.aload_n 0, 1) := by decide +kernel
theorem dX10_isHoused_9 : decode cX10_isHoused 9 = .ok (.getfield 12, 3) := by decide +kernel
theorem dX10_isHoused_12 : decode cX10_isHoused 12 = .ok (.getfield 65, 3) := by decide +kernel
theorem dX10_isHoused_15 : decode cX10_isHoused 15 = .ok (.aload_n 0, 1) := by decide +kernel
theorem dX10_isHoused_16 : decode cX10_isHoused 16 = .ok (.getfield 21, 3) := by decide +kernel
theorem dX10_isHoused_19 : decode cX10_isHoused 19 = .ok (.getfield 62, 3) := by decide +kernel
theorem dX10_isHoused_22 : decode cX10_isHoused 22 = .ok (.iload_n 1, 1) := by decide +kernel
theorem dX10_isHoused_23 : decode cX10_isHoused 23 = .ok (.invokevirtual 52, 3) := by decide +kernel
theorem dX10_isHoused_26 : decode cX10_isHoused 26 = .ok (.ishr, 1) := by decide +kernel
theorem dX10_isHoused_27 : decode cX10_isHoused 27 = .ok (.iconst 1, 1) := by decide +kernel
theorem dX10_isHoused_28 : decode cX10_isHoused 28 = .ok (.iand, 1) := by decide +kernel
theorem dX10_isHoused_29 : decode cX10_isHoused 29 = .ok (.iconst 1, 1) := by decide +kernel
theorem dX10_isHoused_30 : decode cX10_isHoused 30 = .ok (.if_icmp .ne 7, 3) := by decide +kernel
theorem dX10_isHoused_33 : decode cX10_isHoused 33 = .ok (.iconst 1, 1) := by decide +kernel
theorem dX10_isHoused_34 : decode cX10_isHoused 34 = .ok (.goto 4, 3) := by decide +kernel
theorem dX10_isHoused_37 : decode cX10_isHoused 37 = .ok (.iconst 0, 1) := by decide +kernel
theorem dX10_isHoused_38 : decode cX10_isHoused 38 = .ok (.ireturn, 1) := by decide +kernel
def f_X10_isHoused (v0 : XM) (x0 : Int32) : Int32 :=
  x_lt (f_X10_isGoing v0 x0) (fun y1 =>
  if y1 = (0 : Int32) then
  (x_lt (r_get 5 (x_sub v0 18) x0) (fun y2 =>
  x_lt (((v0.1 1 5) >>> (y2 &&& 31)) &&& (1 : Int32)) (fun y3 =>
  if (y3 : Int32) = (1 : Int32) then
  (((1 : Int32) : Int32))
  else (((0 : Int32) : Int32)))))
  else (((0 : Int32) : Int32)))
set_option maxRecDepth 100000 in
set_option maxHeartbeats 4000000 in
theorem c_X10_isHoused {l : Launch}  {ad0 : Nat → Nat} {v0 : XM} {x0 : Int32}  {o : Int32} (h : f_X10_isHoused v0 x0 = o) : CT l yX10_isHoused cX10_isHoused 2 (some .boolean) 2 [(shWorld, ad0)] [v0] (fun aK => [.ref (ad0 0), .int x0]) (some (.int o)) (x_Z o) [v0] := by
  refine CT_of (by decide) (fun _ => Nat.le_of_ble_eq_true rfl) ?_
  intro p e s m args below meth c D tc aK aV A X
  have X : Cx p s m args meth c cX10_isHoused 2 (some .boolean) RX10 D tc aK aV A [(shWorld, ad0)] := X
  show aW p l e (x_Rm 2) s m args below meth c D tc A 2 [(shWorld, ad0)] (some (.int o)) (x_Z o) [v0] 0 [(0, .ref (ad0 0)), (1, .int x0)] [] [v0]
  unfold f_X10_isHoused at h
  refine a_aload_n (pc := 0) X 0 dX10_isHoused_0 rfl rfl ?_
  refine a_iload_n (pc := 1) X 1 dX10_isHoused_1 rfl rfl ?_
  obtain ⟨y1, e_y1, h⟩ := x_lt_elim h
  refine a_callV (pc := 2) (st2 := [.int y1]) (vs2 := [v0]) X [(0, 0, 32)] [none] 0 0 10 [.int x0] [] cv_RX10_58 (c_X10_isGoing (ad0 := ad0)  e_y1) rfl rfl rfl rfl rfl rfl rfl rfl rfl rfl rfl rfl rfl rfl rfl (Nat.le_of_ble_eq_true rfl) ⟨Nat.le_of_ble_eq_true rfl, Nat.le_of_ble_eq_true rfl⟩ dX10_isHoused_2 (fun z_2 => ?_)
  refine a_if_ne (pc := 5) X 37 dX10_isHoused_5 rfl (fun c_5 => ?_) (fun c_5 => ?_)
  · have h := x_ifn c_5 h
    refine a_iconst (pc := 37) X dX10_isHoused_37 q_ic_0 ?_
    subst h
    exact a_zret (pc := 38) X x_Z0 x_Z0 dX10_isHoused_38
  · have h := x_ifp c_5 h
    refine a_aload_n (pc := 8) X 0 dX10_isHoused_8 rfl rfl ?_
    refine a_getR (pc := 9) X 0 1 1 fl_RX10_12 rfl rfl rfl rfl rfl dX10_isHoused_9 ?_
    refine a_getI (pc := 12) X 0 fl_RX10_65 rfl rfl rfl rfl dX10_isHoused_12 ?_
    refine a_aload_n (pc := 15) X 0 dX10_isHoused_15 rfl rfl ?_
    refine a_getR (pc := 16) X 0 17 17 fl_RX10_21 rfl rfl rfl rfl rfl dX10_isHoused_16 ?_
    refine a_getR (pc := 19) X 0 1 18 fl_RX10_62 rfl rfl rfl rfl rfl dX10_isHoused_19 ?_
    refine a_iload_n (pc := 22) X 1 dX10_isHoused_22 rfl rfl ?_
    obtain ⟨y2, e_y2, h⟩ := x_lt_elim h
    refine a_callV (pc := 23) (st2 := [.int y2, .int (v0.1 1 5)]) (vs2 := [v0]) X [(0, 18, 2)] [none] 0 18 3 [.int x0] [.int (v0.1 1 5)] cv_RX10_52 (ct_get (ad0 := (fun i => ad0 (i + 18))) (by decide) e_y2) rfl rfl rfl rfl rfl rfl rfl rfl rfl rfl rfl rfl rfl rfl rfl (Nat.le_of_ble_eq_true rfl) ⟨Nat.le_of_ble_eq_true rfl, Nat.le_of_ble_eq_true rfl⟩ dX10_isHoused_23 (fun _ => ?_)
    refine a_ishr (pc := 26) X dX10_isHoused_26 ?_
    refine a_iconst (pc := 27) X dX10_isHoused_27 q_ic_1 ?_
    refine a_iand (pc := 28) X dX10_isHoused_28 ?_
    obtain ⟨y3, e_y3, h⟩ := x_lt_elim h
    refine a_ni e_y3 ?_
    refine a_iconst (pc := 29) X dX10_isHoused_29 q_ic_1 ?_
    refine a_icmp_ne (pc := 30) X 37 dX10_isHoused_30 rfl (fun c_30 => ?_) (fun c_30 => ?_)
    · have h := x_ifn c_30 h
      refine a_iconst (pc := 37) X dX10_isHoused_37 q_ic_0 ?_
      subst h
      exact a_zret (pc := 38) X x_Z0 x_Z0 dX10_isHoused_38
    · have h := x_ifp c_30 h
      refine a_iconst (pc := 33) X dX10_isHoused_33 q_ic_1 ?_
      refine a_goto (pc := 34) X 38 dX10_isHoused_34 rfl ?_
      subst h
      exact a_zret (pc := 38) X x_Z1 x_Z1 dX10_isHoused_38
theorem dX10_sleep_0 : decode cX10_sleep 0 = .ok (.aload_n 0, 1) := by decide +kernel
theorem dX10_sleep_1 : decode cX10_sleep 1 = .ok (.iload_n 1, 1) := by decide +kernel
theorem dX10_sleep_2 : decode cX10_sleep 2 = .ok (.invokevirtual 58, 3) := by decide +kernel
theorem dX10_sleep_5 : decode cX10_sleep 5 = .ok (.ifCond .eq 5, 3) := by decide +kernel
theorem dX10_sleep_8 : decode cX10_sleep 8 = .ok (.iconst 1, 1) := by decide +kernel
theorem dX10_sleep_9 : decode cX10_sleep 9 = .ok (.ireturn, 1) := by decide +kernel
theorem dX10_sleep_10 : decode cX10_sleep 10 = .ok (.aload_n 0, 1) := by decide +kernel
theorem dX10_sleep_11 : decode cX10_sleep 11 = .ok (.iload_n 1, 1) := by decide +kernel
theorem dX10_sleep_12 : decode cX10_sleep 12 = .ok (.invokevirtual 144, 3) := by decide +kernel
theorem dX10_sleep_15 : decode cX10_sleep 15 = .ok (.ifCond .ne 5, 3) := by decide +kernel
theorem dX10_sleep_18 : decode cX10_sleep 18 = .ok (.iconst 2, 1) := by decide +kernel
theorem dX10_sleep_19 : decode cX10_sleep 19 = .ok (.ireturn, 1) := by decide +kernel
theorem dX10_sleep_20 : decode cX10_sleep 20 = .ok (.aload_n 0, 1) := by decide +kernel
theorem dX10_sleep_21 : decode cX10_sleep 21 = .ok (.getfield 21, 3) := by decide +kernel
theorem dX10_sleep_24 : decode cX10_sleep 24 = .ok (.getfield 104, 3) := by decide +kernel
theorem dX10_sleep_27 : decode cX10_sleep 27 = .ok (.iload_n 1, 1) := by decide +kernel
theorem dX10_sleep_28 : decode cX10_sleep 28 = .ok (.invokevirtual 52, 3) := by decide +kernel
theorem dX10_sleep_31 : decode cX10_sleep 31 = .ok (.ifCond .ne 5, 3) := by decide +kernel
theorem dX10_sleep_34 : decode cX10_sleep 34 = .ok (.iconst 3, 1) := by decide +kernel
theorem dX10_sleep_35 : decode cX10_sleep 35 = .ok (.ireturn, 1) := by decide +kernel
theorem dX10_sleep_36 : decode cX10_sleep 36 = .ok (.aload_n 0, 1) := by decide +kernel
theorem dX10_sleep_37 : decode cX10_sleep 37 = .ok (.getfield 21, 3) := by decide +kernel
theorem dX10_sleep_40 : decode cX10_sleep 40 = .ok (.getfield 104, 3) := by decide +kernel
theorem dX10_sleep_43 : decode cX10_sleep 43 = .ok (.iload_n 1, 1) := by decide +kernel
theorem dX10_sleep_44 : decode cX10_sleep 44 = .ok (.iconst 0, 1) := by decide +kernel
theorem dX10_sleep_45 : decode cX10_sleep 45 = .ok (.invokevirtual 137, 3) := by decide +kernel
theorem dX10_sleep_48 : decode cX10_sleep 48 = .ok (.iconst 0, 1) := by decide +kernel
theorem dX10_sleep_49 : decode cX10_sleep 49 = .ok (.ireturn, 1) := by decide +kernel
def f_X10_sleep (v0 : XM) (x0 : Int32) : Int32 × XM :=
  x_lt (f_X10_isGoing v0 x0) (fun y1 =>
  if y1 = (0 : Int32) then
  (x_lt (f_X10_isHoused v0 x0) (fun y2 =>
  if y2 = (0 : Int32) then
  (((2 : Int32), v0))
  else (x_lt (r_get 5 (x_sub v0 24) x0) (fun y3 =>
  if y3 = (0 : Int32) then
  (((3 : Int32), v0))
  else (x_lt (r_put 5 (x_sub v0 24) x0 (0 : Int32)) (fun y4 =>
  x_lt (x_put v0 24 2 y4) (fun m5 =>
  ((0 : Int32), m5))))))))
  else (((1 : Int32), v0)))
set_option maxRecDepth 100000 in
set_option maxHeartbeats 4000000 in
theorem c_X10_sleep {l : Launch}  {ad0 : Nat → Nat} {v0 : XM} {x0 : Int32}  {o : Int32 × XM} (h : f_X10_sleep v0 x0 = o) : CT l yX10_sleep cX10_sleep 2 (some .int) 3 [(shWorld, ad0)] [v0] (fun aK => [.ref (ad0 0), .int x0]) (some (.int o.1)) True [o.2] := by
  refine CT_of (by decide) (fun _ => Nat.le_of_ble_eq_true rfl) ?_
  intro p e s m args below meth c D tc aK aV A X
  have X : Cx p s m args meth c cX10_sleep 2 (some .int) RX10 D tc aK aV A [(shWorld, ad0)] := X
  show aW p l e (x_Rm 3) s m args below meth c D tc A 2 [(shWorld, ad0)] (some (.int o.1)) True [o.2] 0 [(0, .ref (ad0 0)), (1, .int x0)] [] [v0]
  unfold f_X10_sleep at h
  refine a_aload_n (pc := 0) X 0 dX10_sleep_0 rfl rfl ?_
  refine a_iload_n (pc := 1) X 1 dX10_sleep_1 rfl rfl ?_
  obtain ⟨y1, e_y1, h⟩ := x_lt_elim h
  refine a_callV (pc := 2) (st2 := [.int y1]) (vs2 := [v0]) X [(0, 0, 32)] [none] 0 0 10 [.int x0] [] cv_RX10_58 (c_X10_isGoing (ad0 := ad0)  e_y1) rfl rfl rfl rfl rfl rfl rfl rfl rfl rfl rfl rfl rfl rfl rfl (Nat.le_of_ble_eq_true rfl) ⟨Nat.le_of_ble_eq_true rfl, Nat.le_of_ble_eq_true rfl⟩ dX10_sleep_2 (fun z_2 => ?_)
  refine a_if_eq (pc := 5) X 10 dX10_sleep_5 rfl (fun c_5 => ?_) (fun c_5 => ?_)
  · have h := x_ifp c_5 h
    refine a_aload_n (pc := 10) X 0 dX10_sleep_10 rfl rfl ?_
    refine a_iload_n (pc := 11) X 1 dX10_sleep_11 rfl rfl ?_
    obtain ⟨y2, e_y2, h⟩ := x_lt_elim h
    refine a_callV (pc := 12) (st2 := [.int y2]) (vs2 := [v0]) X [(0, 0, 32)] [none] 0 0 10 [.int x0] [] cv_RX10_144 (c_X10_isHoused (ad0 := ad0)  e_y2) rfl rfl rfl rfl rfl rfl rfl rfl rfl rfl rfl rfl rfl rfl rfl (Nat.le_of_ble_eq_true rfl) ⟨Nat.le_of_ble_eq_true rfl, Nat.le_of_ble_eq_true rfl⟩ dX10_sleep_12 (fun z_12 => ?_)
    refine a_if_ne (pc := 15) X 20 dX10_sleep_15 rfl (fun c_15 => ?_) (fun c_15 => ?_)
    · have h := x_ifn c_15 h
      refine a_aload_n (pc := 20) X 0 dX10_sleep_20 rfl rfl ?_
      refine a_getR (pc := 21) X 0 17 17 fl_RX10_21 rfl rfl rfl rfl rfl dX10_sleep_21 ?_
      refine a_getR (pc := 24) X 0 7 24 fl_RX10_104 rfl rfl rfl rfl rfl dX10_sleep_24 ?_
      refine a_iload_n (pc := 27) X 1 dX10_sleep_27 rfl rfl ?_
      obtain ⟨y3, e_y3, h⟩ := x_lt_elim h
      refine a_callV (pc := 28) (st2 := [.int y3]) (vs2 := [v0]) X [(0, 24, 2)] [none] 0 24 3 [.int x0] [] cv_RX10_52 (ct_get (ad0 := (fun i => ad0 (i + 24))) (by decide) e_y3) rfl rfl rfl rfl rfl rfl rfl rfl rfl rfl rfl rfl rfl rfl rfl (Nat.le_of_ble_eq_true rfl) ⟨Nat.le_of_ble_eq_true rfl, Nat.le_of_ble_eq_true rfl⟩ dX10_sleep_28 (fun _ => ?_)
      refine a_if_ne (pc := 31) X 36 dX10_sleep_31 rfl (fun c_31 => ?_) (fun c_31 => ?_)
      · have h := x_ifn c_31 h
        refine a_aload_n (pc := 36) X 0 dX10_sleep_36 rfl rfl ?_
        refine a_getR (pc := 37) X 0 17 17 fl_RX10_21 rfl rfl rfl rfl rfl dX10_sleep_37 ?_
        refine a_getR (pc := 40) X 0 7 24 fl_RX10_104 rfl rfl rfl rfl rfl dX10_sleep_40 ?_
        refine a_iload_n (pc := 43) X 1 dX10_sleep_43 rfl rfl ?_
        refine a_iconst (pc := 44) X dX10_sleep_44 q_ic_0 ?_
        obtain ⟨y4, e_y4, h⟩ := x_lt_elim h
        refine a_callV (pc := 45) (st2 := []) (vs2 := [x_put v0 24 2 y4]) X [(0, 24, 2)] [some y4] 0 24 3 [.int x0, .int (0 : Int32)] [] cv_RX10_137 (ct_put (ad0 := (fun i => ad0 (i + 24))) (by decide) e_y4) rfl rfl rfl rfl rfl rfl rfl rfl rfl rfl rfl rfl rfl rfl rfl (Nat.le_of_ble_eq_true rfl) ⟨Nat.le_of_ble_eq_true rfl, Nat.le_of_ble_eq_true rfl⟩ dX10_sleep_45 (fun _ => ?_)
        obtain ⟨m5, e_m5, h⟩ := x_lt_elim h
        refine a_nm (vs2 := [m5]) (congrArg (fun q : XM => [q]) e_m5) ?_
        refine a_iconst (pc := 48) X dX10_sleep_48 q_ic_0 ?_
        subst h
        exact a_iret (pc := 49) X trivial dX10_sleep_49
      · have h := x_ifp c_31 h
        refine a_iconst (pc := 34) X dX10_sleep_34 q_ic_3 ?_
        subst h
        exact a_iret (pc := 35) X trivial dX10_sleep_35
    · have h := x_ifp c_15 h
      refine a_iconst (pc := 18) X dX10_sleep_18 q_ic_2 ?_
      subst h
      exact a_iret (pc := 19) X trivial dX10_sleep_19
  · have h := x_ifn c_5 h
    refine a_iconst (pc := 8) X dX10_sleep_8 q_ic_1 ?_
    subst h
    exact a_iret (pc := 9) X trivial dX10_sleep_9
theorem dX10_smooth_0 : decode cX10_smooth 0 = .ok (.aload_n 0, 1) := by decide +kernel
theorem dX10_smooth_1 : decode cX10_smooth 1 = .ok (.getfield 21, 3) := by decide +kernel
theorem dX10_smooth_4 : decode cX10_smooth 4 = .ok (.getfield 69, 3) := by decide +kernel
theorem dX10_smooth_7 : decode cX10_smooth 7 = .ok (.iload_n 1, 1) := by decide +kernel
theorem dX10_smooth_8 : decode cX10_smooth 8 = .ok (.invokevirtual 52, 3) := by decide +kernel
theorem dX10_smooth_11 : decode cX10_smooth 11 = .ok (.iconst 1, 1) := by decide +kernel
theorem dX10_smooth_12 : decode cX10_smooth 12 = .ok (.if_icmp .ne 5, 3) := by decide +kernel
theorem dX10_smooth_15 : decode cX10_smooth 15 = .ok (.iconst 1, 1) := by decide +kernel
theorem dX10_smooth_16 : decode cX10_smooth 16 = .ok (.ireturn, 1) := by decide +kernel
theorem dX10_smooth_17 : decode cX10_smooth 17 = .ok (.aload_n 0, 1) := by decide +kernel
theorem dX10_smooth_18 : decode cX10_smooth 18 = .ok (.getfield 21, 3) := by decide +kernel
theorem dX10_smooth_21 : decode cX10_smooth 21 = .ok (.getfield 69, 3) := by decide +kernel
theorem dX10_smooth_24 : decode cX10_smooth 24 = .ok (.iload_n 1, 1) := by decide +kernel
theorem dX10_smooth_25 : decode cX10_smooth 25 = .ok (.iconst 1, 1) := by decide +kernel
theorem dX10_smooth_26 : decode cX10_smooth 26 = .ok (.invokevirtual 137, 3) := by decide +kernel
theorem dX10_smooth_29 : decode cX10_smooth 29 = .ok (.iconst 0, 1) := by decide +kernel
theorem dX10_smooth_30 : decode cX10_smooth 30 = .ok (.ireturn, 1) := by decide +kernel
def f_X10_smooth (v0 : XM) (x0 : Int32) : Int32 × XM :=
  x_lt (r_get 12 (x_sub v0 28) x0) (fun y1 =>
  if (y1 : Int32) = (1 : Int32) then
  (((1 : Int32), v0))
  else (x_lt (r_put 12 (x_sub v0 28) x0 (1 : Int32)) (fun y2 =>
  x_lt (x_put v0 28 2 y2) (fun m3 =>
  ((0 : Int32), m3)))))
set_option maxRecDepth 100000 in
set_option maxHeartbeats 4000000 in
theorem c_X10_smooth {l : Launch}  {ad0 : Nat → Nat} {v0 : XM} {x0 : Int32}  {o : Int32 × XM} (h : f_X10_smooth v0 x0 = o) : CT l yX10_smooth cX10_smooth 2 (some .int) 1 [(shWorld, ad0)] [v0] (fun aK => [.ref (ad0 0), .int x0]) (some (.int o.1)) True [o.2] := by
  refine CT_of (by decide) (fun _ => Nat.le_of_ble_eq_true rfl) ?_
  intro p e s m args below meth c D tc aK aV A X
  have X : Cx p s m args meth c cX10_smooth 2 (some .int) RX10 D tc aK aV A [(shWorld, ad0)] := X
  show aW p l e (x_Rm 1) s m args below meth c D tc A 2 [(shWorld, ad0)] (some (.int o.1)) True [o.2] 0 [(0, .ref (ad0 0)), (1, .int x0)] [] [v0]
  unfold f_X10_smooth at h
  refine a_aload_n (pc := 0) X 0 dX10_smooth_0 rfl rfl ?_
  refine a_getR (pc := 1) X 0 17 17 fl_RX10_21 rfl rfl rfl rfl rfl dX10_smooth_1 ?_
  refine a_getR (pc := 4) X 0 11 28 fl_RX10_69 rfl rfl rfl rfl rfl dX10_smooth_4 ?_
  refine a_iload_n (pc := 7) X 1 dX10_smooth_7 rfl rfl ?_
  obtain ⟨y1, e_y1, h⟩ := x_lt_elim h
  refine a_callV (pc := 8) (st2 := [.int y1]) (vs2 := [v0]) X [(0, 28, 2)] [none] 0 28 3 [.int x0] [] cv_RX10_52 (ct_get (ad0 := (fun i => ad0 (i + 28))) (by decide) e_y1) rfl rfl rfl rfl rfl rfl rfl rfl rfl rfl rfl rfl rfl rfl rfl (Nat.le_of_ble_eq_true rfl) ⟨Nat.le_of_ble_eq_true rfl, Nat.le_of_ble_eq_true rfl⟩ dX10_smooth_8 (fun _ => ?_)
  refine a_iconst (pc := 11) X dX10_smooth_11 q_ic_1 ?_
  refine a_icmp_ne (pc := 12) X 17 dX10_smooth_12 rfl (fun c_12 => ?_) (fun c_12 => ?_)
  · have h := x_ifn c_12 h
    refine a_aload_n (pc := 17) X 0 dX10_smooth_17 rfl rfl ?_
    refine a_getR (pc := 18) X 0 17 17 fl_RX10_21 rfl rfl rfl rfl rfl dX10_smooth_18 ?_
    refine a_getR (pc := 21) X 0 11 28 fl_RX10_69 rfl rfl rfl rfl rfl dX10_smooth_21 ?_
    refine a_iload_n (pc := 24) X 1 dX10_smooth_24 rfl rfl ?_
    refine a_iconst (pc := 25) X dX10_smooth_25 q_ic_1 ?_
    obtain ⟨y2, e_y2, h⟩ := x_lt_elim h
    refine a_callV (pc := 26) (st2 := []) (vs2 := [x_put v0 28 2 y2]) X [(0, 28, 2)] [some y2] 0 28 3 [.int x0, .int (1 : Int32)] [] cv_RX10_137 (ct_put (ad0 := (fun i => ad0 (i + 28))) (by decide) e_y2) rfl rfl rfl rfl rfl rfl rfl rfl rfl rfl rfl rfl rfl rfl rfl (Nat.le_of_ble_eq_true rfl) ⟨Nat.le_of_ble_eq_true rfl, Nat.le_of_ble_eq_true rfl⟩ dX10_smooth_26 (fun _ => ?_)
    obtain ⟨m3, e_m3, h⟩ := x_lt_elim h
    refine a_nm (vs2 := [m3]) (congrArg (fun q : XM => [q]) e_m3) ?_
    refine a_iconst (pc := 29) X dX10_smooth_29 q_ic_0 ?_
    subst h
    exact a_iret (pc := 30) X trivial dX10_smooth_30
  · have h := x_ifp c_12 h
    refine a_iconst (pc := 15) X dX10_smooth_15 q_ic_1 ?_
    subst h
    exact a_iret (pc := 16) X trivial dX10_smooth_16
theorem dX10_goersAlong_0 : decode cX10_goersAlong 0 = .ok (.iconst 0, 1) := by decide +kernel
theorem dX10_goersAlong_1 : decode cX10_goersAlong 1 = .ok (.istore_n 2, 1) := by decide +kernel
theorem dX10_goersAlong_2 : decode cX10_goersAlong 2 = .ok (.iconst 0, 1) := by decide +kernel
theorem dX10_goersAlong_3 : decode cX10_goersAlong 3 = .ok (.istore_n 3, 1) := by decide +kernel
theorem dX10_goersAlong_4 : decode cX10_goersAlong 4 = .ok (.iload_n 3, 1) := by decide +kernel
theorem dX10_goersAlong_5 : decode cX10_goersAlong 5 = .ok (.aload_n 0, 1) := by decide +kernel
theorem dX10_goersAlong_6 : decode cX10_goersAlong 6 = .ok (.getfield 12, 3) := by decide +kernel
theorem dX10_goersAlong_9 : decode cX10_goersAlong 9 = .ok (.getfield 88, 3) := by decide +kernel
theorem dX10_goersAlong_12 : decode cX10_goersAlong 12 = .ok (.if_icmp .ge 38, 3) := by decide +kernel
theorem dX10_goersAlong_15 : decode cX10_goersAlong 15 = .ok (.aload_n 0, 1) := by decide +kernel
theorem dX10_goersAlong_16 : decode cX10_goersAlong 16 = .ok (.iload_n 3, 1) := by decide +kernel
theorem dX10_goersAlong_17 : decode cX10_goersAlong 17 = .ok (.invokevirtual 58, 3) := by decide +kernel
theorem dX10_goersAlong_20 : decode cX10_goersAlong 20 = .ok (.ifCond .eq 24, 3) := by decide +kernel
theorem dX10_goersAlong_23 : decode cX10_goersAlong 23 = .ok (.aload_n 0, 1) := by decide +kernel
theorem dX10_goersAlong_24 : decode cX10_goersAlong 24 = .ok (.getfield 21, 3) := by decide +kernel
theorem dX10_goersAlong_27 : decode cX10_goersAlong 27 = .ok (.getfield 91, 3) := by decide +kernel
theorem dX10_goersAlong_30 : decode cX10_goersAlong 30 = .ok (.iload_n 3, 1) := by decide +kernel
theorem dX10_goersAlong_31 : decode cX10_goersAlong 31 = .ok (.invokevirtual 52, 3) := by decide +kernel
theorem dX10_goersAlong_34 : decode cX10_goersAlong 34 = .ok (.iload_n 1, 1) := by decide +kernel
theorem dX10_goersAlong_35 : decode cX10_goersAlong 35 = .ok (.if_icmp .ne 9, 3) := by decide +kernel
theorem dX10_goersAlong_38 : decode cX10_goersAlong 38 = .ok (.iload_n 2, 1) := by decide +kernel
theorem dX10_goersAlong_39 : decode cX10_goersAlong 39 = .ok (.iconst 1, 1) := by decide +kernel
theorem dX10_goersAlong_40 : decode cX10_goersAlong 40 = .ok (.iload_n 3, 1) := by decide +kernel
theorem dX10_goersAlong_41 : decode cX10_goersAlong 41 = .ok (.ishl, 1) := by decide +kernel
theorem dX10_goersAlong_42 : decode cX10_goersAlong 42 = .ok (.ior, 1) := by decide +kernel
theorem dX10_goersAlong_43 : decode cX10_goersAlong 43 = .ok (.istore_n 2, 1) := by decide +kernel
theorem dX10_goersAlong_44 : decode cX10_goersAlong 44 = .ok (.iinc 3 1, 3) := by decide +kernel
theorem dX10_goersAlong_47 : decode cX10_goersAlong 47 = .ok (.goto (-43), 3) := by decide +kernel
theorem dX10_goersAlong_50 : decode cX10_goersAlong 50 = .ok (.iload_n 2, 1) := by decide +kernel
theorem dX10_goersAlong_51 : decode cX10_goersAlong 51 = .ok (.ireturn, 1) := by decide +kernel
def f_X10_goersAlong_44 (v0 : XM) (k4 : Int32 → Int32 → Int32 → Option (Int32)) (l1 : Int32) (l2 : Int32) (l3 : Int32) : Option (Int32) :=
  k4 l1 l2 (l3 + 1)
def f_X10_goersAlong_4 (v0 : XM) (k4 : Int32 → Int32 → Int32 → Option (Int32)) (l1 : Int32) (l2 : Int32) (l3 : Int32) : Option (Int32) :=
  if ((v0.1 1 3) : Int32) ≤ l3 then
  (some (l2 : Int32))
  else (x_lt (f_X10_isGoing v0 l3) (fun y1 =>
  if y1 = (0 : Int32) then
  (f_X10_goersAlong_44 v0 k4 l1 l2 l3)
  else (x_lt (r_get 5 (x_sub v0 20) l3) (fun y2 =>
  if (y2 : Int32) = l1 then
  (x_lt (l2 ||| ((1 : Int32) <<< (l3 &&& 31))) (fun y3 =>
  f_X10_goersAlong_44 v0 k4 l1 y3 l3))
  else (f_X10_goersAlong_44 v0 k4 l1 l2 l3)))))
def f_X10_goersAlong (v0 : XM) (x0 : Int32) : Option (Int32) :=
  x_lp (φ := Int32 → Int32 → Int32 → Option (Int32)) (fun _ _ _ => none) (f_X10_goersAlong_4 v0 ) x_NN x0 (0 : Int32) (0 : Int32)
set_option maxRecDepth 100000 in
set_option maxHeartbeats 4000000 in
theorem w_X10_goersAlong_44 {p : Program} {l : Launch} {e : Env} {s : State} {m : MethodId} {args : Array Value} {below : List Frame} {meth : Method} {c : Code} {D : va_G} {tc : Nat → ClassId} {aK aV : Nat → Nat} {A : Nat → Prop} {ad0 : Nat → Nat} {v0 : XM} (X : Cx p s m args meth c cX10_goersAlong 4 (some .int) RX10 D tc aK aV A [(shWorld, ad0)])  {o : Int32} {k4 : Int32 → Int32 → Int32 → Option (Int32)} (hk4 : ∀ (l1 : Int32) (l2 : Int32) (l3 : Int32), k4 l1 l2 l3 = some o → aW p l e (x_Rm 2) s m args below meth c D tc A 4 [(shWorld, ad0)] (some (.int o)) True [v0] 4 [(0, .ref (ad0 0)), (1, .int l1), (2, .int l2), (3, .int l3)] [] [v0]) {l1 : Int32} {l2 : Int32} {l3 : Int32}  (h : f_X10_goersAlong_44 v0 k4 l1 l2 l3 = some o) : aW p l e (x_Rm 2) s m args below meth c D tc A 4 [(shWorld, ad0)] (some (.int o)) True [v0] 44 [(0, .ref (ad0 0)), (1, .int l1), (2, .int l2), (3, .int l3)] [] [v0] := by
  unfold f_X10_goersAlong_44 at h
  refine a_iinc (pc := 44) X 3 [(3, .int (l3 + 1)), (0, .ref (ad0 0)), (1, .int l1), (2, .int l2)] dX10_goersAlong_44 rfl (congrArg (HAdd.hAdd l3) q_ic_1) (by decide) rfl ?_
  refine a_goto (pc := 47) X 4 dX10_goersAlong_47 rfl ?_
  refine a_sub [1, 2, 3, 0] rfl ?_
  exact hk4 _ _ _ h
set_option maxRecDepth 100000 in
set_option maxHeartbeats 4000000 in
theorem w_X10_goersAlong_4 {p : Program} {l : Launch} {e : Env} {s : State} {m : MethodId} {args : Array Value} {below : List Frame} {meth : Method} {c : Code} {D : va_G} {tc : Nat → ClassId} {aK aV : Nat → Nat} {A : Nat → Prop} {ad0 : Nat → Nat} {v0 : XM} (X : Cx p s m args meth c cX10_goersAlong 4 (some .int) RX10 D tc aK aV A [(shWorld, ad0)])  {o : Int32}  : ∀ (n : Nat), ∀ (l1 : Int32) (l2 : Int32) (l3 : Int32), x_lp (φ := Int32 → Int32 → Int32 → Option (Int32)) (fun _ _ _ => none) (f_X10_goersAlong_4 v0 ) n l1 l2 l3 = some o → aW p l e (x_Rm 2) s m args below meth c D tc A 4 [(shWorld, ad0)] (some (.int o)) True [v0] 4 [(0, .ref (ad0 0)), (1, .int l1), (2, .int l2), (3, .int l3)] [] [v0] := by
  intro n
  induction n with
  | zero => intro l1 l2 l3 h; exact absurd h (fun q => by cases q)
  | succ n ih =>
    intro l1 l2 l3 h
    have h : f_X10_goersAlong_4 v0  (x_lp (φ := Int32 → Int32 → Int32 → Option (Int32)) (fun _ _ _ => none) (f_X10_goersAlong_4 v0 ) n) l1 l2 l3 = some o := h
    generalize x_lp (φ := Int32 → Int32 → Int32 → Option (Int32)) (fun _ _ _ => none) (f_X10_goersAlong_4 v0 ) n = k4 at h ih
    have hk4 := ih
    unfold f_X10_goersAlong_4 at h
    refine a_iload_n (pc := 4) X 3 dX10_goersAlong_4 rfl rfl ?_
    refine a_aload_n (pc := 5) X 0 dX10_goersAlong_5 rfl rfl ?_
    refine a_getR (pc := 6) X 0 1 1 fl_RX10_12 rfl rfl rfl rfl rfl dX10_goersAlong_6 ?_
    refine a_getI (pc := 9) X 0 fl_RX10_88 rfl rfl rfl rfl dX10_goersAlong_9 ?_
    refine a_icmp_ge (pc := 12) X 50 dX10_goersAlong_12 rfl (fun c_12 => ?_) (fun c_12 => ?_)
    · have h := x_ifp c_12 h
      refine a_iload_n (pc := 50) X 2 dX10_goersAlong_50 rfl rfl ?_
      have h := Option.some.inj h; subst h
      exact a_iret (pc := 51) X trivial dX10_goersAlong_51
    · have h := x_ifn c_12 h
      refine a_aload_n (pc := 15) X 0 dX10_goersAlong_15 rfl rfl ?_
      refine a_iload_n (pc := 16) X 3 dX10_goersAlong_16 rfl rfl ?_
      obtain ⟨y1, e_y1, h⟩ := x_lt_elim h
      refine a_callV (pc := 17) (st2 := [.int y1]) (vs2 := [v0]) X [(0, 0, 32)] [none] 0 0 10 [.int l3] [] cv_RX10_58 (c_X10_isGoing (ad0 := ad0)  e_y1) rfl rfl rfl rfl rfl rfl rfl rfl rfl rfl rfl rfl rfl rfl rfl (Nat.le_of_ble_eq_true rfl) ⟨Nat.le_of_ble_eq_true rfl, Nat.le_of_ble_eq_true rfl⟩ dX10_goersAlong_17 (fun z_17 => ?_)
      refine a_if_eq (pc := 20) X 44 dX10_goersAlong_20 rfl (fun c_20 => ?_) (fun c_20 => ?_)
      · have h := x_ifp c_20 h
        exact w_X10_goersAlong_44 X   hk4  h
      · have h := x_ifn c_20 h
        refine a_aload_n (pc := 23) X 0 dX10_goersAlong_23 rfl rfl ?_
        refine a_getR (pc := 24) X 0 17 17 fl_RX10_21 rfl rfl rfl rfl rfl dX10_goersAlong_24 ?_
        refine a_getR (pc := 27) X 0 3 20 fl_RX10_91 rfl rfl rfl rfl rfl dX10_goersAlong_27 ?_
        refine a_iload_n (pc := 30) X 3 dX10_goersAlong_30 rfl rfl ?_
        obtain ⟨y2, e_y2, h⟩ := x_lt_elim h
        refine a_callV (pc := 31) (st2 := [.int y2]) (vs2 := [v0]) X [(0, 20, 2)] [none] 0 20 3 [.int l3] [] cv_RX10_52 (ct_get (ad0 := (fun i => ad0 (i + 20))) (by decide) e_y2) rfl rfl rfl rfl rfl rfl rfl rfl rfl rfl rfl rfl rfl rfl rfl (Nat.le_of_ble_eq_true rfl) ⟨Nat.le_of_ble_eq_true rfl, Nat.le_of_ble_eq_true rfl⟩ dX10_goersAlong_31 (fun _ => ?_)
        refine a_iload_n (pc := 34) X 1 dX10_goersAlong_34 rfl rfl ?_
        refine a_icmp_ne (pc := 35) X 44 dX10_goersAlong_35 rfl (fun c_35 => ?_) (fun c_35 => ?_)
        · have h := x_ifn c_35 h
          exact w_X10_goersAlong_44 X   hk4  h
        · have h := x_ifp c_35 h
          refine a_iload_n (pc := 38) X 2 dX10_goersAlong_38 rfl rfl ?_
          refine a_iconst (pc := 39) X dX10_goersAlong_39 q_ic_1 ?_
          refine a_iload_n (pc := 40) X 3 dX10_goersAlong_40 rfl rfl ?_
          refine a_ishl (pc := 41) X dX10_goersAlong_41 ?_
          refine a_ior (pc := 42) X dX10_goersAlong_42 ?_
          obtain ⟨y3, e_y3, h⟩ := x_lt_elim h
          refine a_ni e_y3 ?_
          refine a_istore_n (pc := 43) X [(2, .int y3), (0, .ref (ad0 0)), (1, .int l1), (3, .int l3)] dX10_goersAlong_43 rfl (by decide) rfl ?_
          refine a_sub [1, 2, 0, 3] rfl ?_
          exact w_X10_goersAlong_44 X   hk4  h
set_option maxRecDepth 100000 in
set_option maxHeartbeats 4000000 in
theorem c_X10_goersAlong {l : Launch}  {ad0 : Nat → Nat} {v0 : XM} {x0 : Int32}  {o : Int32} (h : f_X10_goersAlong v0 x0 = some o) : CT l yX10_goersAlong cX10_goersAlong 4 (some .int) 2 [(shWorld, ad0)] [v0] (fun aK => [.ref (ad0 0), .int x0]) (some (.int o)) True [v0] := by
  refine CT_of (by decide) (fun _ => Nat.le_of_ble_eq_true rfl) ?_
  intro p e s m args below meth c D tc aK aV A X
  have X : Cx p s m args meth c cX10_goersAlong 4 (some .int) RX10 D tc aK aV A [(shWorld, ad0)] := X
  show aW p l e (x_Rm 2) s m args below meth c D tc A 4 [(shWorld, ad0)] (some (.int o)) True [v0] 0 [(0, .ref (ad0 0)), (1, .int x0)] [] [v0]
  unfold f_X10_goersAlong at h
  refine a_iconst (pc := 0) X dX10_goersAlong_0 q_ic_0 ?_
  refine a_istore_n (pc := 1) X [(2, .int (0 : Int32)), (0, .ref (ad0 0)), (1, .int x0)] dX10_goersAlong_1 rfl (by decide) rfl ?_
  refine a_iconst (pc := 2) X dX10_goersAlong_2 q_ic_0 ?_
  refine a_istore_n (pc := 3) X [(3, .int (0 : Int32)), (2, .int (0 : Int32)), (0, .ref (ad0 0)), (1, .int x0)] dX10_goersAlong_3 rfl (by decide) rfl ?_
  refine a_sub [2, 3, 1, 0] rfl ?_
  exact w_X10_goersAlong_4 X    x_NN _ _ _ h
theorem dX10_close_0 : decode cX10_close 0 = .ok (.aload_n 0, 1) := by decide +kernel
theorem dX10_close_1 : decode cX10_close 1 = .ok (.getfield 21, 3) := by decide +kernel
theorem dX10_close_4 : decode cX10_close 4 = .ok (.getfield 98, 3) := by decide +kernel
theorem dX10_close_7 : decode cX10_close 7 = .ok (.iload_n 1, 1) := by decide +kernel
theorem dX10_close_8 : decode cX10_close 8 = .ok (.invokevirtual 52, 3) := by decide +kernel
theorem dX10_close_11 : decode cX10_close 11 = .ok (.ifCond .le 5, 3) := by decide +kernel
theorem dX10_close_14 : decode cX10_close 14 = .ok (.iconst 1, 1) := by decide +kernel
theorem dX10_close_15 : decode cX10_close 15 = .ok (.ireturn, 1) := by decide +kernel
theorem dX10_close_16 : decode cX10_close 16 = .ok (.aload_n 0, 1) := by decide +kernel
theorem dX10_close_17 : decode cX10_close 17 = .ok (.iload_n 1, 1) := by decide +kernel
theorem dX10_close_18 : decode cX10_close 18 = .ok (.invokevirtual 147, 3) := by decide +kernel
theorem dX10_close_21 : decode cX10_close 21 = .ok (.ifCond .eq 5, 3) := by decide +kernel
theorem dX10_close_24 : decode cX10_close 24 = .ok (.iconst 2, 1) := by decide +kernel
theorem dX10_close_25 : decode cX10_close 25 = .ok (.ireturn, 1) := by decide +kernel
theorem dX10_close_26 : decode cX10_close 26 = .ok (.aload_n 0, 1) := by decide +kernel
theorem dX10_close_27 : decode cX10_close 27 = .ok (.getfield 21, 3) := by decide +kernel
theorem dX10_close_30 : decode cX10_close 30 = .ok (.getfield 98, 3) := by decide +kernel
theorem dX10_close_33 : decode cX10_close 33 = .ok (.iload_n 1, 1) := by decide +kernel
theorem dX10_close_34 : decode cX10_close 34 = .ok (.iload_n 2, 1) := by decide +kernel
theorem dX10_close_35 : decode cX10_close 35 = .ok (.invokevirtual 137, 3) := by decide +kernel
theorem dX10_close_38 : decode cX10_close 38 = .ok (.iconst 0, 1) := by decide +kernel
theorem dX10_close_39 : decode cX10_close 39 = .ok (.ireturn, 1) := by decide +kernel
def f_X10_close (v0 : XM) (x0 : Int32) (x1 : Int32) : Option (Int32 × XM) :=
  x_lt (r_get 12 (x_sub v0 30) x0) (fun y1 =>
  if y1 ≤ (0 : Int32) then
  (x_bo (f_X10_goersAlong v0 x0) (fun y2 =>
  if y2 = (0 : Int32) then
  (x_lt (r_put 12 (x_sub v0 30) x0 x1) (fun y3 =>
  x_lt (x_put v0 30 2 y3) (fun m4 =>
  some ((0 : Int32), m4))))
  else (some ((2 : Int32), v0))))
  else (some ((1 : Int32), v0)))
set_option maxRecDepth 100000 in
set_option maxHeartbeats 4000000 in
theorem c_X10_close {l : Launch}  {ad0 : Nat → Nat} {v0 : XM} {x0 : Int32} {x1 : Int32}  {o : Int32 × XM} (h : f_X10_close v0 x0 x1 = some o) : CT l yX10_close cX10_close 3 (some .int) 3 [(shWorld, ad0)] [v0] (fun aK => [.ref (ad0 0), .int x0, .int x1]) (some (.int o.1)) True [o.2] := by
  refine CT_of (by decide) (fun _ => Nat.le_of_ble_eq_true rfl) ?_
  intro p e s m args below meth c D tc aK aV A X
  have X : Cx p s m args meth c cX10_close 3 (some .int) RX10 D tc aK aV A [(shWorld, ad0)] := X
  show aW p l e (x_Rm 3) s m args below meth c D tc A 3 [(shWorld, ad0)] (some (.int o.1)) True [o.2] 0 [(0, .ref (ad0 0)), (1, .int x0), (2, .int x1)] [] [v0]
  unfold f_X10_close at h
  refine a_aload_n (pc := 0) X 0 dX10_close_0 rfl rfl ?_
  refine a_getR (pc := 1) X 0 17 17 fl_RX10_21 rfl rfl rfl rfl rfl dX10_close_1 ?_
  refine a_getR (pc := 4) X 0 13 30 fl_RX10_98 rfl rfl rfl rfl rfl dX10_close_4 ?_
  refine a_iload_n (pc := 7) X 1 dX10_close_7 rfl rfl ?_
  obtain ⟨y1, e_y1, h⟩ := x_lt_elim h
  refine a_callV (pc := 8) (st2 := [.int y1]) (vs2 := [v0]) X [(0, 30, 2)] [none] 0 30 3 [.int x0] [] cv_RX10_52 (ct_get (ad0 := (fun i => ad0 (i + 30))) (by decide) e_y1) rfl rfl rfl rfl rfl rfl rfl rfl rfl rfl rfl rfl rfl rfl rfl (Nat.le_of_ble_eq_true rfl) ⟨Nat.le_of_ble_eq_true rfl, Nat.le_of_ble_eq_true rfl⟩ dX10_close_8 (fun _ => ?_)
  refine a_if_le (pc := 11) X 16 dX10_close_11 rfl (fun c_11 => ?_) (fun c_11 => ?_)
  · have h := x_ifp c_11 h
    refine a_aload_n (pc := 16) X 0 dX10_close_16 rfl rfl ?_
    refine a_iload_n (pc := 17) X 1 dX10_close_17 rfl rfl ?_
    obtain ⟨y2, e_y2, h⟩ := x_bo_elim h
    refine a_callV (pc := 18) (st2 := [.int y2]) (vs2 := [v0]) X [(0, 0, 32)] [none] 0 0 10 [.int x0] [] cv_RX10_147 (c_X10_goersAlong (ad0 := ad0)  e_y2) rfl rfl rfl rfl rfl rfl rfl rfl rfl rfl rfl rfl rfl rfl rfl (Nat.le_of_ble_eq_true rfl) ⟨Nat.le_of_ble_eq_true rfl, Nat.le_of_ble_eq_true rfl⟩ dX10_close_18 (fun _ => ?_)
    refine a_if_eq (pc := 21) X 26 dX10_close_21 rfl (fun c_21 => ?_) (fun c_21 => ?_)
    · have h := x_ifp c_21 h
      refine a_aload_n (pc := 26) X 0 dX10_close_26 rfl rfl ?_
      refine a_getR (pc := 27) X 0 17 17 fl_RX10_21 rfl rfl rfl rfl rfl dX10_close_27 ?_
      refine a_getR (pc := 30) X 0 13 30 fl_RX10_98 rfl rfl rfl rfl rfl dX10_close_30 ?_
      refine a_iload_n (pc := 33) X 1 dX10_close_33 rfl rfl ?_
      refine a_iload_n (pc := 34) X 2 dX10_close_34 rfl rfl ?_
      obtain ⟨y3, e_y3, h⟩ := x_lt_elim h
      refine a_callV (pc := 35) (st2 := []) (vs2 := [x_put v0 30 2 y3]) X [(0, 30, 2)] [some y3] 0 30 3 [.int x0, .int x1] [] cv_RX10_137 (ct_put (ad0 := (fun i => ad0 (i + 30))) (by decide) e_y3) rfl rfl rfl rfl rfl rfl rfl rfl rfl rfl rfl rfl rfl rfl rfl (Nat.le_of_ble_eq_true rfl) ⟨Nat.le_of_ble_eq_true rfl, Nat.le_of_ble_eq_true rfl⟩ dX10_close_35 (fun _ => ?_)
      obtain ⟨m4, e_m4, h⟩ := x_lt_elim h
      refine a_nm (vs2 := [m4]) (congrArg (fun q : XM => [q]) e_m4) ?_
      refine a_iconst (pc := 38) X dX10_close_38 q_ic_0 ?_
      have h := Option.some.inj h; subst h
      exact a_iret (pc := 39) X trivial dX10_close_39
    · have h := x_ifn c_21 h
      refine a_iconst (pc := 24) X dX10_close_24 q_ic_2 ?_
      have h := Option.some.inj h; subst h
      exact a_iret (pc := 25) X trivial dX10_close_25
  · have h := x_ifn c_11 h
    refine a_iconst (pc := 14) X dX10_close_14 q_ic_1 ?_
    have h := Option.some.inj h; subst h
    exact a_iret (pc := 15) X trivial dX10_close_15
theorem dX10_lift_0 : decode cX10_lift 0 = .ok (.aload_n 0, 1) := by decide +kernel
theorem dX10_lift_1 : decode cX10_lift 1 = .ok (.getfield 21, 3) := by decide +kernel
theorem dX10_lift_4 : decode cX10_lift 4 = .ok (.getfield 75, 3) := by decide +kernel
theorem dX10_lift_7 : decode cX10_lift 7 = .ok (.iload_n 1, 1) := by decide +kernel
theorem dX10_lift_8 : decode cX10_lift 8 = .ok (.if_icmp .ne 5, 3) := by decide +kernel
theorem dX10_lift_11 : decode cX10_lift 11 = .ok (.iconst 1, 1) := by decide +kernel
theorem dX10_lift_12 : decode cX10_lift 12 = .ok (.ireturn, 1) := by decide +kernel
theorem dX10_lift_13 : decode cX10_lift 13 = .ok (.aload_n 0, 1) := by decide +kernel
theorem dX10_lift_14 : decode cX10_lift 14 = .ok (.getfield 21, 3) := by decide +kernel
theorem dX10_lift_17 : decode cX10_lift 17 = .ok (.iload_n 1, 1) := by decide +kernel
theorem dX10_lift_18 : decode cX10_lift 18 = .ok (.putfield 75, 3) := by decide +kernel
theorem dX10_lift_21 : decode cX10_lift 21 = .ok (.iconst 0, 1) := by decide +kernel
theorem dX10_lift_22 : decode cX10_lift 22 = .ok (.ireturn, 1) := by decide +kernel
def f_X10_lift (v0 : XM) (x0 : Int32) : Int32 × XM :=
  if ((v0.1 17 1) : Int32) = x0 then
  (((1 : Int32), v0))
  else (x_lt (x_si v0 17 1 x0) (fun m1 =>
  ((0 : Int32), m1)))
set_option maxRecDepth 100000 in
set_option maxHeartbeats 4000000 in
theorem c_X10_lift {l : Launch}  {ad0 : Nat → Nat} {v0 : XM} {x0 : Int32}  {o : Int32 × XM} (h : f_X10_lift v0 x0 = o) : CT l yX10_lift cX10_lift 2 (some .int) 0 [(shWorld, ad0)] [v0] (fun aK => [.ref (ad0 0), .int x0]) (some (.int o.1)) True [o.2] := by
  refine CT_of (by decide) (fun _ => Nat.le_of_ble_eq_true rfl) ?_
  intro p e s m args below meth c D tc aK aV A X
  have X : Cx p s m args meth c cX10_lift 2 (some .int) RX10 D tc aK aV A [(shWorld, ad0)] := X
  show aW p l e (x_Rm 0) s m args below meth c D tc A 2 [(shWorld, ad0)] (some (.int o.1)) True [o.2] 0 [(0, .ref (ad0 0)), (1, .int x0)] [] [v0]
  unfold f_X10_lift at h
  refine a_aload_n (pc := 0) X 0 dX10_lift_0 rfl rfl ?_
  refine a_getR (pc := 1) X 0 17 17 fl_RX10_21 rfl rfl rfl rfl rfl dX10_lift_1 ?_
  refine a_getI (pc := 4) X 0 fl_RX10_75 rfl rfl rfl rfl dX10_lift_4 ?_
  refine a_iload_n (pc := 7) X 1 dX10_lift_7 rfl rfl ?_
  refine a_icmp_ne (pc := 8) X 13 dX10_lift_8 rfl (fun c_8 => ?_) (fun c_8 => ?_)
  · have h := x_ifn c_8 h
    refine a_aload_n (pc := 13) X 0 dX10_lift_13 rfl rfl ?_
    refine a_getR (pc := 14) X 0 17 17 fl_RX10_21 rfl rfl rfl rfl rfl dX10_lift_14 ?_
    refine a_iload_n (pc := 17) X 1 dX10_lift_17 rfl rfl ?_
    refine a_putI (pc := 18) X 0 fl_RX10_75 rfl rfl rfl rfl dX10_lift_18 ?_
    obtain ⟨m1, e_m1, h⟩ := x_lt_elim h
    refine a_nm (vs2 := [m1]) (congrArg (fun q : XM => [q]) e_m1) ?_
    refine a_iconst (pc := 21) X dX10_lift_21 q_ic_0 ?_
    subst h
    exact a_iret (pc := 22) X trivial dX10_lift_22
  · have h := x_ifp c_8 h
    refine a_iconst (pc := 11) X dX10_lift_11 q_ic_1 ?_
    subst h
    exact a_iret (pc := 12) X trivial dX10_lift_12
theorem dX10_perform_0 : decode cX10_perform 0 = .ok (.iload_n 1, 1) := by decide +kernel
theorem dX10_perform_1 : decode cX10_perform 1 = .ok (.tableswitch 90 9 15 #[43, 50, 57, 64, 70, 76, 84], 43) := by decide +kernel
theorem dX10_perform_44 : decode cX10_perform 44 = .ok (.aload_n 0, 1) := by decide +kernel
theorem dX10_perform_45 : decode cX10_perform 45 = .ok (.iload_n 2, 1) := by decide +kernel
theorem dX10_perform_46 : decode cX10_perform 46 = .ok (.iload_n 3, 1) := by decide +kernel
theorem dX10_perform_47 : decode cX10_perform 47 = .ok (.invokevirtual 107, 3) := by decide +kernel
theorem dX10_perform_50 : decode cX10_perform 50 = .ok (.ireturn, 1) := by decide +kernel
theorem dX10_perform_51 : decode cX10_perform 51 = .ok (.aload_n 0, 1) := by decide +kernel
theorem dX10_perform_52 : decode cX10_perform 52 = .ok (.iload_n 2, 1) := by decide +kernel
theorem dX10_perform_53 : decode cX10_perform 53 = .ok (.iload_n 3, 1) := by decide +kernel
theorem dX10_perform_54 : decode cX10_perform 54 = .ok (.invokevirtual 110, 3) := by decide +kernel
theorem dX10_perform_57 : decode cX10_perform 57 = .ok (.ireturn, 1) := by decide +kernel
theorem dX10_perform_58 : decode cX10_perform 58 = .ok (.aload_n 0, 1) := by decide +kernel
theorem dX10_perform_59 : decode cX10_perform 59 = .ok (.iload_n 2, 1) := by decide +kernel
theorem dX10_perform_60 : decode cX10_perform 60 = .ok (.iload_n 3, 1) := by decide +kernel
theorem dX10_perform_61 : decode cX10_perform 61 = .ok (.invokevirtual 113, 3) := by decide +kernel
theorem dX10_perform_64 : decode cX10_perform 64 = .ok (.ireturn, 1) := by decide +kernel
theorem dX10_perform_65 : decode cX10_perform 65 = .ok (.aload_n 0, 1) := by decide +kernel
theorem dX10_perform_66 : decode cX10_perform 66 = .ok (.iload_n 2, 1) := by decide +kernel
theorem dX10_perform_67 : decode cX10_perform 67 = .ok (.invokevirtual 116, 3) := by decide +kernel
theorem dX10_perform_70 : decode cX10_perform 70 = .ok (.ireturn, 1) := by decide +kernel
theorem dX10_perform_71 : decode cX10_perform 71 = .ok (.aload_n 0, 1) := by decide +kernel
theorem dX10_perform_72 : decode cX10_perform 72 = .ok (.iload_n 3, 1) := by decide +kernel
theorem dX10_perform_73 : decode cX10_perform 73 = .ok (.invokevirtual 119, 3) := by decide +kernel
theorem dX10_perform_76 : decode cX10_perform 76 = .ok (.ireturn, 1) := by decide +kernel
theorem dX10_perform_77 : decode cX10_perform 77 = .ok (.aload_n 0, 1) := by decide +kernel
theorem dX10_perform_78 : decode cX10_perform 78 = .ok (.iload_n 3, 1) := by decide +kernel
theorem dX10_perform_79 : decode cX10_perform 79 = .ok (.iload 4, 2) := by decide +kernel
theorem dX10_perform_81 : decode cX10_perform 81 = .ok (.invokevirtual 122, 3) := by decide +kernel
theorem dX10_perform_84 : decode cX10_perform 84 = .ok (.ireturn, 1) := by decide +kernel
theorem dX10_perform_85 : decode cX10_perform 85 = .ok (.aload_n 0, 1) := by decide +kernel
theorem dX10_perform_86 : decode cX10_perform 86 = .ok (.iload_n 3, 1) := by decide +kernel
theorem dX10_perform_87 : decode cX10_perform 87 = .ok (.invokevirtual 125, 3) := by decide +kernel
theorem dX10_perform_90 : decode cX10_perform 90 = .ok (.ireturn, 1) := by decide +kernel
theorem dX10_perform_91 : decode cX10_perform 91 = .ok (.iconst (-1), 1) := by decide +kernel
theorem dX10_perform_92 : decode cX10_perform 92 = .ok (.ireturn, 1) := by decide +kernel
def f_X10_perform (v0 : XM) (x0 : Int32) (x1 : Int32) (x2 : Int32) (x3 : Int32) : Option (Int32 × XM) :=
  if x0 = (9 : Int32) then
  (x_bo (f_X10_setOut v0 x1 x2) (fun y2 =>
  some (y2.1, y2.2)))
  else (if x0 = (10 : Int32) then
  (x_lt (f_X10_pickUp v0 x1 x2) (fun y3 =>
  some (y3.1, y3.2)))
  else (if x0 = (11 : Int32) then
  (x_lt (f_X10_share v0 x1 x2) (fun y4 =>
  some (y4.1, y4.2)))
  else (if x0 = (12 : Int32) then
  (x_lt (f_X10_sleep v0 x1) (fun y5 =>
  some (y5.1, y5.2)))
  else (if x0 = (13 : Int32) then
  (x_lt (f_X10_smooth v0 x2) (fun y6 =>
  some (y6.1, y6.2)))
  else (if x0 = (14 : Int32) then
  (x_bo (f_X10_close v0 x2 x3) (fun y7 =>
  some (y7.1, y7.2)))
  else (if x0 = (15 : Int32) then
  (x_lt (f_X10_lift v0 x2) (fun y8 =>
  some (y8.1, y8.2)))
  else (some ((-1 : Int32), v0))))))))
set_option maxRecDepth 100000 in
set_option maxHeartbeats 4000000 in
theorem c_X10_perform {l : Launch}  {ad0 : Nat → Nat} {v0 : XM} {x0 : Int32} {x1 : Int32} {x2 : Int32} {x3 : Int32}  {o : Int32 × XM} (h : f_X10_perform v0 x0 x1 x2 x3 = some o) : CT l yX10_perform cX10_perform 5 (some .int) 4 [(shWorld, ad0)] [v0] (fun aK => [.ref (ad0 0), .int x0, .int x1, .int x2, .int x3]) (some (.int o.1)) True [o.2] := by
  refine CT_of (by decide) (fun _ => Nat.le_of_ble_eq_true rfl) ?_
  intro p e s m args below meth c D tc aK aV A X
  have X : Cx p s m args meth c cX10_perform 5 (some .int) RX10 D tc aK aV A [(shWorld, ad0)] := X
  show aW p l e (x_Rm 4) s m args below meth c D tc A 5 [(shWorld, ad0)] (some (.int o.1)) True [o.2] 0 [(0, .ref (ad0 0)), (1, .int x0), (2, .int x1), (3, .int x2), (4, .int x3)] [] [v0]
  unfold f_X10_perform at h
  refine a_iload_n (pc := 0) X 1 dX10_perform_0 rfl rfl ?_
  by_cases c_1_9 : x0 = (9 : Int32)
  · have h := x_ifp c_1_9 h
    refine a_tin (pc := 1) X 44 dX10_perform_1 c_1_9 (by decide) (by decide) rfl rfl ?_
    refine a_aload_n (pc := 44) X 0 dX10_perform_44 rfl rfl ?_
    refine a_iload_n (pc := 45) X 2 dX10_perform_45 rfl rfl ?_
    refine a_iload_n (pc := 46) X 3 dX10_perform_46 rfl rfl ?_
    obtain ⟨y2, e_y2, h⟩ := x_bo_elim h
    refine a_callV (pc := 47) (st2 := [.int y2.1]) (vs2 := [y2.2]) X [(0, 0, 32)] [some y2.2] 0 0 10 [.int x1, .int x2] [] cv_RX10_107 (c_X10_setOut (ad0 := ad0)  e_y2) rfl rfl rfl rfl rfl rfl rfl rfl rfl rfl rfl rfl rfl rfl rfl (Nat.le_of_ble_eq_true rfl) ⟨Nat.le_of_ble_eq_true rfl, Nat.le_of_ble_eq_true rfl⟩ dX10_perform_47 (fun _ => ?_)
    have h := Option.some.inj h; subst h
    exact a_iret (pc := 50) X trivial dX10_perform_50
  · have h := x_ifn c_1_9 h
    by_cases c_1_10 : x0 = (10 : Int32)
    · have h := x_ifp c_1_10 h
      refine a_tin (pc := 1) X 51 dX10_perform_1 c_1_10 (by decide) (by decide) rfl rfl ?_
      refine a_aload_n (pc := 51) X 0 dX10_perform_51 rfl rfl ?_
      refine a_iload_n (pc := 52) X 2 dX10_perform_52 rfl rfl ?_
      refine a_iload_n (pc := 53) X 3 dX10_perform_53 rfl rfl ?_
      obtain ⟨y3, e_y3, h⟩ := x_lt_elim h
      refine a_callV (pc := 54) (st2 := [.int y3.1]) (vs2 := [y3.2]) X [(0, 0, 32)] [some y3.2] 0 0 10 [.int x1, .int x2] [] cv_RX10_110 (c_X10_pickUp (ad0 := ad0)  e_y3) rfl rfl rfl rfl rfl rfl rfl rfl rfl rfl rfl rfl rfl rfl rfl (Nat.le_of_ble_eq_true rfl) ⟨Nat.le_of_ble_eq_true rfl, Nat.le_of_ble_eq_true rfl⟩ dX10_perform_54 (fun _ => ?_)
      have h := Option.some.inj h; subst h
      exact a_iret (pc := 57) X trivial dX10_perform_57
    · have h := x_ifn c_1_10 h
      by_cases c_1_11 : x0 = (11 : Int32)
      · have h := x_ifp c_1_11 h
        refine a_tin (pc := 1) X 58 dX10_perform_1 c_1_11 (by decide) (by decide) rfl rfl ?_
        refine a_aload_n (pc := 58) X 0 dX10_perform_58 rfl rfl ?_
        refine a_iload_n (pc := 59) X 2 dX10_perform_59 rfl rfl ?_
        refine a_iload_n (pc := 60) X 3 dX10_perform_60 rfl rfl ?_
        obtain ⟨y4, e_y4, h⟩ := x_lt_elim h
        refine a_callV (pc := 61) (st2 := [.int y4.1]) (vs2 := [y4.2]) X [(0, 0, 32)] [some y4.2] 0 0 10 [.int x1, .int x2] [] cv_RX10_113 (c_X10_share (ad0 := ad0)  e_y4) rfl rfl rfl rfl rfl rfl rfl rfl rfl rfl rfl rfl rfl rfl rfl (Nat.le_of_ble_eq_true rfl) ⟨Nat.le_of_ble_eq_true rfl, Nat.le_of_ble_eq_true rfl⟩ dX10_perform_61 (fun _ => ?_)
        have h := Option.some.inj h; subst h
        exact a_iret (pc := 64) X trivial dX10_perform_64
      · have h := x_ifn c_1_11 h
        by_cases c_1_12 : x0 = (12 : Int32)
        · have h := x_ifp c_1_12 h
          refine a_tin (pc := 1) X 65 dX10_perform_1 c_1_12 (by decide) (by decide) rfl rfl ?_
          refine a_aload_n (pc := 65) X 0 dX10_perform_65 rfl rfl ?_
          refine a_iload_n (pc := 66) X 2 dX10_perform_66 rfl rfl ?_
          obtain ⟨y5, e_y5, h⟩ := x_lt_elim h
          refine a_callV (pc := 67) (st2 := [.int y5.1]) (vs2 := [y5.2]) X [(0, 0, 32)] [some y5.2] 0 0 10 [.int x1] [] cv_RX10_116 (c_X10_sleep (ad0 := ad0)  e_y5) rfl rfl rfl rfl rfl rfl rfl rfl rfl rfl rfl rfl rfl rfl rfl (Nat.le_of_ble_eq_true rfl) ⟨Nat.le_of_ble_eq_true rfl, Nat.le_of_ble_eq_true rfl⟩ dX10_perform_67 (fun _ => ?_)
          have h := Option.some.inj h; subst h
          exact a_iret (pc := 70) X trivial dX10_perform_70
        · have h := x_ifn c_1_12 h
          by_cases c_1_13 : x0 = (13 : Int32)
          · have h := x_ifp c_1_13 h
            refine a_tin (pc := 1) X 71 dX10_perform_1 c_1_13 (by decide) (by decide) rfl rfl ?_
            refine a_aload_n (pc := 71) X 0 dX10_perform_71 rfl rfl ?_
            refine a_iload_n (pc := 72) X 3 dX10_perform_72 rfl rfl ?_
            obtain ⟨y6, e_y6, h⟩ := x_lt_elim h
            refine a_callV (pc := 73) (st2 := [.int y6.1]) (vs2 := [y6.2]) X [(0, 0, 32)] [some y6.2] 0 0 10 [.int x2] [] cv_RX10_119 (c_X10_smooth (ad0 := ad0)  e_y6) rfl rfl rfl rfl rfl rfl rfl rfl rfl rfl rfl rfl rfl rfl rfl (Nat.le_of_ble_eq_true rfl) ⟨Nat.le_of_ble_eq_true rfl, Nat.le_of_ble_eq_true rfl⟩ dX10_perform_73 (fun _ => ?_)
            have h := Option.some.inj h; subst h
            exact a_iret (pc := 76) X trivial dX10_perform_76
          · have h := x_ifn c_1_13 h
            by_cases c_1_14 : x0 = (14 : Int32)
            · have h := x_ifp c_1_14 h
              refine a_tin (pc := 1) X 77 dX10_perform_1 c_1_14 (by decide) (by decide) rfl rfl ?_
              refine a_aload_n (pc := 77) X 0 dX10_perform_77 rfl rfl ?_
              refine a_iload_n (pc := 78) X 3 dX10_perform_78 rfl rfl ?_
              refine a_iload (pc := 79) X 4 dX10_perform_79 rfl ?_
              obtain ⟨y7, e_y7, h⟩ := x_bo_elim h
              refine a_callV (pc := 81) (st2 := [.int y7.1]) (vs2 := [y7.2]) X [(0, 0, 32)] [some y7.2] 0 0 10 [.int x2, .int x3] [] cv_RX10_122 (c_X10_close (ad0 := ad0)  e_y7) rfl rfl rfl rfl rfl rfl rfl rfl rfl rfl rfl rfl rfl rfl rfl (Nat.le_of_ble_eq_true rfl) ⟨Nat.le_of_ble_eq_true rfl, Nat.le_of_ble_eq_true rfl⟩ dX10_perform_81 (fun _ => ?_)
              have h := Option.some.inj h; subst h
              exact a_iret (pc := 84) X trivial dX10_perform_84
            · have h := x_ifn c_1_14 h
              by_cases c_1_15 : x0 = (15 : Int32)
              · have h := x_ifp c_1_15 h
                refine a_tin (pc := 1) X 85 dX10_perform_1 c_1_15 (by decide) (by decide) rfl rfl ?_
                refine a_aload_n (pc := 85) X 0 dX10_perform_85 rfl rfl ?_
                refine a_iload_n (pc := 86) X 3 dX10_perform_86 rfl rfl ?_
                obtain ⟨y8, e_y8, h⟩ := x_lt_elim h
                refine a_callV (pc := 87) (st2 := [.int y8.1]) (vs2 := [y8.2]) X [(0, 0, 32)] [some y8.2] 0 0 10 [.int x2] [] cv_RX10_125 (c_X10_lift (ad0 := ad0)  e_y8) rfl rfl rfl rfl rfl rfl rfl rfl rfl rfl rfl rfl rfl rfl rfl (Nat.le_of_ble_eq_true rfl) ⟨Nat.le_of_ble_eq_true rfl, Nat.le_of_ble_eq_true rfl⟩ dX10_perform_87 (fun _ => ?_)
                have h := Option.some.inj h; subst h
                exact a_iret (pc := 90) X trivial dX10_perform_90
              · have h := x_ifn c_1_15 h
                refine a_tout (pc := 1) X 91 dX10_perform_1 (by have q0 := x_ne c_1_9; have q1 := x_ne c_1_10; have q2 := x_ne c_1_11; have q3 := x_ne c_1_12; have q4 := x_ne c_1_13; have q5 := x_ne c_1_14; have q6 := x_ne c_1_15; have q0 : (x0 : Int32).toInt ≠ 9 := q0; have q1 : (x0 : Int32).toInt ≠ 10 := q1; have q2 : (x0 : Int32).toInt ≠ 11 := q2; have q3 : (x0 : Int32).toInt ≠ 12 := q3; have q4 : (x0 : Int32).toInt ≠ 13 := q4; have q5 : (x0 : Int32).toInt ≠ 14 := q5; have q6 : (x0 : Int32).toInt ≠ 15 := q6; omega) rfl ?_
                refine a_iconst (pc := 91) X dX10_perform_91 q_ic_m1 ?_
                have h := Option.some.inj h; subst h
                exact a_iret (pc := 92) X trivial dX10_perform_92
theorem dX0_liveLine_0 : decode cX0_liveLine 0 = .ok (.aload_n 0, 1) := by decide +kernel
theorem dX0_liveLine_1 : decode cX0_liveLine 1 = .ok (.getfield 14, 3) := by decide +kernel
theorem dX0_liveLine_4 : decode cX0_liveLine 4 = .ok (.iload_n 2, 1) := by decide +kernel
theorem dX0_liveLine_5 : decode cX0_liveLine 5 = .ok (.invokevirtual 120, 3) := by decide +kernel
theorem dX0_liveLine_8 : decode cX0_liveLine 8 = .ok (.istore_n 3, 1) := by decide +kernel
theorem dX0_liveLine_9 : decode cX0_liveLine 9 = .ok (.aload_n 0, 1) := by decide +kernel
theorem dX0_liveLine_10 : decode cX0_liveLine 10 = .ok (.getfield 23, 3) := by decide +kernel
theorem dX0_liveLine_13 : decode cX0_liveLine 13 = .ok (.iload_n 2, 1) := by decide +kernel
theorem dX0_liveLine_14 : decode cX0_liveLine 14 = .ok (.invokevirtual 120, 3) := by decide +kernel
theorem dX0_liveLine_17 : decode cX0_liveLine 17 = .ok (.istore 4, 2) := by decide +kernel
theorem dX0_liveLine_19 : decode cX0_liveLine 19 = .ok (.iload_n 3, 1) := by decide +kernel
theorem dX0_liveLine_20 : decode cX0_liveLine 20 = .ok (.bipush 9, 2) := by decide +kernel
theorem dX0_liveLine_22 : decode cX0_liveLine 22 = .ok (.isub, 1) := by decide +kernel
theorem dX0_liveLine_23 : decode cX0_liveLine 23 = .ok (.bipush 10, 2) := by decide +kernel
theorem dX0_liveLine_25 : decode cX0_liveLine 25 = .ok (.imul, 1) := by decide +kernel
theorem dX0_liveLine_26 : decode cX0_liveLine 26 = .ok (.istore 5, 2) := by decide +kernel
theorem dX0_liveLine_28 : decode cX0_liveLine 28 = .ok (.iload_n 3, 1) := by decide +kernel
theorem dX0_liveLine_29 : decode cX0_liveLine 29 = .ok (.bipush 16, 2) := by decide +kernel
theorem dX0_liveLine_31 : decode cX0_liveLine 31 = .ok (.if_icmp .ne 33, 3) := by decide +kernel
theorem dX0_liveLine_34 : decode cX0_liveLine 34 = .ok (.aload_n 1, 1) := by decide +kernel
theorem dX0_liveLine_35 : decode cX0_liveLine 35 = .ok (.getfield 100, 3) := by decide +kernel
theorem dX0_liveLine_38 : decode cX0_liveLine 38 = .ok (.getfield 106, 3) := by decide +kernel
theorem dX0_liveLine_41 : decode cX0_liveLine 41 = .ok (.iload 4, 2) := by decide +kernel
theorem dX0_liveLine_43 : decode cX0_liveLine 43 = .ok (.iadd, 1) := by decide +kernel
theorem dX0_liveLine_44 : decode cX0_liveLine 44 = .ok (.sipush 400, 3) := by decide +kernel
theorem dX0_liveLine_47 : decode cX0_liveLine 47 = .ok (.if_icmp .le 8, 3) := by decide +kernel
theorem dX0_liveLine_50 : decode cX0_liveLine 50 = .ok (.iload 5, 2) := by decide +kernel
theorem dX0_liveLine_52 : decode cX0_liveLine 52 = .ok (.iconst 1, 1) := by decide +kernel
theorem dX0_liveLine_53 : decode cX0_liveLine 53 = .ok (.iadd, 1) := by decide +kernel
theorem dX0_liveLine_54 : decode cX0_liveLine 54 = .ok (.ireturn, 1) := by decide +kernel
theorem dX0_liveLine_55 : decode cX0_liveLine 55 = .ok (.aload_n 1, 1) := by decide +kernel
theorem dX0_liveLine_56 : decode cX0_liveLine 56 = .ok (.iload 4, 2) := by decide +kernel
theorem dX0_liveLine_58 : decode cX0_liveLine 58 = .ok (.invokevirtual 124, 3) := by decide +kernel
theorem dX0_liveLine_61 : decode cX0_liveLine 61 = .ok (.pop, 1) := by decide +kernel
theorem dX0_liveLine_62 : decode cX0_liveLine 62 = .ok (.iconst 0, 1) := by decide +kernel
theorem dX0_liveLine_63 : decode cX0_liveLine 63 = .ok (.ireturn, 1) := by decide +kernel
theorem dX0_liveLine_64 : decode cX0_liveLine 64 = .ok (.iload_n 3, 1) := by decide +kernel
theorem dX0_liveLine_65 : decode cX0_liveLine 65 = .ok (.bipush 9, 2) := by decide +kernel
theorem dX0_liveLine_67 : decode cX0_liveLine 67 = .ok (.if_icmp .eq 15, 3) := by decide +kernel
theorem dX0_liveLine_70 : decode cX0_liveLine 70 = .ok (.iload_n 3, 1) := by decide +kernel
theorem dX0_liveLine_71 : decode cX0_liveLine 71 = .ok (.bipush 13, 2) := by decide +kernel
theorem dX0_liveLine_73 : decode cX0_liveLine 73 = .ok (.if_icmp .eq 9, 3) := by decide +kernel
theorem dX0_liveLine_76 : decode cX0_liveLine 76 = .ok (.iload_n 3, 1) := by decide +kernel
theorem dX0_liveLine_77 : decode cX0_liveLine 77 = .ok (.bipush 14, 2) := by decide +kernel
theorem dX0_liveLine_79 : decode cX0_liveLine 79 = .ok (.if_icmp .ne 7, 3) := by decide +kernel
theorem dX0_liveLine_82 : decode cX0_liveLine 82 = .ok (.iconst 1, 1) := by decide +kernel
theorem dX0_liveLine_83 : decode cX0_liveLine 83 = .ok (.goto 4, 3) := by decide +kernel
theorem dX0_liveLine_86 : decode cX0_liveLine 86 = .ok (.iconst 0, 1) := by decide +kernel
theorem dX0_liveLine_87 : decode cX0_liveLine 87 = .ok (.istore 6, 2) := by decide +kernel
theorem dX0_liveLine_89 : decode cX0_liveLine 89 = .ok (.iload 6, 2) := by decide +kernel
theorem dX0_liveLine_91 : decode cX0_liveLine 91 = .ok (.ifCond .eq 21, 3) := by decide +kernel
theorem dX0_liveLine_94 : decode cX0_liveLine 94 = .ok (.aload_n 1, 1) := by decide +kernel
theorem dX0_liveLine_95 : decode cX0_liveLine 95 = .ok (.getfield 127, 3) := by decide +kernel
theorem dX0_liveLine_98 : decode cX0_liveLine 98 = .ok (.iload 4, 2) := by decide +kernel
theorem dX0_liveLine_100 : decode cX0_liveLine 100 = .ok (.invokevirtual 131, 3) := by decide +kernel
theorem dX0_liveLine_103 : decode cX0_liveLine 103 = .ok (.ifCond .ne 9, 3) := by decide +kernel
theorem dX0_liveLine_106 : decode cX0_liveLine 106 = .ok (.iload 5, 2) := by decide +kernel
theorem dX0_liveLine_108 : decode cX0_liveLine 108 = .ok (.bipush 9, 2) := by decide +kernel
theorem dX0_liveLine_110 : decode cX0_liveLine 110 = .ok (.iadd, 1) := by decide +kernel
theorem dX0_liveLine_111 : decode cX0_liveLine 111 = .ok (.ireturn, 1) := by decide +kernel
theorem dX0_liveLine_112 : decode cX0_liveLine 112 = .ok (.aload_n 1, 1) := by decide +kernel
theorem dX0_liveLine_113 : decode cX0_liveLine 113 = .ok (.iload_n 3, 1) := by decide +kernel
theorem dX0_liveLine_114 : decode cX0_liveLine 114 = .ok (.aload_n 0, 1) := by decide +kernel
theorem dX0_liveLine_115 : decode cX0_liveLine 115 = .ok (.getfield 20, 3) := by decide +kernel
theorem dX0_liveLine_118 : decode cX0_liveLine 118 = .ok (.iload_n 2, 1) := by decide +kernel
theorem dX0_liveLine_119 : decode cX0_liveLine 119 = .ok (.invokevirtual 120, 3) := by decide +kernel
theorem dX0_liveLine_122 : decode cX0_liveLine 122 = .ok (.iload 4, 2) := by decide +kernel
theorem dX0_liveLine_124 : decode cX0_liveLine 124 = .ok (.aload_n 0, 1) := by decide +kernel
theorem dX0_liveLine_125 : decode cX0_liveLine 125 = .ok (.getfield 26, 3) := by decide +kernel
theorem dX0_liveLine_128 : decode cX0_liveLine 128 = .ok (.iload_n 2, 1) := by decide +kernel
theorem dX0_liveLine_129 : decode cX0_liveLine 129 = .ok (.invokevirtual 120, 3) := by decide +kernel
theorem dX0_liveLine_132 : decode cX0_liveLine 132 = .ok (.invokevirtual 136, 3) := by decide +kernel
theorem dX0_liveLine_135 : decode cX0_liveLine 135 = .ok (.istore 7, 2) := by decide +kernel
theorem dX0_liveLine_137 : decode cX0_liveLine 137 = .ok (.iload 7, 2) := by decide +kernel
theorem dX0_liveLine_139 : decode cX0_liveLine 139 = .ok (.ifCond .ne 7, 3) := by decide +kernel
theorem dX0_liveLine_142 : decode cX0_liveLine 142 = .ok (.iconst 0, 1) := by decide +kernel
theorem dX0_liveLine_143 : decode cX0_liveLine 143 = .ok (.goto 8, 3) := by decide +kernel
theorem dX0_liveLine_146 : decode cX0_liveLine 146 = .ok (.iload 5, 2) := by decide +kernel
theorem dX0_liveLine_148 : decode cX0_liveLine 148 = .ok (.iload 7, 2) := by decide +kernel
theorem dX0_liveLine_150 : decode cX0_liveLine 150 = .ok (.iadd, 1) := by decide +kernel
theorem dX0_liveLine_151 : decode cX0_liveLine 151 = .ok (.ireturn, 1) := by decide +kernel
def f_X0_liveLine_112 (v0 : XM) (w1 : XM) (l2 : Int32) (l3 : Int32) (l4 : Int32) (l5 : Int32) : Option (Int32 × XM) :=
  x_lt (r_get 40 (x_sub v0 3) l2) (fun y1 =>
  x_lt (r_get 40 (x_sub v0 7) l2) (fun y2 =>
  x_bo (f_X10_perform w1 l3 y1 l4 y2) (fun y3 =>
  if y3.1 = (0 : Int32) then
  (some ((0 : Int32), y3.2))
  else (some (l5 + y3.1, y3.2)))))
def f_X0_liveLine_87 (v0 : XM) (w1 : XM) (l2 : Int32) (l3 : Int32) (l4 : Int32) (l5 : Int32) (s0 : Int32) : Option (Int32 × XM) :=
  if s0 = (0 : Int32) then
  (f_X0_liveLine_112 v0  w1 l2 l3 l4 l5)
  else (x_lt (f_X9_hasFold (x_sub w1 1) l4) (fun y4 =>
  if y4 = (0 : Int32) then
  (some (l5 + (9 : Int32), w1))
  else (f_X0_liveLine_112 v0  w1 l2 l3 l4 l5)))
def f_X0_liveLine_82 (v0 : XM) (w1 : XM) (l2 : Int32) (l3 : Int32) (l4 : Int32) (l5 : Int32) : Option (Int32 × XM) :=
  f_X0_liveLine_87 v0  w1 l2 l3 l4 l5 (1 : Int32)
def f_X0_liveLine (v0 : XM) (v1 : XM) (x1 : Int32) : Option (Int32 × XM) :=
  x_lt (r_get 40 (x_sub v0 1) x1) (fun y5 =>
  x_lt (r_get 40 (x_sub v0 5) x1) (fun y6 =>
  x_lt ((y5 - (9 : Int32)) * (10 : Int32)) (fun y7 =>
  if (y5 : Int32) = (16 : Int32) then
  (if (((v1.1 17 0) + y6) : Int32) ≤ (400 : Int32) then
  (x_bo (f_X10_passHours v1 y6) (fun y8 =>
  some ((0 : Int32), y8.2)))
  else (some (y7 + (1 : Int32), v1)))
  else (if (y5 : Int32) = (9 : Int32) then
  (f_X0_liveLine_82 v0  v1 x1 y5 y6 y7)
  else (if (y5 : Int32) = (13 : Int32) then
  (f_X0_liveLine_82 v0  v1 x1 y5 y6 y7)
  else (if (y5 : Int32) = (14 : Int32) then
  (f_X0_liveLine_82 v0  v1 x1 y5 y6 y7)
  else (f_X0_liveLine_87 v0  v1 x1 y5 y6 y7 (0 : Int32))))))))
set_option maxRecDepth 100000 in
set_option maxHeartbeats 4000000 in
theorem w_X0_liveLine_112 {p : Program} {l : Launch} {e : Env} {s : State} {m : MethodId} {args : Array Value} {below : List Frame} {meth : Method} {c : Code} {D : va_G} {tc : Nat → ClassId} {aK aV : Nat → Nat} {A : Nat → Prop} {ad0 : Nat → Nat} {ad1 : Nat → Nat} {v0 : XM} (X : Cx p s m args meth c cX0_liveLine 8 (some .int) RX0 D tc aK aV A [(shBook, ad0), (shWorld, ad1)])  {o : Int32 × XM}  {w1 : XM} {l2 : Int32} {l3 : Int32} {l4 : Int32} {l5 : Int32}  (h : f_X0_liveLine_112 v0  w1 l2 l3 l4 l5 = some o) : aW p l e (x_Rm 5) s m args below meth c D tc A 8 [(shBook, ad0), (shWorld, ad1)] (some (.int o.1)) True [v0, o.2] 112 [(0, .ref (ad0 0)), (1, .ref (ad1 0)), (2, .int l2), (3, .int l3), (4, .int l4), (5, .int l5)] [] [v0, w1] := by
  unfold f_X0_liveLine_112 at h
  refine a_aload_n (pc := 112) X 1 dX0_liveLine_112 rfl rfl ?_
  refine a_iload_n (pc := 113) X 3 dX0_liveLine_113 rfl rfl ?_
  refine a_aload_n (pc := 114) X 0 dX0_liveLine_114 rfl rfl ?_
  refine a_getR (pc := 115) X 0 3 3 fl_RX0_20 rfl rfl rfl rfl rfl dX0_liveLine_115 ?_
  refine a_iload_n (pc := 118) X 2 dX0_liveLine_118 rfl rfl ?_
  obtain ⟨y1, e_y1, h⟩ := x_lt_elim h
  refine a_callV (pc := 119) (st2 := [.int y1, .int l3, .ref (ad1 0)]) (vs2 := [v0, w1]) X [(0, 3, 2)] [none] 0 3 3 [.int l2] [.int l3, .ref (ad1 0)] cv_RX0_120 (ct_get (ad0 := (fun i => ad0 (i + 3))) (by decide) e_y1) rfl rfl rfl rfl rfl rfl rfl rfl rfl rfl rfl rfl rfl rfl rfl (Nat.le_of_ble_eq_true rfl) ⟨Nat.le_of_ble_eq_true rfl, Nat.le_of_ble_eq_true rfl⟩ dX0_liveLine_119 (fun _ => ?_)
  refine a_iload (pc := 122) X 4 dX0_liveLine_122 rfl ?_
  refine a_aload_n (pc := 124) X 0 dX0_liveLine_124 rfl rfl ?_
  refine a_getR (pc := 125) X 0 7 7 fl_RX0_26 rfl rfl rfl rfl rfl dX0_liveLine_125 ?_
  refine a_iload_n (pc := 128) X 2 dX0_liveLine_128 rfl rfl ?_
  obtain ⟨y2, e_y2, h⟩ := x_lt_elim h
  refine a_callV (pc := 129) (st2 := [.int y2, .int l4, .int y1, .int l3, .ref (ad1 0)]) (vs2 := [v0, w1]) X [(0, 7, 2)] [none] 0 7 3 [.int l2] [.int l4, .int y1, .int l3, .ref (ad1 0)] cv_RX0_120 (ct_get (ad0 := (fun i => ad0 (i + 7))) (by decide) e_y2) rfl rfl rfl rfl rfl rfl rfl rfl rfl rfl rfl rfl rfl rfl rfl (Nat.le_of_ble_eq_true rfl) ⟨Nat.le_of_ble_eq_true rfl, Nat.le_of_ble_eq_true rfl⟩ dX0_liveLine_129 (fun _ => ?_)
  obtain ⟨y3, e_y3, h⟩ := x_bo_elim h
  refine a_callV (pc := 132) (st2 := [.int y3.1]) (vs2 := [v0, y3.2]) X [(1, 0, 32)] [some y3.2] 1 0 10 [.int l3, .int y1, .int l4, .int y2] [] cv_RX0_136 (c_X10_perform (ad0 := ad1)  e_y3) rfl rfl rfl rfl rfl rfl rfl rfl rfl rfl rfl rfl rfl rfl rfl (Nat.le_of_ble_eq_true rfl) ⟨Nat.le_of_ble_eq_true rfl, Nat.le_of_ble_eq_true rfl⟩ dX0_liveLine_132 (fun _ => ?_)
  refine a_istore (pc := 135) X [(7, .int y3.1), (0, .ref (ad0 0)), (1, .ref (ad1 0)), (2, .int l2), (3, .int l3), (4, .int l4), (5, .int l5)] dX0_liveLine_135 (by decide) rfl ?_
  refine a_iload (pc := 137) X 0 dX0_liveLine_137 rfl ?_
  refine a_if_ne (pc := 139) X 146 dX0_liveLine_139 rfl (fun c_139 => ?_) (fun c_139 => ?_)
  · have h := x_ifn c_139 h
    refine a_iload (pc := 146) X 6 dX0_liveLine_146 rfl ?_
    refine a_iload (pc := 148) X 0 dX0_liveLine_148 rfl ?_
    refine a_iadd (pc := 150) X dX0_liveLine_150 ?_
    have h := Option.some.inj h; subst h
    exact a_iret (pc := 151) X trivial dX0_liveLine_151
  · have h := x_ifp c_139 h
    refine a_iconst (pc := 142) X dX0_liveLine_142 q_ic_0 ?_
    refine a_goto (pc := 143) X 151 dX0_liveLine_143 rfl ?_
    have h := Option.some.inj h; subst h
    exact a_iret (pc := 151) X trivial dX0_liveLine_151
set_option maxRecDepth 100000 in
set_option maxHeartbeats 4000000 in
theorem w_X0_liveLine_87 {p : Program} {l : Launch} {e : Env} {s : State} {m : MethodId} {args : Array Value} {below : List Frame} {meth : Method} {c : Code} {D : va_G} {tc : Nat → ClassId} {aK aV : Nat → Nat} {A : Nat → Prop} {ad0 : Nat → Nat} {ad1 : Nat → Nat} {v0 : XM} (X : Cx p s m args meth c cX0_liveLine 8 (some .int) RX0 D tc aK aV A [(shBook, ad0), (shWorld, ad1)])  {o : Int32 × XM}  {w1 : XM} {l2 : Int32} {l3 : Int32} {l4 : Int32} {l5 : Int32} {s0 : Int32} (hzs0 : x_Z s0) (h : f_X0_liveLine_87 v0  w1 l2 l3 l4 l5 s0 = some o) : aW p l e (x_Rm 5) s m args below meth c D tc A 8 [(shBook, ad0), (shWorld, ad1)] (some (.int o.1)) True [v0, o.2] 87 [(0, .ref (ad0 0)), (1, .ref (ad1 0)), (2, .int l2), (3, .int l3), (4, .int l4), (5, .int l5)] [.int s0] [v0, w1] := by
  unfold f_X0_liveLine_87 at h
  refine a_istore (pc := 87) X [(6, .int s0), (0, .ref (ad0 0)), (1, .ref (ad1 0)), (2, .int l2), (3, .int l3), (4, .int l4), (5, .int l5)] dX0_liveLine_87 (by decide) rfl ?_
  refine a_iload (pc := 89) X 0 dX0_liveLine_89 rfl ?_
  refine a_if_eq (pc := 91) X 112 dX0_liveLine_91 rfl (fun c_91 => ?_) (fun c_91 => ?_)
  · have h := x_ifp c_91 h
    refine a_sub [1, 2, 3, 4, 5, 6] rfl ?_
    exact w_X0_liveLine_112 X     h
  · have h := x_ifn c_91 h
    refine a_aload_n (pc := 94) X 2 dX0_liveLine_94 rfl rfl ?_
    refine a_getR (pc := 95) X 1 1 1 fl_RX0_127 rfl rfl rfl rfl rfl dX0_liveLine_95 ?_
    refine a_iload (pc := 98) X 5 dX0_liveLine_98 rfl ?_
    obtain ⟨y4, e_y4, h⟩ := x_lt_elim h
    refine a_callV (pc := 100) (st2 := [.int y4]) (vs2 := [v0, w1]) X [(1, 1, 16)] [none] 1 1 9 [.int l4] [] cv_RX0_131 (c_X9_hasFold (ad0 := (fun i => ad1 (i + 1)))  e_y4) rfl rfl rfl rfl rfl rfl rfl rfl rfl rfl rfl rfl rfl rfl rfl (Nat.le_of_ble_eq_true rfl) ⟨Nat.le_of_ble_eq_true rfl, Nat.le_of_ble_eq_true rfl⟩ dX0_liveLine_100 (fun z_100 => ?_)
    refine a_if_ne (pc := 103) X 112 dX0_liveLine_103 rfl (fun c_103 => ?_) (fun c_103 => ?_)
    · have h := x_ifn c_103 h
      refine a_sub [1, 2, 3, 4, 5, 6] rfl ?_
      exact w_X0_liveLine_112 X     h
    · have h := x_ifp c_103 h
      refine a_iload (pc := 106) X 6 dX0_liveLine_106 rfl ?_
      refine a_bipush (pc := 108) X dX0_liveLine_108 q_bp_9 ?_
      refine a_iadd (pc := 110) X dX0_liveLine_110 ?_
      have h := Option.some.inj h; subst h
      exact a_iret (pc := 111) X trivial dX0_liveLine_111
set_option maxRecDepth 100000 in
set_option maxHeartbeats 4000000 in
theorem w_X0_liveLine_82 {p : Program} {l : Launch} {e : Env} {s : State} {m : MethodId} {args : Array Value} {below : List Frame} {meth : Method} {c : Code} {D : va_G} {tc : Nat → ClassId} {aK aV : Nat → Nat} {A : Nat → Prop} {ad0 : Nat → Nat} {ad1 : Nat → Nat} {v0 : XM} (X : Cx p s m args meth c cX0_liveLine 8 (some .int) RX0 D tc aK aV A [(shBook, ad0), (shWorld, ad1)])  {o : Int32 × XM}  {w1 : XM} {l2 : Int32} {l3 : Int32} {l4 : Int32} {l5 : Int32}  (h : f_X0_liveLine_82 v0  w1 l2 l3 l4 l5 = some o) : aW p l e (x_Rm 5) s m args below meth c D tc A 8 [(shBook, ad0), (shWorld, ad1)] (some (.int o.1)) True [v0, o.2] 82 [(0, .ref (ad0 0)), (1, .ref (ad1 0)), (2, .int l2), (3, .int l3), (4, .int l4), (5, .int l5)] [] [v0, w1] := by
  unfold f_X0_liveLine_82 at h
  refine a_iconst (pc := 82) X dX0_liveLine_82 q_ic_1 ?_
  refine a_goto (pc := 83) X 87 dX0_liveLine_83 rfl ?_
  exact w_X0_liveLine_87 X    x_Z1 h
set_option maxRecDepth 100000 in
set_option maxHeartbeats 4000000 in
theorem c_X0_liveLine {l : Launch}  {ad0 : Nat → Nat} {ad1 : Nat → Nat} {v0 v1 : XM} {x1 : Int32}  {o : Int32 × XM} (h : f_X0_liveLine v0 v1 x1 = some o) : CT l yX0_liveLine cX0_liveLine 8 (some .int) 5 [(shBook, ad0), (shWorld, ad1)] [v0, v1] (fun aK => [.ref (ad0 0), .ref (ad1 0), .int x1]) (some (.int o.1)) True [v0, o.2] := by
  refine CT_of (by decide) (fun _ => Nat.le_of_ble_eq_true rfl) ?_
  intro p e s m args below meth c D tc aK aV A X
  have X : Cx p s m args meth c cX0_liveLine 8 (some .int) RX0 D tc aK aV A [(shBook, ad0), (shWorld, ad1)] := X
  show aW p l e (x_Rm 5) s m args below meth c D tc A 8 [(shBook, ad0), (shWorld, ad1)] (some (.int o.1)) True [v0, o.2] 0 [(0, .ref (ad0 0)), (1, .ref (ad1 0)), (2, .int x1)] [] [v0, v1]
  unfold f_X0_liveLine at h
  refine a_aload_n (pc := 0) X 0 dX0_liveLine_0 rfl rfl ?_
  refine a_getR (pc := 1) X 0 1 1 fl_RX0_14 rfl rfl rfl rfl rfl dX0_liveLine_1 ?_
  refine a_iload_n (pc := 4) X 2 dX0_liveLine_4 rfl rfl ?_
  obtain ⟨y5, e_y5, h⟩ := x_lt_elim h
  refine a_callV (pc := 5) (st2 := [.int y5]) (vs2 := [v0, v1]) X [(0, 1, 2)] [none] 0 1 3 [.int x1] [] cv_RX0_120 (ct_get (ad0 := (fun i => ad0 (i + 1))) (by decide) e_y5) rfl rfl rfl rfl rfl rfl rfl rfl rfl rfl rfl rfl rfl rfl rfl (Nat.le_of_ble_eq_true rfl) ⟨Nat.le_of_ble_eq_true rfl, Nat.le_of_ble_eq_true rfl⟩ dX0_liveLine_5 (fun _ => ?_)
  refine a_istore_n (pc := 8) X [(3, .int y5), (0, .ref (ad0 0)), (1, .ref (ad1 0)), (2, .int x1)] dX0_liveLine_8 rfl (by decide) rfl ?_
  refine a_aload_n (pc := 9) X 1 dX0_liveLine_9 rfl rfl ?_
  refine a_getR (pc := 10) X 0 5 5 fl_RX0_23 rfl rfl rfl rfl rfl dX0_liveLine_10 ?_
  refine a_iload_n (pc := 13) X 3 dX0_liveLine_13 rfl rfl ?_
  obtain ⟨y6, e_y6, h⟩ := x_lt_elim h
  refine a_callV (pc := 14) (st2 := [.int y6]) (vs2 := [v0, v1]) X [(0, 5, 2)] [none] 0 5 3 [.int x1] [] cv_RX0_120 (ct_get (ad0 := (fun i => ad0 (i + 5))) (by decide) e_y6) rfl rfl rfl rfl rfl rfl rfl rfl rfl rfl rfl rfl rfl rfl rfl (Nat.le_of_ble_eq_true rfl) ⟨Nat.le_of_ble_eq_true rfl, Nat.le_of_ble_eq_true rfl⟩ dX0_liveLine_14 (fun _ => ?_)
  refine a_istore (pc := 17) X [(4, .int y6), (3, .int y5), (0, .ref (ad0 0)), (1, .ref (ad1 0)), (2, .int x1)] dX0_liveLine_17 (by decide) rfl ?_
  refine a_iload_n (pc := 19) X 1 dX0_liveLine_19 rfl rfl ?_
  refine a_bipush (pc := 20) X dX0_liveLine_20 q_bp_9 ?_
  refine a_isub (pc := 22) X dX0_liveLine_22 ?_
  refine a_bipush (pc := 23) X dX0_liveLine_23 q_bp_10 ?_
  refine a_imul (pc := 25) X dX0_liveLine_25 ?_
  obtain ⟨y7, e_y7, h⟩ := x_lt_elim h
  refine a_ni e_y7 ?_
  refine a_istore (pc := 26) X [(5, .int y7), (4, .int y6), (3, .int y5), (0, .ref (ad0 0)), (1, .ref (ad1 0)), (2, .int x1)] dX0_liveLine_26 (by decide) rfl ?_
  refine a_iload_n (pc := 28) X 2 dX0_liveLine_28 rfl rfl ?_
  refine a_bipush (pc := 29) X dX0_liveLine_29 q_bp_16 ?_
  refine a_icmp_ne (pc := 31) X 64 dX0_liveLine_31 rfl (fun c_31 => ?_) (fun c_31 => ?_)
  · have h := x_ifn c_31 h
    refine a_iload_n (pc := 64) X 2 dX0_liveLine_64 rfl rfl ?_
    refine a_bipush (pc := 65) X dX0_liveLine_65 q_bp_9 ?_
    refine a_icmp_eq (pc := 67) X 82 dX0_liveLine_67 rfl (fun c_67 => ?_) (fun c_67 => ?_)
    · have h := x_ifp c_67 h
      refine a_sub [3, 4, 5, 2, 1, 0] rfl ?_
      exact w_X0_liveLine_82 X     h
    · have h := x_ifn c_67 h
      refine a_iload_n (pc := 70) X 2 dX0_liveLine_70 rfl rfl ?_
      refine a_bipush (pc := 71) X dX0_liveLine_71 q_bp_13 ?_
      refine a_icmp_eq (pc := 73) X 82 dX0_liveLine_73 rfl (fun c_73 => ?_) (fun c_73 => ?_)
      · have h := x_ifp c_73 h
        refine a_sub [3, 4, 5, 2, 1, 0] rfl ?_
        exact w_X0_liveLine_82 X     h
      · have h := x_ifn c_73 h
        refine a_iload_n (pc := 76) X 2 dX0_liveLine_76 rfl rfl ?_
        refine a_bipush (pc := 77) X dX0_liveLine_77 q_bp_14 ?_
        refine a_icmp_ne (pc := 79) X 86 dX0_liveLine_79 rfl (fun c_79 => ?_) (fun c_79 => ?_)
        · have h := x_ifn c_79 h
          refine a_iconst (pc := 86) X dX0_liveLine_86 q_ic_0 ?_
          refine a_sub [3, 4, 5, 2, 1, 0] rfl ?_
          exact w_X0_liveLine_87 X    x_Z0 h
        · have h := x_ifp c_79 h
          refine a_sub [3, 4, 5, 2, 1, 0] rfl ?_
          exact w_X0_liveLine_82 X     h
  · have h := x_ifp c_31 h
    refine a_aload_n (pc := 34) X 4 dX0_liveLine_34 rfl rfl ?_
    refine a_getR (pc := 35) X 1 17 17 fl_RX0_100 rfl rfl rfl rfl rfl dX0_liveLine_35 ?_
    refine a_getI (pc := 38) X 1 fl_RX0_106 rfl rfl rfl rfl dX0_liveLine_38 ?_
    refine a_iload (pc := 41) X 1 dX0_liveLine_41 rfl ?_
    refine a_iadd (pc := 43) X dX0_liveLine_43 ?_
    refine a_sipush (pc := 44) X dX0_liveLine_44 q_sp_400 ?_
    refine a_icmp_le (pc := 47) X 55 dX0_liveLine_47 rfl (fun c_47 => ?_) (fun c_47 => ?_)
    · have h := x_ifp c_47 h
      refine a_aload_n (pc := 55) X 4 dX0_liveLine_55 rfl rfl ?_
      refine a_iload (pc := 56) X 1 dX0_liveLine_56 rfl ?_
      obtain ⟨y8, e_y8, h⟩ := x_bo_elim h
      refine a_callV (pc := 58) (st2 := [.int y8.1]) (vs2 := [v0, y8.2]) X [(1, 0, 32)] [some y8.2] 1 0 10 [.int y6] [] cv_RX0_124 (c_X10_passHours (ad0 := ad1)  e_y8) rfl rfl rfl rfl rfl rfl rfl rfl rfl rfl rfl rfl rfl rfl rfl (Nat.le_of_ble_eq_true rfl) ⟨Nat.le_of_ble_eq_true rfl, Nat.le_of_ble_eq_true rfl⟩ dX0_liveLine_58 (fun _ => ?_)
      refine a_pop (pc := 61) X dX0_liveLine_61 rfl ?_
      refine a_iconst (pc := 62) X dX0_liveLine_62 q_ic_0 ?_
      have h := Option.some.inj h; subst h
      exact a_iret (pc := 63) X trivial dX0_liveLine_63
    · have h := x_ifn c_47 h
      refine a_iload (pc := 50) X 0 dX0_liveLine_50 rfl ?_
      refine a_iconst (pc := 52) X dX0_liveLine_52 q_ic_1 ?_
      refine a_iadd (pc := 53) X dX0_liveLine_53 ?_
      have h := Option.some.inj h; subst h
      exact a_iret (pc := 54) X trivial dX0_liveLine_54
theorem dX10_knownThings_0 : decode cX10_knownThings 0 = .ok (.iconst 0, 1) := by decide +kernel
theorem dX10_knownThings_1 : decode cX10_knownThings 1 = .ok (.istore_n 1, 1) := by decide +kernel
theorem dX10_knownThings_2 : decode cX10_knownThings 2 = .ok (.iconst 0, 1) := by decide +kernel
theorem dX10_knownThings_3 : decode cX10_knownThings 3 = .ok (.istore_n 2, 1) := by decide +kernel
theorem dX10_knownThings_4 : decode cX10_knownThings 4 = .ok (.iload_n 2, 1) := by decide +kernel
theorem dX10_knownThings_5 : decode cX10_knownThings 5 = .ok (.aload_n 0, 1) := by decide +kernel
theorem dX10_knownThings_6 : decode cX10_knownThings 6 = .ok (.getfield 12, 3) := by decide +kernel
theorem dX10_knownThings_9 : decode cX10_knownThings 9 = .ok (.getfield 88, 3) := by decide +kernel
theorem dX10_knownThings_12 : decode cX10_knownThings 12 = .ok (.if_icmp .ge 23, 3) := by decide +kernel
theorem dX10_knownThings_15 : decode cX10_knownThings 15 = .ok (.iload_n 1, 1) := by decide +kernel
theorem dX10_knownThings_16 : decode cX10_knownThings 16 = .ok (.aload_n 0, 1) := by decide +kernel
theorem dX10_knownThings_17 : decode cX10_knownThings 17 = .ok (.getfield 21, 3) := by decide +kernel
theorem dX10_knownThings_20 : decode cX10_knownThings 20 = .ok (.getfield 101, 3) := by decide +kernel
theorem dX10_knownThings_23 : decode cX10_knownThings 23 = .ok (.iload_n 2, 1) := by decide +kernel
theorem dX10_knownThings_24 : decode cX10_knownThings 24 = .ok (.invokevirtual 52, 3) := by decide +kernel
theorem dX10_knownThings_27 : decode cX10_knownThings 27 = .ok (.ior, 1) := by decide +kernel
theorem dX10_knownThings_28 : decode cX10_knownThings 28 = .ok (.istore_n 1, 1) := by decide +kernel
theorem dX10_knownThings_29 : decode cX10_knownThings 29 = .ok (.iinc 2 1, 3) := by decide +kernel
theorem dX10_knownThings_32 : decode cX10_knownThings 32 = .ok (.goto (-28), 3) := by decide +kernel
theorem dX10_knownThings_35 : decode cX10_knownThings 35 = .ok (.iload_n 1, 1) := by decide +kernel
theorem dX10_knownThings_36 : decode cX10_knownThings 36 = .ok (.ireturn, 1) := by decide +kernel
def f_X10_knownThings_4 (v0 : XM) (k4 : Int32 → Int32 → Option (Int32)) (l1 : Int32) (l2 : Int32) : Option (Int32) :=
  if ((v0.1 1 3) : Int32) ≤ l2 then
  (some (l1 : Int32))
  else (x_lt (r_get 5 (x_sub v0 26) l2) (fun y1 =>
  k4 (l1 ||| y1) (l2 + 1)))
def f_X10_knownThings (v0 : XM) : Option (Int32) :=
  x_lp (φ := Int32 → Int32 → Option (Int32)) (fun _ _ => none) (f_X10_knownThings_4 v0 ) x_NN (0 : Int32) (0 : Int32)
set_option maxRecDepth 100000 in
set_option maxHeartbeats 4000000 in
theorem w_X10_knownThings_4 {p : Program} {l : Launch} {e : Env} {s : State} {m : MethodId} {args : Array Value} {below : List Frame} {meth : Method} {c : Code} {D : va_G} {tc : Nat → ClassId} {aK aV : Nat → Nat} {A : Nat → Prop} {ad0 : Nat → Nat} {v0 : XM} (X : Cx p s m args meth c cX10_knownThings 3 (some .int) RX10 D tc aK aV A [(shWorld, ad0)])  {o : Int32}  : ∀ (n : Nat), ∀ (l1 : Int32) (l2 : Int32), x_lp (φ := Int32 → Int32 → Option (Int32)) (fun _ _ => none) (f_X10_knownThings_4 v0 ) n l1 l2 = some o → aW p l e (x_Rm 1) s m args below meth c D tc A 3 [(shWorld, ad0)] (some (.int o)) True [v0] 4 [(0, .ref (ad0 0)), (1, .int l1), (2, .int l2)] [] [v0] := by
  intro n
  induction n with
  | zero => intro l1 l2 h; exact absurd h (fun q => by cases q)
  | succ n ih =>
    intro l1 l2 h
    have h : f_X10_knownThings_4 v0  (x_lp (φ := Int32 → Int32 → Option (Int32)) (fun _ _ => none) (f_X10_knownThings_4 v0 ) n) l1 l2 = some o := h
    generalize x_lp (φ := Int32 → Int32 → Option (Int32)) (fun _ _ => none) (f_X10_knownThings_4 v0 ) n = k4 at h ih
    have hk4 := ih
    unfold f_X10_knownThings_4 at h
    refine a_iload_n (pc := 4) X 2 dX10_knownThings_4 rfl rfl ?_
    refine a_aload_n (pc := 5) X 0 dX10_knownThings_5 rfl rfl ?_
    refine a_getR (pc := 6) X 0 1 1 fl_RX10_12 rfl rfl rfl rfl rfl dX10_knownThings_6 ?_
    refine a_getI (pc := 9) X 0 fl_RX10_88 rfl rfl rfl rfl dX10_knownThings_9 ?_
    refine a_icmp_ge (pc := 12) X 35 dX10_knownThings_12 rfl (fun c_12 => ?_) (fun c_12 => ?_)
    · have h := x_ifp c_12 h
      refine a_iload_n (pc := 35) X 1 dX10_knownThings_35 rfl rfl ?_
      have h := Option.some.inj h; subst h
      exact a_iret (pc := 36) X trivial dX10_knownThings_36
    · have h := x_ifn c_12 h
      refine a_iload_n (pc := 15) X 1 dX10_knownThings_15 rfl rfl ?_
      refine a_aload_n (pc := 16) X 0 dX10_knownThings_16 rfl rfl ?_
      refine a_getR (pc := 17) X 0 17 17 fl_RX10_21 rfl rfl rfl rfl rfl dX10_knownThings_17 ?_
      refine a_getR (pc := 20) X 0 9 26 fl_RX10_101 rfl rfl rfl rfl rfl dX10_knownThings_20 ?_
      refine a_iload_n (pc := 23) X 2 dX10_knownThings_23 rfl rfl ?_
      obtain ⟨y1, e_y1, h⟩ := x_lt_elim h
      refine a_callV (pc := 24) (st2 := [.int y1, .int l1]) (vs2 := [v0]) X [(0, 26, 2)] [none] 0 26 3 [.int l2] [.int l1] cv_RX10_52 (ct_get (ad0 := (fun i => ad0 (i + 26))) (by decide) e_y1) rfl rfl rfl rfl rfl rfl rfl rfl rfl rfl rfl rfl rfl rfl rfl (Nat.le_of_ble_eq_true rfl) ⟨Nat.le_of_ble_eq_true rfl, Nat.le_of_ble_eq_true rfl⟩ dX10_knownThings_24 (fun _ => ?_)
      refine a_ior (pc := 27) X dX10_knownThings_27 ?_
      refine a_istore_n (pc := 28) X [(1, .int (l1 ||| y1)), (0, .ref (ad0 0)), (2, .int l2)] dX10_knownThings_28 rfl (by decide) rfl ?_
      refine a_iinc (pc := 29) X 2 [(2, .int (l2 + 1)), (1, .int (l1 ||| y1)), (0, .ref (ad0 0))] dX10_knownThings_29 rfl (congrArg (HAdd.hAdd l2) q_ic_1) (by decide) rfl ?_
      refine a_goto (pc := 32) X 4 dX10_knownThings_32 rfl ?_
      refine a_sub [2, 1, 0] rfl ?_
      exact hk4 _ _ h
set_option maxRecDepth 100000 in
set_option maxHeartbeats 4000000 in
theorem c_X10_knownThings {l : Launch}  {ad0 : Nat → Nat} {v0 : XM}   {o : Int32} (h : f_X10_knownThings v0 = some o) : CT l yX10_knownThings cX10_knownThings 3 (some .int) 1 [(shWorld, ad0)] [v0] (fun aK => [.ref (ad0 0)]) (some (.int o)) True [v0] := by
  refine CT_of (by decide) (fun _ => Nat.le_of_ble_eq_true rfl) ?_
  intro p e s m args below meth c D tc aK aV A X
  have X : Cx p s m args meth c cX10_knownThings 3 (some .int) RX10 D tc aK aV A [(shWorld, ad0)] := X
  show aW p l e (x_Rm 1) s m args below meth c D tc A 3 [(shWorld, ad0)] (some (.int o)) True [v0] 0 [(0, .ref (ad0 0))] [] [v0]
  unfold f_X10_knownThings at h
  refine a_iconst (pc := 0) X dX10_knownThings_0 q_ic_0 ?_
  refine a_istore_n (pc := 1) X [(1, .int (0 : Int32)), (0, .ref (ad0 0))] dX10_knownThings_1 rfl (by decide) rfl ?_
  refine a_iconst (pc := 2) X dX10_knownThings_2 q_ic_0 ?_
  refine a_istore_n (pc := 3) X [(2, .int (0 : Int32)), (1, .int (0 : Int32)), (0, .ref (ad0 0))] dX10_knownThings_3 rfl (by decide) rfl ?_
  refine a_sub [2, 1, 0] rfl ?_
  exact w_X10_knownThings_4 X    x_NN _ _ h
theorem dX0_live_0 : decode cX0_live 0 = .ok (.aload_n 0, 1) := by decide +kernel
theorem dX0_live_1 : decode cX0_live 1 = .ok (.iconst 1, 1) := by decide +kernel
theorem dX0_live_2 : decode cX0_live 2 = .ok (.putfield 86, 3) := by decide +kernel
theorem dX0_live_5 : decode cX0_live 5 = .ok (.aload_n 0, 1) := by decide +kernel
theorem dX0_live_6 : decode cX0_live 6 = .ok (.iconst 0, 1) := by decide +kernel
theorem dX0_live_7 : decode cX0_live 7 = .ok (.putfield 90, 3) := by decide +kernel
theorem dX0_live_10 : decode cX0_live 10 = .ok (.aload_n 0, 1) := by decide +kernel
theorem dX0_live_11 : decode cX0_live 11 = .ok (.iconst 0, 1) := by decide +kernel
theorem dX0_live_12 : decode cX0_live 12 = .ok (.putfield 93, 3) := by decide +kernel
theorem dX0_live_15 : decode cX0_live 15 = .ok (.iconst 0, 1) := by decide +kernel
theorem dX0_live_16 : decode cX0_live 16 = .ok (.istore_n 2, 1) := by decide +kernel
theorem dX0_live_17 : decode cX0_live 17 = .ok (.iload_n 2, 1) := by decide +kernel
theorem dX0_live_18 : decode cX0_live 18 = .ok (.aload_n 0, 1) := by decide +kernel
theorem dX0_live_19 : decode cX0_live 19 = .ok (.getfield 29, 3) := by decide +kernel
theorem dX0_live_22 : decode cX0_live 22 = .ok (.if_icmp .ge 43, 3) := by decide +kernel
theorem dX0_live_25 : decode cX0_live 25 = .ok (.aload_n 0, 1) := by decide +kernel
theorem dX0_live_26 : decode cX0_live 26 = .ok (.getfield 90, 3) := by decide +kernel
theorem dX0_live_29 : decode cX0_live 29 = .ok (.ifCond .ne 36, 3) := by decide +kernel
theorem dX0_live_32 : decode cX0_live 32 = .ok (.aload_n 0, 1) := by decide +kernel
theorem dX0_live_33 : decode cX0_live 33 = .ok (.aload_n 0, 1) := by decide +kernel
theorem dX0_live_34 : decode cX0_live 34 = .ok (.aload_n 1, 1) := by decide +kernel
theorem dX0_live_35 : decode cX0_live 35 = .ok (.iload_n 2, 1) := by decide +kernel
theorem dX0_live_36 : decode cX0_live 36 = .ok (.invokevirtual 96, 3) := by decide +kernel
theorem dX0_live_39 : decode cX0_live 39 = .ok (.putfield 90, 3) := by decide +kernel
theorem dX0_live_42 : decode cX0_live 42 = .ok (.aload_n 0, 1) := by decide +kernel
theorem dX0_live_43 : decode cX0_live 43 = .ok (.getfield 90, 3) := by decide +kernel
theorem dX0_live_46 : decode cX0_live 46 = .ok (.ifCond .ne 13, 3) := by decide +kernel
theorem dX0_live_49 : decode cX0_live 49 = .ok (.aload_n 0, 1) := by decide +kernel
theorem dX0_live_50 : decode cX0_live 50 = .ok (.dup, 1) := by decide +kernel
theorem dX0_live_51 : decode cX0_live 51 = .ok (.getfield 93, 3) := by decide +kernel
theorem dX0_live_54 : decode cX0_live 54 = .ok (.iconst 1, 1) := by decide +kernel
theorem dX0_live_55 : decode cX0_live 55 = .ok (.iadd, 1) := by decide +kernel
theorem dX0_live_56 : decode cX0_live 56 = .ok (.putfield 93, 3) := by decide +kernel
theorem dX0_live_59 : decode cX0_live 59 = .ok (.iinc 2 1, 3) := by decide +kernel
theorem dX0_live_62 : decode cX0_live 62 = .ok (.goto (-45), 3) := by decide +kernel
theorem dX0_live_65 : decode cX0_live 65 = .ok (.aload_n 0, 1) := by decide +kernel
theorem dX0_live_66 : decode cX0_live 66 = .ok (.aload_n 1, 1) := by decide +kernel
theorem dX0_live_67 : decode cX0_live 67 = .ok (.getfield 100, 3) := by decide +kernel
theorem dX0_live_70 : decode cX0_live 70 = .ok (.getfield 106, 3) := by decide +kernel
theorem dX0_live_73 : decode cX0_live 73 = .ok (.putfield 111, 3) := by decide +kernel
theorem dX0_live_76 : decode cX0_live 76 = .ok (.aload_n 0, 1) := by decide +kernel
theorem dX0_live_77 : decode cX0_live 77 = .ok (.aload_n 1, 1) := by decide +kernel
theorem dX0_live_78 : decode cX0_live 78 = .ok (.invokevirtual 114, 3) := by decide +kernel
theorem dX0_live_81 : decode cX0_live 81 = .ok (.putfield 117, 3) := by decide +kernel
theorem dX0_live_84 : decode cX0_live 84 = .ok (.aload_n 0, 1) := by decide +kernel
theorem dX0_live_85 : decode cX0_live 85 = .ok (.getfield 90, 3) := by decide +kernel
theorem dX0_live_88 : decode cX0_live 88 = .ok (.ifCond .ne 7, 3) := by decide +kernel
theorem dX0_live_91 : decode cX0_live 91 = .ok (.iconst (-1), 1) := by decide +kernel
theorem dX0_live_92 : decode cX0_live 92 = .ok (.goto 7, 3) := by decide +kernel
theorem dX0_live_95 : decode cX0_live 95 = .ok (.aload_n 0, 1) := by decide +kernel
theorem dX0_live_96 : decode cX0_live 96 = .ok (.getfield 93, 3) := by decide +kernel
theorem dX0_live_99 : decode cX0_live 99 = .ok (.ireturn, 1) := by decide +kernel
def f_X0_live_59 (k17 : XM → XM → Int32 → Option (Int32 × XM × XM)) (w0 : XM) (w1 : XM) (l2 : Int32) : Option (Int32 × XM × XM) :=
  k17 w0 w1 (l2 + 1)
def f_X0_live_65 (w0 : XM) (w1 : XM) : Option (Int32 × XM × XM) :=
  x_lt (x_si w0 0 8 (w1.1 17 0)) (fun m1 =>
  x_bo (f_X10_knownThings w1) (fun y2 =>
  x_lt (x_si m1 0 9 y2) (fun m3 =>
  if (m3.1 0 6) = (0 : Int32) then
  (some ((-1 : Int32), m3, w1))
  else (some (m3.1 0 7, m3, w1)))))
def f_X0_live_17 (k17 : XM → XM → Int32 → Option (Int32 × XM × XM)) (w0 : XM) (w1 : XM) (l2 : Int32) : Option (Int32 × XM × XM) :=
  if ((w0.1 0 4) : Int32) ≤ l2 then
  (f_X0_live_65   w0 w1)
  else (if (w0.1 0 6) = (0 : Int32) then
  (x_bo (f_X0_liveLine w0 w1 l2) (fun y4 =>
  x_lt (x_si w0 0 6 y4.1) (fun m5 =>
  if (m5.1 0 6) = (0 : Int32) then
  (x_lt (x_si m5 0 7 ((m5.1 0 7) + (1 : Int32))) (fun m6 =>
  f_X0_live_59  k17 m6 y4.2 l2))
  else (f_X0_live_59  k17 m5 y4.2 l2))))
  else (f_X0_live_65   w0 w1))
def f_X0_live (v0 : XM) (v1 : XM) : Option (Int32 × XM × XM) :=
  x_lt (x_si v0 0 5 (1 : Int32)) (fun m7 =>
  x_lt (x_si m7 0 6 (0 : Int32)) (fun m8 =>
  x_lt (x_si m8 0 7 (0 : Int32)) (fun m9 =>
  x_lp (φ := XM → XM → Int32 → Option (Int32 × XM × XM)) (fun _ _ _ => none) (f_X0_live_17  ) x_NN m9 v1 (0 : Int32))))
set_option maxRecDepth 100000 in
set_option maxHeartbeats 4000000 in
theorem w_X0_live_59 {p : Program} {l : Launch} {e : Env} {s : State} {m : MethodId} {args : Array Value} {below : List Frame} {meth : Method} {c : Code} {D : va_G} {tc : Nat → ClassId} {aK aV : Nat → Nat} {A : Nat → Prop} {ad0 : Nat → Nat} {ad1 : Nat → Nat}  (X : Cx p s m args meth c cX0_live 3 (some .int) RX0 D tc aK aV A [(shBook, ad0), (shWorld, ad1)])  {o : Int32 × XM × XM} {k17 : XM → XM → Int32 → Option (Int32 × XM × XM)} (hk17 : ∀ (w0 : XM) (w1 : XM) (l2 : Int32), k17 w0 w1 l2 = some o → aW p l e (x_Rm 6) s m args below meth c D tc A 3 [(shBook, ad0), (shWorld, ad1)] (some (.int o.1)) True [o.2.1, o.2.2] 17 [(0, .ref (ad0 0)), (1, .ref (ad1 0)), (2, .int l2)] [] [w0, w1]) {w0 : XM} {w1 : XM} {l2 : Int32}  (h : f_X0_live_59  k17 w0 w1 l2 = some o) : aW p l e (x_Rm 6) s m args below meth c D tc A 3 [(shBook, ad0), (shWorld, ad1)] (some (.int o.1)) True [o.2.1, o.2.2] 59 [(0, .ref (ad0 0)), (1, .ref (ad1 0)), (2, .int l2)] [] [w0, w1] := by
  unfold f_X0_live_59 at h
  refine a_iinc (pc := 59) X 2 [(2, .int (l2 + 1)), (0, .ref (ad0 0)), (1, .ref (ad1 0))] dX0_live_59 rfl (congrArg (HAdd.hAdd l2) q_ic_1) (by decide) rfl ?_
  refine a_goto (pc := 62) X 17 dX0_live_62 rfl ?_
  refine a_sub [1, 2, 0] rfl ?_
  exact hk17 _ _ _ h
set_option maxRecDepth 100000 in
set_option maxHeartbeats 4000000 in
theorem w_X0_live_65 {p : Program} {l : Launch} {e : Env} {s : State} {m : MethodId} {args : Array Value} {below : List Frame} {meth : Method} {c : Code} {D : va_G} {tc : Nat → ClassId} {aK aV : Nat → Nat} {A : Nat → Prop} {ad0 : Nat → Nat} {ad1 : Nat → Nat}  (X : Cx p s m args meth c cX0_live 3 (some .int) RX0 D tc aK aV A [(shBook, ad0), (shWorld, ad1)])  {o : Int32 × XM × XM}  {w0 : XM} {w1 : XM}  (h : f_X0_live_65   w0 w1 = some o) : aW p l e (x_Rm 6) s m args below meth c D tc A 3 [(shBook, ad0), (shWorld, ad1)] (some (.int o.1)) True [o.2.1, o.2.2] 65 [(0, .ref (ad0 0)), (1, .ref (ad1 0))] [] [w0, w1] := by
  unfold f_X0_live_65 at h
  refine a_aload_n (pc := 65) X 0 dX0_live_65 rfl rfl ?_
  refine a_aload_n (pc := 66) X 1 dX0_live_66 rfl rfl ?_
  refine a_getR (pc := 67) X 1 17 17 fl_RX0_100 rfl rfl rfl rfl rfl dX0_live_67 ?_
  refine a_getI (pc := 70) X 1 fl_RX0_106 rfl rfl rfl rfl dX0_live_70 ?_
  refine a_putI (pc := 73) X 0 fl_RX0_111 rfl rfl rfl rfl dX0_live_73 ?_
  obtain ⟨m1, e_m1, h⟩ := x_lt_elim h
  refine a_nm (vs2 := [m1, w1]) (congrArg (fun q : XM => [q, w1]) e_m1) ?_
  refine a_aload_n (pc := 76) X 0 dX0_live_76 rfl rfl ?_
  refine a_aload_n (pc := 77) X 1 dX0_live_77 rfl rfl ?_
  obtain ⟨y2, e_y2, h⟩ := x_bo_elim h
  refine a_callV (pc := 78) (st2 := [.int y2, .ref (ad0 0)]) (vs2 := [m1, w1]) X [(1, 0, 32)] [none] 1 0 10 [] [.ref (ad0 0)] cv_RX0_114 (c_X10_knownThings (ad0 := ad1)  e_y2) rfl rfl rfl rfl rfl rfl rfl rfl rfl rfl rfl rfl rfl rfl rfl (Nat.le_of_ble_eq_true rfl) ⟨Nat.le_of_ble_eq_true rfl, Nat.le_of_ble_eq_true rfl⟩ dX0_live_78 (fun _ => ?_)
  refine a_putI (pc := 81) X 0 fl_RX0_117 rfl rfl rfl rfl dX0_live_81 ?_
  obtain ⟨m3, e_m3, h⟩ := x_lt_elim h
  refine a_nm (vs2 := [m3, w1]) (congrArg (fun q : XM => [q, w1]) e_m3) ?_
  refine a_aload_n (pc := 84) X 0 dX0_live_84 rfl rfl ?_
  refine a_getI (pc := 85) X 0 fl_RX0_90 rfl rfl rfl rfl dX0_live_85 ?_
  refine a_if_ne (pc := 88) X 95 dX0_live_88 rfl (fun c_88 => ?_) (fun c_88 => ?_)
  · have h := x_ifn c_88 h
    refine a_aload_n (pc := 95) X 0 dX0_live_95 rfl rfl ?_
    refine a_getI (pc := 96) X 0 fl_RX0_93 rfl rfl rfl rfl dX0_live_96 ?_
    have h := Option.some.inj h; subst h
    exact a_iret (pc := 99) X trivial dX0_live_99
  · have h := x_ifp c_88 h
    refine a_iconst (pc := 91) X dX0_live_91 q_ic_m1 ?_
    refine a_goto (pc := 92) X 99 dX0_live_92 rfl ?_
    have h := Option.some.inj h; subst h
    exact a_iret (pc := 99) X trivial dX0_live_99
set_option maxRecDepth 100000 in
set_option maxHeartbeats 4000000 in
theorem w_X0_live_17 {p : Program} {l : Launch} {e : Env} {s : State} {m : MethodId} {args : Array Value} {below : List Frame} {meth : Method} {c : Code} {D : va_G} {tc : Nat → ClassId} {aK aV : Nat → Nat} {A : Nat → Prop} {ad0 : Nat → Nat} {ad1 : Nat → Nat}  (X : Cx p s m args meth c cX0_live 3 (some .int) RX0 D tc aK aV A [(shBook, ad0), (shWorld, ad1)])  {o : Int32 × XM × XM}  : ∀ (n : Nat), ∀ (w0 : XM) (w1 : XM) (l2 : Int32), x_lp (φ := XM → XM → Int32 → Option (Int32 × XM × XM)) (fun _ _ _ => none) (f_X0_live_17  ) n w0 w1 l2 = some o → aW p l e (x_Rm 6) s m args below meth c D tc A 3 [(shBook, ad0), (shWorld, ad1)] (some (.int o.1)) True [o.2.1, o.2.2] 17 [(0, .ref (ad0 0)), (1, .ref (ad1 0)), (2, .int l2)] [] [w0, w1] := by
  intro n
  induction n with
  | zero => intro w0 w1 l2 h; exact absurd h (fun q => by cases q)
  | succ n ih =>
    intro w0 w1 l2 h
    have h : f_X0_live_17   (x_lp (φ := XM → XM → Int32 → Option (Int32 × XM × XM)) (fun _ _ _ => none) (f_X0_live_17  ) n) w0 w1 l2 = some o := h
    generalize x_lp (φ := XM → XM → Int32 → Option (Int32 × XM × XM)) (fun _ _ _ => none) (f_X0_live_17  ) n = k17 at h ih
    have hk17 := ih
    unfold f_X0_live_17 at h
    refine a_iload_n (pc := 17) X 2 dX0_live_17 rfl rfl ?_
    refine a_aload_n (pc := 18) X 0 dX0_live_18 rfl rfl ?_
    refine a_getI (pc := 19) X 0 fl_RX0_29 rfl rfl rfl rfl dX0_live_19 ?_
    refine a_icmp_ge (pc := 22) X 65 dX0_live_22 rfl (fun c_22 => ?_) (fun c_22 => ?_)
    · have h := x_ifp c_22 h
      refine a_sub [0, 1] rfl ?_
      exact w_X0_live_65 X     h
    · have h := x_ifn c_22 h
      refine a_aload_n (pc := 25) X 0 dX0_live_25 rfl rfl ?_
      refine a_getI (pc := 26) X 0 fl_RX0_90 rfl rfl rfl rfl dX0_live_26 ?_
      refine a_if_ne (pc := 29) X 65 dX0_live_29 rfl (fun c_29 => ?_) (fun c_29 => ?_)
      · have h := x_ifn c_29 h
        refine a_sub [0, 1] rfl ?_
        exact w_X0_live_65 X     h
      · have h := x_ifp c_29 h
        refine a_aload_n (pc := 32) X 0 dX0_live_32 rfl rfl ?_
        refine a_aload_n (pc := 33) X 0 dX0_live_33 rfl rfl ?_
        refine a_aload_n (pc := 34) X 1 dX0_live_34 rfl rfl ?_
        refine a_iload_n (pc := 35) X 2 dX0_live_35 rfl rfl ?_
        obtain ⟨y4, e_y4, h⟩ := x_bo_elim h
        refine a_callV (pc := 36) (st2 := [.int y4.1, .ref (ad0 0)]) (vs2 := [w0, y4.2]) X [(0, 0, 9), (1, 0, 32)] [none, some y4.2] 0 0 0 [.ref (ad1 0), .int l2] [.ref (ad0 0)] cv_RX0_96 (c_X0_liveLine (ad0 := ad0) (ad1 := ad1)  e_y4) rfl rfl rfl rfl rfl rfl rfl rfl rfl rfl rfl rfl rfl rfl rfl (Nat.le_of_ble_eq_true rfl) ⟨Nat.le_of_ble_eq_true rfl, Nat.le_of_ble_eq_true rfl⟩ dX0_live_36 (fun _ => ?_)
        refine a_putI (pc := 39) X 0 fl_RX0_90 rfl rfl rfl rfl dX0_live_39 ?_
        obtain ⟨m5, e_m5, h⟩ := x_lt_elim h
        refine a_nm (vs2 := [m5, y4.2]) (congrArg (fun q : XM => [q, y4.2]) e_m5) ?_
        refine a_aload_n (pc := 42) X 0 dX0_live_42 rfl rfl ?_
        refine a_getI (pc := 43) X 0 fl_RX0_90 rfl rfl rfl rfl dX0_live_43 ?_
        refine a_if_ne (pc := 46) X 59 dX0_live_46 rfl (fun c_46 => ?_) (fun c_46 => ?_)
        · have h := x_ifn c_46 h
          exact w_X0_live_59 X   hk17  h
        · have h := x_ifp c_46 h
          refine a_aload_n (pc := 49) X 0 dX0_live_49 rfl rfl ?_
          refine a_dup (pc := 50) X dX0_live_50 rfl ?_
          refine a_getI (pc := 51) X 0 fl_RX0_93 rfl rfl rfl rfl dX0_live_51 ?_
          refine a_iconst (pc := 54) X dX0_live_54 q_ic_1 ?_
          refine a_iadd (pc := 55) X dX0_live_55 ?_
          refine a_putI (pc := 56) X 0 fl_RX0_93 rfl rfl rfl rfl dX0_live_56 ?_
          obtain ⟨m6, e_m6, h⟩ := x_lt_elim h
          refine a_nm (vs2 := [m6, y4.2]) (congrArg (fun q : XM => [q, y4.2]) e_m6) ?_
          exact w_X0_live_59 X   hk17  h
set_option maxRecDepth 100000 in
set_option maxHeartbeats 4000000 in
theorem c_X0_live {l : Launch}  {ad0 : Nat → Nat} {ad1 : Nat → Nat} {v0 v1 : XM}   {o : Int32 × XM × XM} (h : f_X0_live v0 v1 = some o) : CT l yX0_live cX0_live 3 (some .int) 6 [(shBook, ad0), (shWorld, ad1)] [v0, v1] (fun aK => [.ref (ad0 0), .ref (ad1 0)]) (some (.int o.1)) True [o.2.1, o.2.2] := by
  refine CT_of (by decide) (fun _ => Nat.le_of_ble_eq_true rfl) ?_
  intro p e s m args below meth c D tc aK aV A X
  have X : Cx p s m args meth c cX0_live 3 (some .int) RX0 D tc aK aV A [(shBook, ad0), (shWorld, ad1)] := X
  show aW p l e (x_Rm 6) s m args below meth c D tc A 3 [(shBook, ad0), (shWorld, ad1)] (some (.int o.1)) True [o.2.1, o.2.2] 0 [(0, .ref (ad0 0)), (1, .ref (ad1 0))] [] [v0, v1]
  unfold f_X0_live at h
  refine a_aload_n (pc := 0) X 0 dX0_live_0 rfl rfl ?_
  refine a_iconst (pc := 1) X dX0_live_1 q_ic_1 ?_
  refine a_putZ (pc := 2) X 0 x_Z1 fl_RX0_86 rfl rfl rfl rfl dX0_live_2 ?_
  obtain ⟨m7, e_m7, h⟩ := x_lt_elim h
  refine a_nm (vs2 := [m7, v1]) (congrArg (fun q : XM => [q, v1]) e_m7) ?_
  refine a_aload_n (pc := 5) X 0 dX0_live_5 rfl rfl ?_
  refine a_iconst (pc := 6) X dX0_live_6 q_ic_0 ?_
  refine a_putI (pc := 7) X 0 fl_RX0_90 rfl rfl rfl rfl dX0_live_7 ?_
  obtain ⟨m8, e_m8, h⟩ := x_lt_elim h
  refine a_nm (vs2 := [m8, v1]) (congrArg (fun q : XM => [q, v1]) e_m8) ?_
  refine a_aload_n (pc := 10) X 0 dX0_live_10 rfl rfl ?_
  refine a_iconst (pc := 11) X dX0_live_11 q_ic_0 ?_
  refine a_putI (pc := 12) X 0 fl_RX0_93 rfl rfl rfl rfl dX0_live_12 ?_
  obtain ⟨m9, e_m9, h⟩ := x_lt_elim h
  refine a_nm (vs2 := [m9, v1]) (congrArg (fun q : XM => [q, v1]) e_m9) ?_
  refine a_iconst (pc := 15) X dX0_live_15 q_ic_0 ?_
  refine a_istore_n (pc := 16) X [(2, .int (0 : Int32)), (0, .ref (ad0 0)), (1, .ref (ad1 0))] dX0_live_16 rfl (by decide) rfl ?_
  refine a_sub [1, 2, 0] rfl ?_
  exact w_X0_live_17 X    x_NN _ _ _ h
theorem dX1_forget_0 : decode cX1_forget 0 = .ok (.aload_n 0, 1) := by decide +kernel
theorem dX1_forget_1 : decode cX1_forget 1 = .ok (.iconst 0, 1) := by decide +kernel
theorem dX1_forget_2 : decode cX1_forget 2 = .ok (.putfield 18, 3) := by decide +kernel
theorem dX1_forget_5 : decode cX1_forget 5 = .ok (.return_, 1) := by decide +kernel
def f_X1_forget (v0 : XM) : XM :=
  x_lt (x_si v0 0 2 (0 : Int32)) (fun m1 =>
  m1)
set_option maxRecDepth 100000 in
set_option maxHeartbeats 4000000 in
theorem c_X1_forget {l : Launch}  {ad0 : Nat → Nat} {v0 : XM}   {o : XM} (h : f_X1_forget v0 = o) : CT l yX1_forget cX1_forget 1 none 0 [(shHistory, ad0)] [v0] (fun aK => [.ref (ad0 0)]) none True [o] := by
  refine CT_of (by decide) (fun _ => Nat.le_of_ble_eq_true rfl) ?_
  intro p e s m args below meth c D tc aK aV A X
  have X : Cx p s m args meth c cX1_forget 1 none RX1 D tc aK aV A [(shHistory, ad0)] := X
  show aW p l e (x_Rm 0) s m args below meth c D tc A 1 [(shHistory, ad0)] none True [o] 0 [(0, .ref (ad0 0))] [] [v0]
  unfold f_X1_forget at h
  refine a_aload_n (pc := 0) X 0 dX1_forget_0 rfl rfl ?_
  refine a_iconst (pc := 1) X dX1_forget_1 q_ic_0 ?_
  refine a_putI (pc := 2) X 0 fl_RX1_18 rfl rfl rfl rfl dX1_forget_2 ?_
  obtain ⟨m1, e_m1, h⟩ := x_lt_elim h
  refine a_nm (vs2 := [m1]) (congrArg (fun q : XM => [q]) e_m1) ?_
  subst h
  exact a_vret (pc := 5) X trivial dX1_forget_5
theorem dX5_become_0 : decode cX5_become 0 = .ok (.aload_n 0, 1) := by decide +kernel
theorem dX5_become_1 : decode cX5_become 1 = .ok (.aload_n 1, 1) := by decide +kernel
theorem dX5_become_2 : decode cX5_become 2 = .ok (.getfield 42, 3) := by decide +kernel
theorem dX5_become_5 : decode cX5_become 5 = .ok (.putfield 42, 3) := by decide +kernel
theorem dX5_become_8 : decode cX5_become 8 = .ok (.aload_n 0, 1) := by decide +kernel
theorem dX5_become_9 : decode cX5_become 9 = .ok (.aload_n 1, 1) := by decide +kernel
theorem dX5_become_10 : decode cX5_become 10 = .ok (.getfield 9, 3) := by decide +kernel
theorem dX5_become_13 : decode cX5_become 13 = .ok (.putfield 9, 3) := by decide +kernel
theorem dX5_become_16 : decode cX5_become 16 = .ok (.aload_n 0, 1) := by decide +kernel
theorem dX5_become_17 : decode cX5_become 17 = .ok (.aload_n 1, 1) := by decide +kernel
theorem dX5_become_18 : decode cX5_become 18 = .ok (.getfield 45, 3) := by decide +kernel
theorem dX5_become_21 : decode cX5_become 21 = .ok (.putfield 45, 3) := by decide +kernel
theorem dX5_become_24 : decode cX5_become 24 = .ok (.aload_n 0, 1) := by decide +kernel
theorem dX5_become_25 : decode cX5_become 25 = .ok (.getfield 20, 3) := by decide +kernel
theorem dX5_become_28 : decode cX5_become 28 = .ok (.aload_n 1, 1) := by decide +kernel
theorem dX5_become_29 : decode cX5_become 29 = .ok (.getfield 20, 3) := by decide +kernel
theorem dX5_become_32 : decode cX5_become 32 = .ok (.invokevirtual 53, 3) := by decide +kernel
theorem dX5_become_35 : decode cX5_become 35 = .ok (.aload_n 0, 1) := by decide +kernel
theorem dX5_become_36 : decode cX5_become 36 = .ok (.getfield 24, 3) := by decide +kernel
theorem dX5_become_39 : decode cX5_become 39 = .ok (.aload_n 1, 1) := by decide +kernel
theorem dX5_become_40 : decode cX5_become 40 = .ok (.getfield 24, 3) := by decide +kernel
theorem dX5_become_43 : decode cX5_become 43 = .ok (.invokevirtual 53, 3) := by decide +kernel
theorem dX5_become_46 : decode cX5_become 46 = .ok (.aload_n 0, 1) := by decide +kernel
theorem dX5_become_47 : decode cX5_become 47 = .ok (.getfield 27, 3) := by decide +kernel
theorem dX5_become_50 : decode cX5_become 50 = .ok (.aload_n 1, 1) := by decide +kernel
theorem dX5_become_51 : decode cX5_become 51 = .ok (.getfield 27, 3) := by decide +kernel
theorem dX5_become_54 : decode cX5_become 54 = .ok (.invokevirtual 53, 3) := by decide +kernel
theorem dX5_become_57 : decode cX5_become 57 = .ok (.aload_n 0, 1) := by decide +kernel
theorem dX5_become_58 : decode cX5_become 58 = .ok (.getfield 30, 3) := by decide +kernel
theorem dX5_become_61 : decode cX5_become 61 = .ok (.aload_n 1, 1) := by decide +kernel
theorem dX5_become_62 : decode cX5_become 62 = .ok (.getfield 30, 3) := by decide +kernel
theorem dX5_become_65 : decode cX5_become 65 = .ok (.invokevirtual 53, 3) := by decide +kernel
theorem dX5_become_68 : decode cX5_become 68 = .ok (.aload_n 0, 1) := by decide +kernel
theorem dX5_become_69 : decode cX5_become 69 = .ok (.getfield 33, 3) := by decide +kernel
theorem dX5_become_72 : decode cX5_become 72 = .ok (.aload_n 1, 1) := by decide +kernel
theorem dX5_become_73 : decode cX5_become 73 = .ok (.getfield 33, 3) := by decide +kernel
theorem dX5_become_76 : decode cX5_become 76 = .ok (.invokevirtual 53, 3) := by decide +kernel
theorem dX5_become_79 : decode cX5_become 79 = .ok (.aload_n 0, 1) := by decide +kernel
theorem dX5_become_80 : decode cX5_become 80 = .ok (.getfield 36, 3) := by decide +kernel
theorem dX5_become_83 : decode cX5_become 83 = .ok (.aload_n 1, 1) := by decide +kernel
theorem dX5_become_84 : decode cX5_become 84 = .ok (.getfield 36, 3) := by decide +kernel
theorem dX5_become_87 : decode cX5_become 87 = .ok (.invokevirtual 53, 3) := by decide +kernel
theorem dX5_become_90 : decode cX5_become 90 = .ok (.aload_n 0, 1) := by decide +kernel
theorem dX5_become_91 : decode cX5_become 91 = .ok (.getfield 39, 3) := by decide +kernel
theorem dX5_become_94 : decode cX5_become 94 = .ok (.aload_n 1, 1) := by decide +kernel
theorem dX5_become_95 : decode cX5_become 95 = .ok (.getfield 39, 3) := by decide +kernel
theorem dX5_become_98 : decode cX5_become 98 = .ok (.invokevirtual 53, 3) := by decide +kernel
theorem dX5_become_101 : decode cX5_become 101 = .ok (.return_, 1) := by decide +kernel
def f_X5_become (v0 : XM) (v1 : XM) : XM :=
  x_lt (x_si v0 0 0 (v1.1 0 0)) (fun m1 =>
  x_lt (x_si m1 0 1 (v1.1 0 1)) (fun m2 =>
  x_lt (x_si m2 0 2 (v1.1 0 2)) (fun m3 =>
  x_lt (r_bec 5 5 (x_sub m3 1) (x_sub v1 1)) (fun y4 =>
  x_lt (x_put m3 1 2 y4) (fun m5 =>
  x_lt (r_bec 5 5 (x_sub m5 3) (x_sub v1 3)) (fun y6 =>
  x_lt (x_put m5 3 2 y6) (fun m7 =>
  x_lt (r_bec 5 5 (x_sub m7 5) (x_sub v1 5)) (fun y8 =>
  x_lt (x_put m7 5 2 y8) (fun m9 =>
  x_lt (r_bec 5 5 (x_sub m9 7) (x_sub v1 7)) (fun y10 =>
  x_lt (x_put m9 7 2 y10) (fun m11 =>
  x_lt (r_bec 5 5 (x_sub m11 9) (x_sub v1 9)) (fun y12 =>
  x_lt (x_put m11 9 2 y12) (fun m13 =>
  x_lt (r_bec 12 12 (x_sub m13 11) (x_sub v1 11)) (fun y14 =>
  x_lt (x_put m13 11 2 y14) (fun m15 =>
  x_lt (r_bec 12 12 (x_sub m15 13) (x_sub v1 13)) (fun y16 =>
  x_lt (x_put m15 13 2 y16) (fun m17 =>
  m17)))))))))))))))))
set_option maxRecDepth 100000 in
set_option maxHeartbeats 4000000 in
theorem c_X5_become {l : Launch}  {ad0 : Nat → Nat} {ad1 : Nat → Nat} {v0 v1 : XM}   {o : XM} (h : f_X5_become v0 v1 = o) : CT l yX5_become cX5_become 2 none 2 [(shState, ad0), (shState, ad1)] [v0, v1] (fun aK => [.ref (ad0 0), .ref (ad1 0)]) none True [o, v1] := by
  refine CT_of (by decide) (fun _ => Nat.le_of_ble_eq_true rfl) ?_
  intro p e s m args below meth c D tc aK aV A X
  have X : Cx p s m args meth c cX5_become 2 none RX5 D tc aK aV A [(shState, ad0), (shState, ad1)] := X
  show aW p l e (x_Rm 2) s m args below meth c D tc A 2 [(shState, ad0), (shState, ad1)] none True [o, v1] 0 [(0, .ref (ad0 0)), (1, .ref (ad1 0))] [] [v0, v1]
  unfold f_X5_become at h
  refine a_aload_n (pc := 0) X 0 dX5_become_0 rfl rfl ?_
  refine a_aload_n (pc := 1) X 1 dX5_become_1 rfl rfl ?_
  refine a_getI (pc := 2) X 1 fl_RX5_42 rfl rfl rfl rfl dX5_become_2 ?_
  refine a_putI (pc := 5) X 0 fl_RX5_42 rfl rfl rfl rfl dX5_become_5 ?_
  obtain ⟨m1, e_m1, h⟩ := x_lt_elim h
  refine a_nm (vs2 := [m1, v1]) (congrArg (fun q : XM => [q, v1]) e_m1) ?_
  refine a_aload_n (pc := 8) X 0 dX5_become_8 rfl rfl ?_
  refine a_aload_n (pc := 9) X 1 dX5_become_9 rfl rfl ?_
  refine a_getI (pc := 10) X 1 fl_RX5_9 rfl rfl rfl rfl dX5_become_10 ?_
  refine a_putI (pc := 13) X 0 fl_RX5_9 rfl rfl rfl rfl dX5_become_13 ?_
  obtain ⟨m2, e_m2, h⟩ := x_lt_elim h
  refine a_nm (vs2 := [m2, v1]) (congrArg (fun q : XM => [q, v1]) e_m2) ?_
  refine a_aload_n (pc := 16) X 0 dX5_become_16 rfl rfl ?_
  refine a_aload_n (pc := 17) X 1 dX5_become_17 rfl rfl ?_
  refine a_getI (pc := 18) X 1 fl_RX5_45 rfl rfl rfl rfl dX5_become_18 ?_
  refine a_putI (pc := 21) X 0 fl_RX5_45 rfl rfl rfl rfl dX5_become_21 ?_
  obtain ⟨m3, e_m3, h⟩ := x_lt_elim h
  refine a_nm (vs2 := [m3, v1]) (congrArg (fun q : XM => [q, v1]) e_m3) ?_
  refine a_aload_n (pc := 24) X 0 dX5_become_24 rfl rfl ?_
  refine a_getR (pc := 25) X 0 1 1 fl_RX5_20 rfl rfl rfl rfl rfl dX5_become_25 ?_
  refine a_aload_n (pc := 28) X 1 dX5_become_28 rfl rfl ?_
  refine a_getR (pc := 29) X 1 1 1 fl_RX5_20 rfl rfl rfl rfl rfl dX5_become_29 ?_
  obtain ⟨y4, e_y4, h⟩ := x_lt_elim h
  refine a_callV (pc := 32) (st2 := []) (vs2 := [x_put m3 1 2 y4, v1]) X [(0, 1, 2), (1, 1, 2)] [some y4, none] 0 1 3 [.ref (ad1 1)] [] cv_RX5_53 (ct_bec (ad0 := (fun i => ad0 (i + 1))) (ad1 := (fun i => ad1 (i + 1))) (by decide) (by decide) e_y4) rfl rfl rfl rfl rfl rfl rfl rfl rfl rfl rfl rfl rfl rfl rfl (Nat.le_of_ble_eq_true rfl) ⟨Nat.le_of_ble_eq_true rfl, Nat.le_of_ble_eq_true rfl⟩ dX5_become_32 (fun _ => ?_)
  obtain ⟨m5, e_m5, h⟩ := x_lt_elim h
  refine a_nm (vs2 := [m5, v1]) (congrArg (fun q : XM => [q, v1]) e_m5) ?_
  refine a_aload_n (pc := 35) X 0 dX5_become_35 rfl rfl ?_
  refine a_getR (pc := 36) X 0 3 3 fl_RX5_24 rfl rfl rfl rfl rfl dX5_become_36 ?_
  refine a_aload_n (pc := 39) X 1 dX5_become_39 rfl rfl ?_
  refine a_getR (pc := 40) X 1 3 3 fl_RX5_24 rfl rfl rfl rfl rfl dX5_become_40 ?_
  obtain ⟨y6, e_y6, h⟩ := x_lt_elim h
  refine a_callV (pc := 43) (st2 := []) (vs2 := [x_put m5 3 2 y6, v1]) X [(0, 3, 2), (1, 3, 2)] [some y6, none] 0 3 3 [.ref (ad1 3)] [] cv_RX5_53 (ct_bec (ad0 := (fun i => ad0 (i + 3))) (ad1 := (fun i => ad1 (i + 3))) (by decide) (by decide) e_y6) rfl rfl rfl rfl rfl rfl rfl rfl rfl rfl rfl rfl rfl rfl rfl (Nat.le_of_ble_eq_true rfl) ⟨Nat.le_of_ble_eq_true rfl, Nat.le_of_ble_eq_true rfl⟩ dX5_become_43 (fun _ => ?_)
  obtain ⟨m7, e_m7, h⟩ := x_lt_elim h
  refine a_nm (vs2 := [m7, v1]) (congrArg (fun q : XM => [q, v1]) e_m7) ?_
  refine a_aload_n (pc := 46) X 0 dX5_become_46 rfl rfl ?_
  refine a_getR (pc := 47) X 0 5 5 fl_RX5_27 rfl rfl rfl rfl rfl dX5_become_47 ?_
  refine a_aload_n (pc := 50) X 1 dX5_become_50 rfl rfl ?_
  refine a_getR (pc := 51) X 1 5 5 fl_RX5_27 rfl rfl rfl rfl rfl dX5_become_51 ?_
  obtain ⟨y8, e_y8, h⟩ := x_lt_elim h
  refine a_callV (pc := 54) (st2 := []) (vs2 := [x_put m7 5 2 y8, v1]) X [(0, 5, 2), (1, 5, 2)] [some y8, none] 0 5 3 [.ref (ad1 5)] [] cv_RX5_53 (ct_bec (ad0 := (fun i => ad0 (i + 5))) (ad1 := (fun i => ad1 (i + 5))) (by decide) (by decide) e_y8) rfl rfl rfl rfl rfl rfl rfl rfl rfl rfl rfl rfl rfl rfl rfl (Nat.le_of_ble_eq_true rfl) ⟨Nat.le_of_ble_eq_true rfl, Nat.le_of_ble_eq_true rfl⟩ dX5_become_54 (fun _ => ?_)
  obtain ⟨m9, e_m9, h⟩ := x_lt_elim h
  refine a_nm (vs2 := [m9, v1]) (congrArg (fun q : XM => [q, v1]) e_m9) ?_
  refine a_aload_n (pc := 57) X 0 dX5_become_57 rfl rfl ?_
  refine a_getR (pc := 58) X 0 7 7 fl_RX5_30 rfl rfl rfl rfl rfl dX5_become_58 ?_
  refine a_aload_n (pc := 61) X 1 dX5_become_61 rfl rfl ?_
  refine a_getR (pc := 62) X 1 7 7 fl_RX5_30 rfl rfl rfl rfl rfl dX5_become_62 ?_
  obtain ⟨y10, e_y10, h⟩ := x_lt_elim h
  refine a_callV (pc := 65) (st2 := []) (vs2 := [x_put m9 7 2 y10, v1]) X [(0, 7, 2), (1, 7, 2)] [some y10, none] 0 7 3 [.ref (ad1 7)] [] cv_RX5_53 (ct_bec (ad0 := (fun i => ad0 (i + 7))) (ad1 := (fun i => ad1 (i + 7))) (by decide) (by decide) e_y10) rfl rfl rfl rfl rfl rfl rfl rfl rfl rfl rfl rfl rfl rfl rfl (Nat.le_of_ble_eq_true rfl) ⟨Nat.le_of_ble_eq_true rfl, Nat.le_of_ble_eq_true rfl⟩ dX5_become_65 (fun _ => ?_)
  obtain ⟨m11, e_m11, h⟩ := x_lt_elim h
  refine a_nm (vs2 := [m11, v1]) (congrArg (fun q : XM => [q, v1]) e_m11) ?_
  refine a_aload_n (pc := 68) X 0 dX5_become_68 rfl rfl ?_
  refine a_getR (pc := 69) X 0 9 9 fl_RX5_33 rfl rfl rfl rfl rfl dX5_become_69 ?_
  refine a_aload_n (pc := 72) X 1 dX5_become_72 rfl rfl ?_
  refine a_getR (pc := 73) X 1 9 9 fl_RX5_33 rfl rfl rfl rfl rfl dX5_become_73 ?_
  obtain ⟨y12, e_y12, h⟩ := x_lt_elim h
  refine a_callV (pc := 76) (st2 := []) (vs2 := [x_put m11 9 2 y12, v1]) X [(0, 9, 2), (1, 9, 2)] [some y12, none] 0 9 3 [.ref (ad1 9)] [] cv_RX5_53 (ct_bec (ad0 := (fun i => ad0 (i + 9))) (ad1 := (fun i => ad1 (i + 9))) (by decide) (by decide) e_y12) rfl rfl rfl rfl rfl rfl rfl rfl rfl rfl rfl rfl rfl rfl rfl (Nat.le_of_ble_eq_true rfl) ⟨Nat.le_of_ble_eq_true rfl, Nat.le_of_ble_eq_true rfl⟩ dX5_become_76 (fun _ => ?_)
  obtain ⟨m13, e_m13, h⟩ := x_lt_elim h
  refine a_nm (vs2 := [m13, v1]) (congrArg (fun q : XM => [q, v1]) e_m13) ?_
  refine a_aload_n (pc := 79) X 0 dX5_become_79 rfl rfl ?_
  refine a_getR (pc := 80) X 0 11 11 fl_RX5_36 rfl rfl rfl rfl rfl dX5_become_80 ?_
  refine a_aload_n (pc := 83) X 1 dX5_become_83 rfl rfl ?_
  refine a_getR (pc := 84) X 1 11 11 fl_RX5_36 rfl rfl rfl rfl rfl dX5_become_84 ?_
  obtain ⟨y14, e_y14, h⟩ := x_lt_elim h
  refine a_callV (pc := 87) (st2 := []) (vs2 := [x_put m13 11 2 y14, v1]) X [(0, 11, 2), (1, 11, 2)] [some y14, none] 0 11 3 [.ref (ad1 11)] [] cv_RX5_53 (ct_bec (ad0 := (fun i => ad0 (i + 11))) (ad1 := (fun i => ad1 (i + 11))) (by decide) (by decide) e_y14) rfl rfl rfl rfl rfl rfl rfl rfl rfl rfl rfl rfl rfl rfl rfl (Nat.le_of_ble_eq_true rfl) ⟨Nat.le_of_ble_eq_true rfl, Nat.le_of_ble_eq_true rfl⟩ dX5_become_87 (fun _ => ?_)
  obtain ⟨m15, e_m15, h⟩ := x_lt_elim h
  refine a_nm (vs2 := [m15, v1]) (congrArg (fun q : XM => [q, v1]) e_m15) ?_
  refine a_aload_n (pc := 90) X 0 dX5_become_90 rfl rfl ?_
  refine a_getR (pc := 91) X 0 13 13 fl_RX5_39 rfl rfl rfl rfl rfl dX5_become_91 ?_
  refine a_aload_n (pc := 94) X 1 dX5_become_94 rfl rfl ?_
  refine a_getR (pc := 95) X 1 13 13 fl_RX5_39 rfl rfl rfl rfl rfl dX5_become_95 ?_
  obtain ⟨y16, e_y16, h⟩ := x_lt_elim h
  refine a_callV (pc := 98) (st2 := []) (vs2 := [x_put m15 13 2 y16, v1]) X [(0, 13, 2), (1, 13, 2)] [some y16, none] 0 13 3 [.ref (ad1 13)] [] cv_RX5_53 (ct_bec (ad0 := (fun i => ad0 (i + 13))) (ad1 := (fun i => ad1 (i + 13))) (by decide) (by decide) e_y16) rfl rfl rfl rfl rfl rfl rfl rfl rfl rfl rfl rfl rfl rfl rfl (Nat.le_of_ble_eq_true rfl) ⟨Nat.le_of_ble_eq_true rfl, Nat.le_of_ble_eq_true rfl⟩ dX5_become_98 (fun _ => ?_)
  obtain ⟨m17, e_m17, h⟩ := x_lt_elim h
  refine a_nm (vs2 := [m17, v1]) (congrArg (fun q : XM => [q, v1]) e_m17) ?_
  subst h
  exact a_vret (pc := 101) X trivial dX5_become_101
theorem dX2_costOf_0 : decode cX2_costOf 0 = .ok (.aload_n 0, 1) := by decide +kernel
theorem dX2_costOf_1 : decode cX2_costOf 1 = .ok (.iload_n 1, 1) := by decide +kernel
theorem dX2_costOf_2 : decode cX2_costOf 2 = .ok (.iload_n 2, 1) := by decide +kernel
theorem dX2_costOf_3 : decode cX2_costOf 3 = .ok (.invokevirtual 97, 3) := by decide +kernel
theorem dX2_costOf_6 : decode cX2_costOf 6 = .ok (.bipush 16, 2) := by decide +kernel
theorem dX2_costOf_8 : decode cX2_costOf 8 = .ok (.imul, 1) := by decide +kernel
theorem dX2_costOf_9 : decode cX2_costOf 9 = .ok (.iconst 1, 1) := by decide +kernel
theorem dX2_costOf_10 : decode cX2_costOf 10 = .ok (.iadd, 1) := by decide +kernel
theorem dX2_costOf_11 : decode cX2_costOf 11 = .ok (.ireturn, 1) := by decide +kernel
def f_X2_costOf (v0 : XM) (x1 : Int32) (x2 : Int32) : Option (Int32) :=
  x_bo (f_X10_hoursOn v0 x1 x2) (fun y1 =>
  some ((y1 * (16 : Int32)) + (1 : Int32) : Int32))
set_option maxRecDepth 100000 in
set_option maxHeartbeats 4000000 in
theorem c_X2_costOf {l : Launch}  {ad0 : Nat → Nat} {v0 : XM} {x1 : Int32} {x2 : Int32}  {o : Int32} (h : f_X2_costOf v0 x1 x2 = some o) : CT l yX2_costOf cX2_costOf 3 (some .int) 3 [(shWorld, ad0)] [v0] (fun aK => [.ref (ad0 0), .int x1, .int x2]) (some (.int o)) True [v0] := by
  refine CT_of (by decide) (fun _ => Nat.le_of_ble_eq_true rfl) ?_
  intro p e s m args below meth c D tc aK aV A X
  have X : Cx p s m args meth c cX2_costOf 3 (some .int) RX2 D tc aK aV A [(shWorld, ad0)] := X
  show aW p l e (x_Rm 3) s m args below meth c D tc A 3 [(shWorld, ad0)] (some (.int o)) True [v0] 0 [(0, .ref (ad0 0)), (1, .int x1), (2, .int x2)] [] [v0]
  unfold f_X2_costOf at h
  refine a_aload_n (pc := 0) X 0 dX2_costOf_0 rfl rfl ?_
  refine a_iload_n (pc := 1) X 1 dX2_costOf_1 rfl rfl ?_
  refine a_iload_n (pc := 2) X 2 dX2_costOf_2 rfl rfl ?_
  obtain ⟨y1, e_y1, h⟩ := x_bo_elim h
  refine a_callV (pc := 3) (st2 := [.int y1]) (vs2 := [v0]) X [(0, 0, 32)] [none] 0 0 10 [.int x1, .int x2] [] cv_RX2_97 (c_X10_hoursOn (ad0 := ad0)  e_y1) rfl rfl rfl rfl rfl rfl rfl rfl rfl rfl rfl rfl rfl rfl rfl (Nat.le_of_ble_eq_true rfl) ⟨Nat.le_of_ble_eq_true rfl, Nat.le_of_ble_eq_true rfl⟩ dX2_costOf_3 (fun _ => ?_)
  refine a_bipush (pc := 6) X dX2_costOf_6 q_bp_16 ?_
  refine a_imul (pc := 8) X dX2_costOf_8 ?_
  refine a_iconst (pc := 9) X dX2_costOf_9 q_ic_1 ?_
  refine a_iadd (pc := 10) X dX2_costOf_10 ?_
  have h := Option.some.inj h; subst h
  exact a_iret (pc := 11) X trivial dX2_costOf_11
theorem dX2_lower_0 : decode cX2_lower 0 = .ok (.aload_n 0, 1) := by decide +kernel
theorem dX2_lower_1 : decode cX2_lower 1 = .ok (.iload_n 1, 1) := by decide +kernel
theorem dX2_lower_2 : decode cX2_lower 2 = .ok (.invokevirtual 79, 3) := by decide +kernel
theorem dX2_lower_5 : decode cX2_lower 5 = .ok (.iload_n 3, 1) := by decide +kernel
theorem dX2_lower_6 : decode cX2_lower 6 = .ok (.iadd, 1) := by decide +kernel
theorem dX2_lower_7 : decode cX2_lower 7 = .ok (.istore 4, 2) := by decide +kernel
theorem dX2_lower_9 : decode cX2_lower 9 = .ok (.iload 4, 2) := by decide +kernel
theorem dX2_lower_11 : decode cX2_lower 11 = .ok (.aload_n 0, 1) := by decide +kernel
theorem dX2_lower_12 : decode cX2_lower 12 = .ok (.iload_n 2, 1) := by decide +kernel
theorem dX2_lower_13 : decode cX2_lower 13 = .ok (.invokevirtual 79, 3) := by decide +kernel
theorem dX2_lower_16 : decode cX2_lower 16 = .ok (.if_icmp .ge 10, 3) := by decide +kernel
theorem dX2_lower_19 : decode cX2_lower 19 = .ok (.aload_n 0, 1) := by decide +kernel
theorem dX2_lower_20 : decode cX2_lower 20 = .ok (.iload_n 2, 1) := by decide +kernel
theorem dX2_lower_21 : decode cX2_lower 21 = .ok (.iload 4, 2) := by decide +kernel
theorem dX2_lower_23 : decode cX2_lower 23 = .ok (.invokevirtual 52, 3) := by decide +kernel
theorem dX2_lower_26 : decode cX2_lower 26 = .ok (.return_, 1) := by decide +kernel
def f_X2_lower (v0 : XM) (x1 : Int32) (x2 : Int32) (x3 : Int32) : XM :=
  x_lt (r_get 8 v0 x1) (fun y1 =>
  x_lt (r_get 8 v0 x2) (fun y2 =>
  if (y2 : Int32) ≤ (y1 + x3) then
  (v0)
  else (x_lt (r_put 8 v0 x2 (y1 + x3)) (fun y3 =>
  y3))))
set_option maxRecDepth 100000 in
set_option maxHeartbeats 4000000 in
theorem c_X2_lower {l : Launch}  {ad0 : Nat → Nat} {v0 : XM} {x1 : Int32} {x2 : Int32} {x3 : Int32}  {o : XM} (h : f_X2_lower v0 x1 x2 x3 = o) : CT l yX2_lower cX2_lower 5 none 1 [((shRow 8), ad0)] [v0] (fun aK => [.ref (ad0 0), .int x1, .int x2, .int x3]) none True [o] := by
  refine CT_of (by decide) (fun _ => Nat.le_of_ble_eq_true rfl) ?_
  intro p e s m args below meth c D tc aK aV A X
  have X : Cx p s m args meth c cX2_lower 5 none RX2 D tc aK aV A [((shRow 8), ad0)] := X
  show aW p l e (x_Rm 1) s m args below meth c D tc A 5 [((shRow 8), ad0)] none True [o] 0 [(0, .ref (ad0 0)), (1, .int x1), (2, .int x2), (3, .int x3)] [] [v0]
  unfold f_X2_lower at h
  refine a_aload_n (pc := 0) X 0 dX2_lower_0 rfl rfl ?_
  refine a_iload_n (pc := 1) X 1 dX2_lower_1 rfl rfl ?_
  obtain ⟨y1, e_y1, h⟩ := x_lt_elim h
  refine a_callV (pc := 2) (st2 := [.int y1]) (vs2 := [v0]) X [(0, 0, 2)] [none] 0 0 3 [.int x1] [] cv_RX2_79 (ct_get (ad0 := ad0) (by decide) e_y1) rfl rfl rfl rfl rfl rfl rfl rfl rfl rfl rfl rfl rfl rfl rfl (Nat.le_of_ble_eq_true rfl) ⟨Nat.le_of_ble_eq_true rfl, Nat.le_of_ble_eq_true rfl⟩ dX2_lower_2 (fun _ => ?_)
  refine a_iload_n (pc := 5) X 3 dX2_lower_5 rfl rfl ?_
  refine a_iadd (pc := 6) X dX2_lower_6 ?_
  refine a_istore (pc := 7) X [(4, .int (y1 + x3)), (0, .ref (ad0 0)), (1, .int x1), (2, .int x2), (3, .int x3)] dX2_lower_7 (by decide) rfl ?_
  refine a_iload (pc := 9) X 0 dX2_lower_9 rfl ?_
  refine a_aload_n (pc := 11) X 1 dX2_lower_11 rfl rfl ?_
  refine a_iload_n (pc := 12) X 3 dX2_lower_12 rfl rfl ?_
  obtain ⟨y2, e_y2, h⟩ := x_lt_elim h
  refine a_callV (pc := 13) (st2 := [.int y2, .int (y1 + x3)]) (vs2 := [v0]) X [(0, 0, 2)] [none] 0 0 3 [.int x2] [.int (y1 + x3)] cv_RX2_79 (ct_get (ad0 := ad0) (by decide) e_y2) rfl rfl rfl rfl rfl rfl rfl rfl rfl rfl rfl rfl rfl rfl rfl (Nat.le_of_ble_eq_true rfl) ⟨Nat.le_of_ble_eq_true rfl, Nat.le_of_ble_eq_true rfl⟩ dX2_lower_13 (fun _ => ?_)
  refine a_icmp_ge (pc := 16) X 26 dX2_lower_16 rfl (fun c_16 => ?_) (fun c_16 => ?_)
  · have h := x_ifp c_16 h
    subst h
    exact a_vret (pc := 26) X trivial dX2_lower_26
  · have h := x_ifn c_16 h
    refine a_aload_n (pc := 19) X 1 dX2_lower_19 rfl rfl ?_
    refine a_iload_n (pc := 20) X 3 dX2_lower_20 rfl rfl ?_
    refine a_iload (pc := 21) X 0 dX2_lower_21 rfl ?_
    obtain ⟨y3, e_y3, h⟩ := x_lt_elim h
    refine a_callV (pc := 23) (st2 := []) (vs2 := [y3]) X [(0, 0, 2)] [some y3] 0 0 3 [.int x2, .int (y1 + x3)] [] cv_RX2_52 (ct_put (ad0 := ad0) (by decide) e_y3) rfl rfl rfl rfl rfl rfl rfl rfl rfl rfl rfl rfl rfl rfl rfl (Nat.le_of_ble_eq_true rfl) ⟨Nat.le_of_ble_eq_true rfl, Nat.le_of_ble_eq_true rfl⟩ dX2_lower_23 (fun _ => ?_)
    subst h
    exact a_vret (pc := 26) X trivial dX2_lower_26
