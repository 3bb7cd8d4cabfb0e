-- model: functional forms and contracts, written by wip/whole/gen.py out of the bytecode.
theorem dX12_way_0 : decode cX12_way 0 = .ok (.aload_n 0, 1) := by decide +kernel
theorem dX12_way_1 : decode cX12_way 1 = .ok (.iconst 0, 1) := by decide +kernel
theorem dX12_way_2 : decode cX12_way 2 = .ok (.putfield 1, 3) := by decide +kernel
theorem dX12_way_5 : decode cX12_way 5 = .ok (.aload_n 0, 1) := by decide +kernel
theorem dX12_way_6 : decode cX12_way 6 = .ok (.iload_n 1, 1) := by decide +kernel
theorem dX12_way_7 : decode cX12_way 7 = .ok (.invokevirtual 327, 3) := by decide +kernel
theorem dX12_way_10 : decode cX12_way 10 = .ok (.ifCond .eq 11, 3) := by decide +kernel
theorem dX12_way_13 : decode cX12_way 13 = .ok (.aload_n 0, 1) := by decide +kernel
theorem dX12_way_14 : decode cX12_way 14 = .ok (.iload_n 2, 1) := by decide +kernel
theorem dX12_way_15 : decode cX12_way 15 = .ok (.invokevirtual 286, 3) := by decide +kernel
theorem dX12_way_18 : decode cX12_way 18 = .ok (.ifCond .ne 5, 3) := by decide +kernel
theorem dX12_way_21 : decode cX12_way 21 = .ok (.iconst (-1), 1) := by decide +kernel
theorem dX12_way_22 : decode cX12_way 22 = .ok (.ireturn, 1) := by decide +kernel
theorem dX12_way_23 : decode cX12_way 23 = .ok (.aload_n 0, 1) := by decide +kernel
theorem dX12_way_24 : decode cX12_way 24 = .ok (.iload_n 2, 1) := by decide +kernel
theorem dX12_way_25 : decode cX12_way 25 = .ok (.aload_n 0, 1) := by decide +kernel
theorem dX12_way_26 : decode cX12_way 26 = .ok (.getfield 98, 3) := by decide +kernel
theorem dX12_way_29 : decode cX12_way 29 = .ok (.bipush 65, 2) := by decide +kernel
theorem dX12_way_31 : decode cX12_way 31 = .ok (.iload_n 1, 1) := by decide +kernel
theorem dX12_way_32 : decode cX12_way 32 = .ok (.iadd, 1) := by decide +kernel
theorem dX12_way_33 : decode cX12_way 33 = .ok (.iaload, 1) := by decide +kernel
theorem dX12_way_34 : decode cX12_way 34 = .ok (.invokevirtual 264, 3) := by decide +kernel
theorem dX12_way_37 : decode cX12_way 37 = .ok (.aload_n 0, 1) := by decide +kernel
theorem dX12_way_38 : decode cX12_way 38 = .ok (.getfield 98, 3) := by decide +kernel
theorem dX12_way_41 : decode cX12_way 41 = .ok (.bipush 74, 2) := by decide +kernel
theorem dX12_way_43 : decode cX12_way 43 = .ok (.iload_n 1, 1) := by decide +kernel
theorem dX12_way_44 : decode cX12_way 44 = .ok (.iadd, 1) := by decide +kernel
theorem dX12_way_45 : decode cX12_way 45 = .ok (.iaload, 1) := by decide +kernel
theorem dX12_way_46 : decode cX12_way 46 = .ok (.istore_n 3, 1) := by decide +kernel
theorem dX12_way_47 : decode cX12_way 47 = .ok (.aload_n 0, 1) := by decide +kernel
theorem dX12_way_48 : decode cX12_way 48 = .ok (.iload_n 3, 1) := by decide +kernel
theorem dX12_way_49 : decode cX12_way 49 = .ok (.invokevirtual 268, 3) := by decide +kernel
theorem dX12_way_52 : decode cX12_way 52 = .ok (.istore 4, 2) := by decide +kernel
theorem dX12_way_54 : decode cX12_way 54 = .ok (.iload 4, 2) := by decide +kernel
theorem dX12_way_56 : decode cX12_way 56 = .ok (.ldc_w 256, 3) := by decide +kernel
theorem dX12_way_59 : decode cX12_way 59 = .ok (.if_icmp .ne 5, 3) := by decide +kernel
theorem dX12_way_62 : decode cX12_way 62 = .ok (.iconst (-1), 1) := by decide +kernel
theorem dX12_way_63 : decode cX12_way 63 = .ok (.ireturn, 1) := by decide +kernel
theorem dX12_way_64 : decode cX12_way 64 = .ok (.aload_n 0, 1) := by decide +kernel
theorem dX12_way_65 : decode cX12_way 65 = .ok (.iconst 0, 1) := by decide +kernel
theorem dX12_way_66 : decode cX12_way 66 = .ok (.putfield 330, 3) := by decide +kernel
theorem dX12_way_69 : decode cX12_way 69 = .ok (.iload_n 3, 1) := by decide +kernel
theorem dX12_way_70 : decode cX12_way 70 = .ok (.iload_n 2, 1) := by decide +kernel
theorem dX12_way_71 : decode cX12_way 71 = .ok (.if_icmp .eq 69, 3) := by decide +kernel
theorem dX12_way_74 : decode cX12_way 74 = .ok (.iconst 0, 1) := by decide +kernel
theorem dX12_way_75 : decode cX12_way 75 = .ok (.istore 5, 2) := by decide +kernel
theorem dX12_way_77 : decode cX12_way 77 = .ok (.aload_n 0, 1) := by decide +kernel
theorem dX12_way_78 : decode cX12_way 78 = .ok (.iload 5, 2) := by decide +kernel
theorem dX12_way_80 : decode cX12_way 80 = .ok (.iload_n 3, 1) := by decide +kernel
theorem dX12_way_81 : decode cX12_way 81 = .ok (.aload_n 0, 1) := by decide +kernel
theorem dX12_way_82 : decode cX12_way 82 = .ok (.getfield 98, 3) := by decide +kernel
theorem dX12_way_85 : decode cX12_way 85 = .ok (.bipush 65, 2) := by decide +kernel
theorem dX12_way_87 : decode cX12_way 87 = .ok (.iload_n 1, 1) := by decide +kernel
theorem dX12_way_88 : decode cX12_way 88 = .ok (.iadd, 1) := by decide +kernel
theorem dX12_way_89 : decode cX12_way 89 = .ok (.iaload, 1) := by decide +kernel
theorem dX12_way_90 : decode cX12_way 90 = .ok (.invokevirtual 260, 3) := by decide +kernel
theorem dX12_way_93 : decode cX12_way 93 = .ok (.aload_n 0, 1) := by decide +kernel
theorem dX12_way_94 : decode cX12_way 94 = .ok (.getfield 127, 3) := by decide +kernel
theorem dX12_way_97 : decode cX12_way 97 = .ok (.iload_n 3, 1) := by decide +kernel
theorem dX12_way_98 : decode cX12_way 98 = .ok (.iaload, 1) := by decide +kernel
theorem dX12_way_99 : decode cX12_way 99 = .ok (.if_icmp .eq 9, 3) := by decide +kernel
theorem dX12_way_102 : decode cX12_way 102 = .ok (.iinc 5 1, 3) := by decide +kernel
theorem dX12_way_105 : decode cX12_way 105 = .ok (.goto (-28), 3) := by decide +kernel
theorem dX12_way_108 : decode cX12_way 108 = .ok (.aload_n 0, 1) := by decide +kernel
theorem dX12_way_109 : decode cX12_way 109 = .ok (.getfield 130, 3) := by decide +kernel
theorem dX12_way_112 : decode cX12_way 112 = .ok (.aload_n 0, 1) := by decide +kernel
theorem dX12_way_113 : decode cX12_way 113 = .ok (.getfield 330, 3) := by decide +kernel
theorem dX12_way_116 : decode cX12_way 116 = .ok (.iload 5, 2) := by decide +kernel
theorem dX12_way_118 : decode cX12_way 118 = .ok (.iastore, 1) := by decide +kernel
theorem dX12_way_119 : decode cX12_way 119 = .ok (.aload_n 0, 1) := by decide +kernel
theorem dX12_way_120 : decode cX12_way 120 = .ok (.dup, 1) := by decide +kernel
theorem dX12_way_121 : decode cX12_way 121 = .ok (.getfield 330, 3) := by decide +kernel
theorem dX12_way_124 : decode cX12_way 124 = .ok (.iconst 1, 1) := by decide +kernel
theorem dX12_way_125 : decode cX12_way 125 = .ok (.iadd, 1) := by decide +kernel
theorem dX12_way_126 : decode cX12_way 126 = .ok (.putfield 330, 3) := by decide +kernel
theorem dX12_way_129 : decode cX12_way 129 = .ok (.aload_n 0, 1) := by decide +kernel
theorem dX12_way_130 : decode cX12_way 130 = .ok (.iload 5, 2) := by decide +kernel
theorem dX12_way_132 : decode cX12_way 132 = .ok (.iload_n 3, 1) := by decide +kernel
theorem dX12_way_133 : decode cX12_way 133 = .ok (.invokevirtual 252, 3) := by decide +kernel
theorem dX12_way_136 : decode cX12_way 136 = .ok (.istore_n 3, 1) := by decide +kernel
theorem dX12_way_137 : decode cX12_way 137 = .ok (.goto (-68), 3) := by decide +kernel
theorem dX12_way_140 : decode cX12_way 140 = .ok (.iload 4, 2) := by decide +kernel
theorem dX12_way_142 : decode cX12_way 142 = .ok (.ireturn, 1) := by decide +kernel
def f_X12_way_77 (k69 : XM → Int32 → Int32 → Int32 → Int32 → Option (Int32 × XM)) (k77 : XM → Int32 → Int32 → Int32 → Int32 → Int32 → Option (Int32 × XM)) (w0 : XM) (l1 : Int32) (l2 : Int32) (l3 : Int32) (l4 : Int32) (l5 : Int32) : Option (Int32 × XM) :=
  x_ck ((65 : Int32) + l1) 353 (
  x_bo (f_X12_farBy w0 l5 l3 (x_ga w0 2 ((65 : Int32) + l1))) (fun y1 =>
  x_ck l3 8 (
  if (y1 : Int32) = (x_ga w0 11 l3) then
  (x_ck (w0.1 0 27) 8 (
  x_lt (x_pa w0 12 (w0.1 0 27) l5) (fun m2 =>
  x_lt (x_si m2 0 27 ((m2.1 0 27) + (1 : Int32))) (fun m3 =>
  x_bo (f_X12_otherEnd m3 l5 l3) (fun y4 =>
  k69 m3 l1 l2 y4 l4)))))
  else (k77 w0 l1 l2 l3 l4 (l5 + 1)))))
def f_X12_way_69 (k69 : XM → Int32 → Int32 → Int32 → Int32 → Option (Int32 × XM)) (w0 : XM) (l1 : Int32) (l2 : Int32) (l3 : Int32) (l4 : Int32) : Option (Int32 × XM) :=
  if (l3 : Int32) = l2 then
  (some (l4, w0))
  else (x_lp (φ := XM → Int32 → Int32 → Int32 → Int32 → Int32 → Option (Int32 × XM)) (fun _ _ _ _ _ _ => none) (f_X12_way_77  k69) x_NN w0 l1 l2 l3 l4 (0 : Int32))
def f_X12_way (v0 : XM) (x0 : Int32) (x1 : Int32) : Option (Int32 × XM) :=
  x_lt (x_si v0 0 0 (0 : Int32)) (fun m5 =>
  x_bo (f_X12_isStill m5 x0) (fun y6 =>
  if y6 = (0 : Int32) then
  (some ((-1 : Int32), m5))
  else (x_lt (f_X12_isSpot m5 x1) (fun y7 =>
  if y7 = (0 : Int32) then
  (some ((-1 : Int32), m5))
  else (x_ck ((65 : Int32) + x0) 353 (
  x_bo (f_X12_layFar m5 x1 (x_ga m5 2 ((65 : Int32) + x0))) (fun y8 =>
  x_ck ((74 : Int32) + x0) 353 (
  x_lt (x_ga y8 2 ((74 : Int32) + x0)) (fun y9 =>
  x_bo (f_X12_hoursFrom y8 y9) (fun y10 =>
  if (y10 : Int32) = (100000 : Int32) then
  (some ((-1 : Int32), y8))
  else (x_lt (x_si y8 0 27 (0 : Int32)) (fun m11 =>
  x_lp (φ := XM → Int32 → Int32 → Int32 → Int32 → Option (Int32 × XM)) (fun _ _ _ _ _ => none) (f_X12_way_69  ) x_NN m11 x0 x1 y9 y10))))))))))))
set_option maxRecDepth 100000 in
set_option maxHeartbeats 4000000 in
theorem w_X12_way_77 {p : Program} {l : Launch} {e : Env} {s : State} {m : MethodId} {args : Array Value} {below : List Frame} {meth : Method} {c : Code} {D : va_G} {tc : Nat → ClassId} {aK aV : Nat → Nat} {A : Nat → Prop} {ad0 : Nat → Nat}  (X : Cx p s m args meth c cX12_way 6 (some .int) RX12 D tc aK aV A [(shModel, ad0)])  {o : Int32 × XM} {k69 : XM → Int32 → Int32 → Int32 → Int32 → Option (Int32 × XM)} (hk69 : ∀ (w0 : XM) (l1 : Int32) (l2 : Int32) (l3 : Int32) (l4 : Int32), k69 w0 l1 l2 l3 l4 = some o → aW p l e (x_Rm 6) s m args below meth c D tc A 6 [(shModel, ad0)] (some (.int o.1)) True [o.2] 69 [(0, .ref (ad0 0)), (1, .int l1), (2, .int l2), (3, .int l3), (4, .int l4)] [] [w0]) : ∀ (n : Nat), ∀ (w0 : XM) (l1 : Int32) (l2 : Int32) (l3 : Int32) (l4 : Int32) (l5 : Int32), x_lp (φ := XM → Int32 → Int32 → Int32 → Int32 → Int32 → Option (Int32 × XM)) (fun _ _ _ _ _ _ => none) (f_X12_way_77  k69) n w0 l1 l2 l3 l4 l5 = some o → aW p l e (x_Rm 6) s m args below meth c D tc A 6 [(shModel, ad0)] (some (.int o.1)) True [o.2] 77 [(0, .ref (ad0 0)), (1, .int l1), (2, .int l2), (3, .int l3), (4, .int l4), (5, .int l5)] [] [w0] := by
  intro n
  induction n with
  | zero => intro w0 l1 l2 l3 l4 l5 h; exact absurd h (fun q => by cases q)
  | succ n ih =>
    intro w0 l1 l2 l3 l4 l5 h
    have h : f_X12_way_77  k69 (x_lp (φ := XM → Int32 → Int32 → Int32 → Int32 → Int32 → Option (Int32 × XM)) (fun _ _ _ _ _ _ => none) (f_X12_way_77  k69) n) w0 l1 l2 l3 l4 l5 = some o := h
    generalize x_lp (φ := XM → Int32 → Int32 → Int32 → Int32 → Int32 → Option (Int32 × XM)) (fun _ _ _ _ _ _ => none) (f_X12_way_77  k69) n = k77 at h ih
    have hk77 := ih
    unfold f_X12_way_77 at h
    refine a_aload_n (pc := 77) X 0 dX12_way_77 rfl rfl ?_
    refine a_iload (pc := 78) X 5 dX12_way_78 rfl ?_
    refine a_iload_n (pc := 80) X 3 dX12_way_80 rfl rfl ?_
    refine a_aload_n (pc := 81) X 0 dX12_way_81 rfl rfl ?_
    refine a_getR (pc := 82) X 0 2 2 fl_RX12_98 rfl rfl rfl rfl rfl dX12_way_82 ?_
    refine a_bipush (pc := 85) X dX12_way_85 q_bp_65 ?_
    refine a_iload_n (pc := 87) X 1 dX12_way_87 rfl rfl ?_
    refine a_iadd (pc := 88) X dX12_way_88 ?_
    obtain ⟨c_89, h⟩ := x_ck_elim h
    refine a_iald (pc := 89) X 0 rfl rfl rfl c_89 dX12_way_89 ?_
    obtain ⟨y1, e_y1, h⟩ := x_bo_elim h
    refine a_callV (pc := 90) (st2 := [.int y1]) (vs2 := [w0]) X [(0, 0, 20)] [none] 0 0 12 [.int l5, .int l3, .int (x_ga w0 2 ((65 : Int32) + l1))] [] cv_RX12_260 (c_X12_farBy (ad0 := ad0)  e_y1) rfl rfl rfl rfl rfl rfl rfl rfl rfl rfl rfl rfl rfl rfl rfl (Nat.le_of_ble_eq_true rfl) ⟨Nat.le_of_ble_eq_true rfl, Nat.le_of_ble_eq_true rfl⟩ dX12_way_90 (fun _ => ?_)
    refine a_aload_n (pc := 93) X 0 dX12_way_93 rfl rfl ?_
    refine a_getR (pc := 94) X 0 11 11 fl_RX12_127 rfl rfl rfl rfl rfl dX12_way_94 ?_
    refine a_iload_n (pc := 97) X 3 dX12_way_97 rfl rfl ?_
    obtain ⟨c_98, h⟩ := x_ck_elim h
    refine a_iald (pc := 98) X 0 rfl rfl rfl c_98 dX12_way_98 ?_
    refine a_icmp_eq (pc := 99) X 108 dX12_way_99 rfl (fun c_99 => ?_) (fun c_99 => ?_)
    · have h := x_ifp c_99 h
      refine a_aload_n (pc := 108) X 0 dX12_way_108 rfl rfl ?_
      refine a_getR (pc := 109) X 0 12 12 fl_RX12_130 rfl rfl rfl rfl rfl dX12_way_109 ?_
      refine a_aload_n (pc := 112) X 0 dX12_way_112 rfl rfl ?_
      refine a_getI (pc := 113) X 0 fl_RX12_330 rfl rfl rfl rfl dX12_way_113 ?_
      refine a_iload (pc := 116) X 5 dX12_way_116 rfl ?_
      obtain ⟨c_118, h⟩ := x_ck_elim h
      refine a_iast (pc := 118) X 0 rfl rfl rfl c_118 dX12_way_118 ?_
      obtain ⟨m2, e_m2, h⟩ := x_lt_elim h
      refine a_nm (vs2 := [m2]) (congrArg (fun q : XM => [q]) e_m2) ?_
      refine a_aload_n (pc := 119) X 0 dX12_way_119 rfl rfl ?_
      refine a_dup (pc := 120) X dX12_way_120 rfl ?_
      refine a_getI (pc := 121) X 0 fl_RX12_330 rfl rfl rfl rfl dX12_way_121 ?_
      refine a_iconst (pc := 124) X dX12_way_124 q_ic_1 ?_
      refine a_iadd (pc := 125) X dX12_way_125 ?_
      refine a_putI (pc := 126) X 0 fl_RX12_330 rfl rfl rfl rfl dX12_way_126 ?_
      obtain ⟨m3, e_m3, h⟩ := x_lt_elim h
      refine a_nm (vs2 := [m3]) (congrArg (fun q : XM => [q]) e_m3) ?_
      refine a_aload_n (pc := 129) X 0 dX12_way_129 rfl rfl ?_
      refine a_iload (pc := 130) X 5 dX12_way_130 rfl ?_
      refine a_iload_n (pc := 132) X 3 dX12_way_132 rfl rfl ?_
      obtain ⟨y4, e_y4, h⟩ := x_bo_elim h
      refine a_callV (pc := 133) (st2 := [.int y4]) (vs2 := [m3]) X [(0, 0, 20)] [none] 0 0 12 [.int l5, .int l3] [] cv_RX12_252 (c_X12_otherEnd (ad0 := ad0)  e_y4) rfl rfl rfl rfl rfl rfl rfl rfl rfl rfl rfl rfl rfl rfl rfl (Nat.le_of_ble_eq_true rfl) ⟨Nat.le_of_ble_eq_true rfl, Nat.le_of_ble_eq_true rfl⟩ dX12_way_133 (fun _ => ?_)
      refine a_istore_n (pc := 136) X [(3, .int y4), (0, .ref (ad0 0)), (1, .int l1), (2, .int l2), (4, .int l4), (5, .int l5)] dX12_way_136 rfl (by decide) rfl ?_
      refine a_goto (pc := 137) X 69 dX12_way_137 rfl ?_
      refine a_sub [1, 2, 3, 0, 4] rfl ?_
      exact hk69 _ _ _ _ _ h
    · have h := x_ifn c_99 h
      refine a_iinc (pc := 102) X 5 [(5, .int (l5 + 1)), (0, .ref (ad0 0)), (1, .int l1), (2, .int l2), (3, .int l3), (4, .int l4)] dX12_way_102 rfl (congrArg (HAdd.hAdd l5) q_ic_1) (by decide) rfl ?_
      refine a_goto (pc := 105) X 77 dX12_way_105 rfl ?_
      refine a_sub [1, 2, 3, 4, 5, 0] rfl ?_
      exact hk77 _ _ _ _ _ _ h
set_option maxRecDepth 100000 in
set_option maxHeartbeats 4000000 in
theorem w_X12_way_69 {p : Program} {l : Launch} {e : Env} {s : State} {m : MethodId} {args : Array Value} {below : List Frame} {meth : Method} {c : Code} {D : va_G} {tc : Nat → ClassId} {aK aV : Nat → Nat} {A : Nat → Prop} {ad0 : Nat → Nat}  (X : Cx p s m args meth c cX12_way 6 (some .int) RX12 D tc aK aV A [(shModel, ad0)])  {o : Int32 × XM}  : ∀ (n : Nat), ∀ (w0 : XM) (l1 : Int32) (l2 : Int32) (l3 : Int32) (l4 : Int32), x_lp (φ := XM → Int32 → Int32 → Int32 → Int32 → Option (Int32 × XM)) (fun _ _ _ _ _ => none) (f_X12_way_69  ) n w0 l1 l2 l3 l4 = some o → aW p l e (x_Rm 6) s m args below meth c D tc A 6 [(shModel, ad0)] (some (.int o.1)) True [o.2] 69 [(0, .ref (ad0 0)), (1, .int l1), (2, .int l2), (3, .int l3), (4, .int l4)] [] [w0] := by
  intro n
  induction n with
  | zero => intro w0 l1 l2 l3 l4 h; exact absurd h (fun q => by cases q)
  | succ n ih =>
    intro w0 l1 l2 l3 l4 h
    have h : f_X12_way_69   (x_lp (φ := XM → Int32 → Int32 → Int32 → Int32 → Option (Int32 × XM)) (fun _ _ _ _ _ => none) (f_X12_way_69  ) n) w0 l1 l2 l3 l4 = some o := h
    generalize x_lp (φ := XM → Int32 → Int32 → Int32 → Int32 → Option (Int32 × XM)) (fun _ _ _ _ _ => none) (f_X12_way_69  ) n = k69 at h ih
    have hk69 := ih
    unfold f_X12_way_69 at h
    refine a_iload_n (pc := 69) X 3 dX12_way_69 rfl rfl ?_
    refine a_iload_n (pc := 70) X 2 dX12_way_70 rfl rfl ?_
    refine a_icmp_eq (pc := 71) X 140 dX12_way_71 rfl (fun c_71 => ?_) (fun c_71 => ?_)
    · have h := x_ifp c_71 h
      refine a_iload (pc := 140) X 4 dX12_way_140 rfl ?_
      have h := Option.some.inj h; subst h
      exact a_iret (pc := 142) X trivial dX12_way_142
    · have h := x_ifn c_71 h
      refine a_iconst (pc := 74) X dX12_way_74 q_ic_0 ?_
      refine a_istore (pc := 75) X [(5, .int (0 : Int32)), (0, .ref (ad0 0)), (1, .int l1), (2, .int l2), (3, .int l3), (4, .int l4)] dX12_way_75 (by decide) rfl ?_
      refine a_sub [1, 2, 3, 4, 5, 0] rfl ?_
      exact w_X12_way_77 X   hk69 x_NN _ _ _ _ _ _ h
set_option maxRecDepth 100000 in
set_option maxHeartbeats 4000000 in
theorem c_X12_way {l : Launch}  {ad0 : Nat → Nat} {v0 : XM} {x0 : Int32} {x1 : Int32}  {o : Int32 × XM} (h : f_X12_way v0 x0 x1 = some o) : CT l yX12_way cX12_way 6 (some .int) 6 [(shModel, ad0)] [v0] (fun aK => [.ref (ad0 0), .int x0, .int x1]) (some (.int o.1)) True [o.2] := by
  refine CT_of (by decide) (fun _ => Nat.le_of_ble_eq_true rfl) ?_
  intro p e s m args below meth c D tc aK aV A X
  have X : Cx p s m args meth c cX12_way 6 (some .int) RX12 D tc aK aV A [(shModel, ad0)] := X
  show aW p l e (x_Rm 6) s m args below meth c D tc A 6 [(shModel, ad0)] (some (.int o.1)) True [o.2] 0 [(0, .ref (ad0 0)), (1, .int x0), (2, .int x1)] [] [v0]
  unfold f_X12_way at h
  refine a_aload_n (pc := 0) X 0 dX12_way_0 rfl rfl ?_
  refine a_iconst (pc := 1) X dX12_way_1 q_ic_0 ?_
  refine a_putI (pc := 2) X 0 fl_RX12_1 rfl rfl rfl rfl dX12_way_2 ?_
  obtain ⟨m5, e_m5, h⟩ := x_lt_elim h
  refine a_nm (vs2 := [m5]) (congrArg (fun q : XM => [q]) e_m5) ?_
  refine a_aload_n (pc := 5) X 0 dX12_way_5 rfl rfl ?_
  refine a_iload_n (pc := 6) X 1 dX12_way_6 rfl rfl ?_
  obtain ⟨y6, e_y6, h⟩ := x_bo_elim h
  refine a_callV (pc := 7) (st2 := [.int y6]) (vs2 := [m5]) X [(0, 0, 20)] [none] 0 0 12 [.int x0] [] cv_RX12_327 (c_X12_isStill (ad0 := ad0)  e_y6) rfl rfl rfl rfl rfl rfl rfl rfl rfl rfl rfl rfl rfl rfl rfl (Nat.le_of_ble_eq_true rfl) ⟨Nat.le_of_ble_eq_true rfl, Nat.le_of_ble_eq_true rfl⟩ dX12_way_7 (fun z_7 => ?_)
  refine a_if_eq (pc := 10) X 21 dX12_way_10 rfl (fun c_10 => ?_) (fun c_10 => ?_)
  · have h := x_ifp c_10 h
    refine a_iconst (pc := 21) X dX12_way_21 q_ic_m1 ?_
    have h := Option.some.inj h; subst h
    exact a_iret (pc := 22) X trivial dX12_way_22
  · have h := x_ifn c_10 h
    refine a_aload_n (pc := 13) X 0 dX12_way_13 rfl rfl ?_
    refine a_iload_n (pc := 14) X 2 dX12_way_14 rfl rfl ?_
    obtain ⟨y7, e_y7, h⟩ := x_lt_elim h
    refine a_callV (pc := 15) (st2 := [.int y7]) (vs2 := [m5]) X [(0, 0, 20)] [none] 0 0 12 [.int x1] [] cv_RX12_286 (c_X12_isSpot (ad0 := ad0)  e_y7) rfl rfl rfl rfl rfl rfl rfl rfl rfl rfl rfl rfl rfl rfl rfl (Nat.le_of_ble_eq_true rfl) ⟨Nat.le_of_ble_eq_true rfl, Nat.le_of_ble_eq_true rfl⟩ dX12_way_15 (fun z_15 => ?_)
    refine a_if_ne (pc := 18) X 23 dX12_way_18 rfl (fun c_18 => ?_) (fun c_18 => ?_)
    · have h := x_ifn c_18 h
      refine a_aload_n (pc := 23) X 0 dX12_way_23 rfl rfl ?_
      refine a_iload_n (pc := 24) X 2 dX12_way_24 rfl rfl ?_
      refine a_aload_n (pc := 25) X 0 dX12_way_25 rfl rfl ?_
      refine a_getR (pc := 26) X 0 2 2 fl_RX12_98 rfl rfl rfl rfl rfl dX12_way_26 ?_
      refine a_bipush (pc := 29) X dX12_way_29 q_bp_65 ?_
      refine a_iload_n (pc := 31) X 1 dX12_way_31 rfl rfl ?_
      refine a_iadd (pc := 32) X dX12_way_32 ?_
      obtain ⟨c_33, h⟩ := x_ck_elim h
      refine a_iald (pc := 33) X 0 rfl rfl rfl c_33 dX12_way_33 ?_
      obtain ⟨y8, e_y8, h⟩ := x_bo_elim h
      refine a_callV (pc := 34) (st2 := []) (vs2 := [y8]) X [(0, 0, 20)] [some y8] 0 0 12 [.int x1, .int (x_ga m5 2 ((65 : Int32) + x0))] [] cv_RX12_264 (c_X12_layFar (ad0 := ad0)  e_y8) rfl rfl rfl rfl rfl rfl rfl rfl rfl rfl rfl rfl rfl rfl rfl (Nat.le_of_ble_eq_true rfl) ⟨Nat.le_of_ble_eq_true rfl, Nat.le_of_ble_eq_true rfl⟩ dX12_way_34 (fun _ => ?_)
      refine a_aload_n (pc := 37) X 0 dX12_way_37 rfl rfl ?_
      refine a_getR (pc := 38) X 0 2 2 fl_RX12_98 rfl rfl rfl rfl rfl dX12_way_38 ?_
      refine a_bipush (pc := 41) X dX12_way_41 q_bp_74 ?_
      refine a_iload_n (pc := 43) X 1 dX12_way_43 rfl rfl ?_
      refine a_iadd (pc := 44) X dX12_way_44 ?_
      obtain ⟨c_45, h⟩ := x_ck_elim h
      refine a_iald (pc := 45) X 0 rfl rfl rfl c_45 dX12_way_45 ?_
      obtain ⟨y9, e_y9, h⟩ := x_lt_elim h
      refine a_ni e_y9 ?_
      refine a_istore_n (pc := 46) X [(3, .int y9), (0, .ref (ad0 0)), (1, .int x0), (2, .int x1)] dX12_way_46 rfl (by decide) rfl ?_
      refine a_aload_n (pc := 47) X 1 dX12_way_47 rfl rfl ?_
      refine a_iload_n (pc := 48) X 0 dX12_way_48 rfl rfl ?_
      obtain ⟨y10, e_y10, h⟩ := x_bo_elim h
      refine a_callV (pc := 49) (st2 := [.int y10]) (vs2 := [y8]) X [(0, 0, 20)] [none] 0 0 12 [.int y9] [] cv_RX12_268 (c_X12_hoursFrom (ad0 := ad0)  e_y10) rfl rfl rfl rfl rfl rfl rfl rfl rfl rfl rfl rfl rfl rfl rfl (Nat.le_of_ble_eq_true rfl) ⟨Nat.le_of_ble_eq_true rfl, Nat.le_of_ble_eq_true rfl⟩ dX12_way_49 (fun _ => ?_)
      refine a_istore (pc := 52) X [(4, .int y10), (3, .int y9), (0, .ref (ad0 0)), (1, .int x0), (2, .int x1)] dX12_way_52 (by decide) rfl ?_
      refine a_iload (pc := 54) X 0 dX12_way_54 rfl ?_
      refine a_ldcw (pc := 56) X kc_RX12_256 dX12_way_56 ?_
      refine a_icmp_ne (pc := 59) X 64 dX12_way_59 rfl (fun c_59 => ?_) (fun c_59 => ?_)
      · have h := x_ifn c_59 h
        refine a_aload_n (pc := 64) X 2 dX12_way_64 rfl rfl ?_
        refine a_iconst (pc := 65) X dX12_way_65 q_ic_0 ?_
        refine a_putI (pc := 66) X 0 fl_RX12_330 rfl rfl rfl rfl dX12_way_66 ?_
        obtain ⟨m11, e_m11, h⟩ := x_lt_elim h
        refine a_nm (vs2 := [m11]) (congrArg (fun q : XM => [q]) e_m11) ?_
        refine a_sub [2, 3, 4, 1, 0] rfl ?_
        exact w_X12_way_69 X    x_NN _ _ _ _ _ h
      · have h := x_ifp c_59 h
        refine a_iconst (pc := 62) X dX12_way_62 q_ic_m1 ?_
        have h := Option.some.inj h; subst h
        exact a_iret (pc := 63) X trivial dX12_way_63
    · have h := x_ifp c_18 h
      refine a_iconst (pc := 21) X dX12_way_21 q_ic_m1 ?_
      have h := Option.some.inj h; subst h
      exact a_iret (pc := 22) X trivial dX12_way_22
theorem dX12_wayAt_0 : decode cX12_wayAt 0 = .ok (.aload_n 0, 1) := by decide +kernel
theorem dX12_wayAt_1 : decode cX12_wayAt 1 = .ok (.iconst 0, 1) := by decide +kernel
theorem dX12_wayAt_2 : decode cX12_wayAt 2 = .ok (.putfield 1, 3) := by decide +kernel
theorem dX12_wayAt_5 : decode cX12_wayAt 5 = .ok (.iload_n 1, 1) := by decide +kernel
theorem dX12_wayAt_6 : decode cX12_wayAt 6 = .ok (.iconst 0, 1) := by decide +kernel
theorem dX12_wayAt_7 : decode cX12_wayAt 7 = .ok (.aload_n 0, 1) := by decide +kernel
theorem dX12_wayAt_8 : decode cX12_wayAt 8 = .ok (.getfield 330, 3) := by decide +kernel
theorem dX12_wayAt_11 : decode cX12_wayAt 11 = .ok (.iconst 1, 1) := by decide +kernel
theorem dX12_wayAt_12 : decode cX12_wayAt 12 = .ok (.isub, 1) := by decide +kernel
theorem dX12_wayAt_13 : decode cX12_wayAt 13 = .ok (.invokestatic 75, 3) := by decide +kernel
theorem dX12_wayAt_16 : decode cX12_wayAt 16 = .ok (.ifCond .eq 12, 3) := by decide +kernel
theorem dX12_wayAt_19 : decode cX12_wayAt 19 = .ok (.aload_n 0, 1) := by decide +kernel
theorem dX12_wayAt_20 : decode cX12_wayAt 20 = .ok (.getfield 130, 3) := by decide +kernel
theorem dX12_wayAt_23 : decode cX12_wayAt 23 = .ok (.iload_n 1, 1) := by decide +kernel
theorem dX12_wayAt_24 : decode cX12_wayAt 24 = .ok (.iaload, 1) := by decide +kernel
theorem dX12_wayAt_25 : decode cX12_wayAt 25 = .ok (.goto 4, 3) := by decide +kernel
theorem dX12_wayAt_28 : decode cX12_wayAt 28 = .ok (.iconst (-1), 1) := by decide +kernel
theorem dX12_wayAt_29 : decode cX12_wayAt 29 = .ok (.ireturn, 1) := by decide +kernel
def f_X12_wayAt (v0 : XM) (x0 : Int32) : Option (Int32 × XM) :=
  x_lt (x_si v0 0 0 (0 : Int32)) (fun m1 =>
  x_lt (f_X12_isIn x0 (0 : Int32) ((m1.1 0 27) - (1 : Int32))) (fun y2 =>
  if y2 = (0 : Int32) then
  (some ((-1 : Int32), m1))
  else (x_ck x0 8 (
  some (x_ga m1 12 x0, m1)))))
set_option maxRecDepth 100000 in
set_option maxHeartbeats 4000000 in
theorem c_X12_wayAt {l : Launch}  {ad0 : Nat → Nat} {v0 : XM} {x0 : Int32}  {o : Int32 × XM} (h : f_X12_wayAt v0 x0 = some o) : CT l yX12_wayAt cX12_wayAt 2 (some .int) 1 [(shModel, ad0)] [v0] (fun aK => [.ref (ad0 0), .int x0]) (some (.int o.1)) True [o.2] := by
  refine CT_of (by decide) (fun _ => Nat.le_of_ble_eq_true rfl) ?_
  intro p e s m args below meth c D tc aK aV A X
  have X : Cx p s m args meth c cX12_wayAt 2 (some .int) RX12 D tc aK aV A [(shModel, ad0)] := X
  show aW p l e (x_Rm 1) s m args below meth c D tc A 2 [(shModel, ad0)] (some (.int o.1)) True [o.2] 0 [(0, .ref (ad0 0)), (1, .int x0)] [] [v0]
  unfold f_X12_wayAt at h
  refine a_aload_n (pc := 0) X 0 dX12_wayAt_0 rfl rfl ?_
  refine a_iconst (pc := 1) X dX12_wayAt_1 q_ic_0 ?_
  refine a_putI (pc := 2) X 0 fl_RX12_1 rfl rfl rfl rfl dX12_wayAt_2 ?_
  obtain ⟨m1, e_m1, h⟩ := x_lt_elim h
  refine a_nm (vs2 := [m1]) (congrArg (fun q : XM => [q]) e_m1) ?_
  refine a_iload_n (pc := 5) X 1 dX12_wayAt_5 rfl rfl ?_
  refine a_iconst (pc := 6) X dX12_wayAt_6 q_ic_0 ?_
  refine a_aload_n (pc := 7) X 0 dX12_wayAt_7 rfl rfl ?_
  refine a_getI (pc := 8) X 0 fl_RX12_330 rfl rfl rfl rfl dX12_wayAt_8 ?_
  refine a_iconst (pc := 11) X dX12_wayAt_11 q_ic_1 ?_
  refine a_isub (pc := 12) X dX12_wayAt_12 ?_
  obtain ⟨y2, e_y2, h⟩ := x_lt_elim h
  refine a_callS (pc := 13) (st2 := [.int y2]) (vs2 := [m1]) X [] [] [.int x0, .int (0 : Int32), .int ((m1.1 0 27) - (1 : Int32))] [] cv_RX12_75 (c_X12_isIn   e_y2) rfl rfl rfl rfl rfl rfl rfl rfl rfl rfl rfl (Nat.le_of_ble_eq_true rfl) ⟨Nat.le_of_ble_eq_true rfl, Nat.le_of_ble_eq_true rfl⟩ dX12_wayAt_13 (fun z_13 => ?_)
  refine a_if_eq (pc := 16) X 28 dX12_wayAt_16 rfl (fun c_16 => ?_) (fun c_16 => ?_)
  · have h := x_ifp c_16 h
    refine a_iconst (pc := 28) X dX12_wayAt_28 q_ic_m1 ?_
    have h := Option.some.inj h; subst h
    exact a_iret (pc := 29) X trivial dX12_wayAt_29
  · have h := x_ifn c_16 h
    refine a_aload_n (pc := 19) X 0 dX12_wayAt_19 rfl rfl ?_
    refine a_getR (pc := 20) X 0 12 12 fl_RX12_130 rfl rfl rfl rfl rfl dX12_wayAt_20 ?_
    refine a_iload_n (pc := 23) X 1 dX12_wayAt_23 rfl rfl ?_
    obtain ⟨c_24, h⟩ := x_ck_elim h
    refine a_iald (pc := 24) X 0 rfl rfl rfl c_24 dX12_wayAt_24 ?_
    refine a_goto (pc := 25) X 29 dX12_wayAt_25 rfl ?_
    have h := Option.some.inj h; subst h
    exact a_iret (pc := 29) X trivial dX12_wayAt_29
theorem dX12_reaches_0 : decode cX12_reaches 0 = .ok (.aload_n 0, 1) := by decide +kernel
theorem dX12_reaches_1 : decode cX12_reaches 1 = .ok (.iconst 0, 1) := by decide +kernel
theorem dX12_reaches_2 : decode cX12_reaches 2 = .ok (.putfield 1, 3) := by decide +kernel
theorem dX12_reaches_5 : decode cX12_reaches 5 = .ok (.aload_n 0, 1) := by decide +kernel
theorem dX12_reaches_6 : decode cX12_reaches 6 = .ok (.iload_n 1, 1) := by decide +kernel
theorem dX12_reaches_7 : decode cX12_reaches 7 = .ok (.invokevirtual 327, 3) := by decide +kernel
theorem dX12_reaches_10 : decode cX12_reaches 10 = .ok (.ifCond .eq 11, 3) := by decide +kernel
theorem dX12_reaches_13 : decode cX12_reaches 13 = .ok (.aload_n 0, 1) := by decide +kernel
theorem dX12_reaches_14 : decode cX12_reaches 14 = .ok (.iload_n 1, 1) := by decide +kernel
theorem dX12_reaches_15 : decode cX12_reaches 15 = .ok (.invokevirtual 271, 3) := by decide +kernel
theorem dX12_reaches_18 : decode cX12_reaches 18 = .ok (.goto 4, 3) := by decide +kernel
theorem dX12_reaches_21 : decode cX12_reaches 21 = .ok (.iconst (-1), 1) := by decide +kernel
theorem dX12_reaches_22 : decode cX12_reaches 22 = .ok (.ireturn, 1) := by decide +kernel
def f_X12_reaches (v0 : XM) (x0 : Int32) : Option (Int32 × XM) :=
  x_lt (x_si v0 0 0 (0 : Int32)) (fun m1 =>
  x_bo (f_X12_isStill m1 x0) (fun y2 =>
  if y2 = (0 : Int32) then
  (some ((-1 : Int32), m1))
  else (x_bo (f_X12_reachesOf m1 x0) (fun y3 =>
  some (y3.1, y3.2)))))
set_option maxRecDepth 100000 in
set_option maxHeartbeats 4000000 in
theorem c_X12_reaches {l : Launch}  {ad0 : Nat → Nat} {v0 : XM} {x0 : Int32}  {o : Int32 × XM} (h : f_X12_reaches v0 x0 = some o) : CT l yX12_reaches cX12_reaches 2 (some .int) 7 [(shModel, ad0)] [v0] (fun aK => [.ref (ad0 0), .int x0]) (some (.int o.1)) True [o.2] := by
  refine CT_of (by decide) (fun _ => Nat.le_of_ble_eq_true rfl) ?_
  intro p e s m args below meth c D tc aK aV A X
  have X : Cx p s m args meth c cX12_reaches 2 (some .int) RX12 D tc aK aV A [(shModel, ad0)] := X
  show aW p l e (x_Rm 7) s m args below meth c D tc A 2 [(shModel, ad0)] (some (.int o.1)) True [o.2] 0 [(0, .ref (ad0 0)), (1, .int x0)] [] [v0]
  unfold f_X12_reaches at h
  refine a_aload_n (pc := 0) X 0 dX12_reaches_0 rfl rfl ?_
  refine a_iconst (pc := 1) X dX12_reaches_1 q_ic_0 ?_
  refine a_putI (pc := 2) X 0 fl_RX12_1 rfl rfl rfl rfl dX12_reaches_2 ?_
  obtain ⟨m1, e_m1, h⟩ := x_lt_elim h
  refine a_nm (vs2 := [m1]) (congrArg (fun q : XM => [q]) e_m1) ?_
  refine a_aload_n (pc := 5) X 0 dX12_reaches_5 rfl rfl ?_
  refine a_iload_n (pc := 6) X 1 dX12_reaches_6 rfl rfl ?_
  obtain ⟨y2, e_y2, h⟩ := x_bo_elim h
  refine a_callV (pc := 7) (st2 := [.int y2]) (vs2 := [m1]) X [(0, 0, 20)] [none] 0 0 12 [.int x0] [] cv_RX12_327 (c_X12_isStill (ad0 := ad0)  e_y2) rfl rfl rfl rfl rfl rfl rfl rfl rfl rfl rfl rfl rfl rfl rfl (Nat.le_of_ble_eq_true rfl) ⟨Nat.le_of_ble_eq_true rfl, Nat.le_of_ble_eq_true rfl⟩ dX12_reaches_7 (fun z_7 => ?_)
  refine a_if_eq (pc := 10) X 21 dX12_reaches_10 rfl (fun c_10 => ?_) (fun c_10 => ?_)
  · have h := x_ifp c_10 h
    refine a_iconst (pc := 21) X dX12_reaches_21 q_ic_m1 ?_
    have h := Option.some.inj h; subst h
    exact a_iret (pc := 22) X trivial dX12_reaches_22
  · have h := x_ifn c_10 h
    refine a_aload_n (pc := 13) X 0 dX12_reaches_13 rfl rfl ?_
    refine a_iload_n (pc := 14) X 1 dX12_reaches_14 rfl rfl ?_
    obtain ⟨y3, e_y3, h⟩ := x_bo_elim h
    refine a_callV (pc := 15) (st2 := [.int y3.1]) (vs2 := [y3.2]) X [(0, 0, 20)] [some y3.2] 0 0 12 [.int x0] [] cv_RX12_271 (c_X12_reachesOf (ad0 := ad0)  e_y3) rfl rfl rfl rfl rfl rfl rfl rfl rfl rfl rfl rfl rfl rfl rfl (Nat.le_of_ble_eq_true rfl) ⟨Nat.le_of_ble_eq_true rfl, Nat.le_of_ble_eq_true rfl⟩ dX12_reaches_15 (fun _ => ?_)
    refine a_goto (pc := 18) X 22 dX12_reaches_18 rfl ?_
    have h := Option.some.inj h; subst h
    exact a_iret (pc := 22) X trivial dX12_reaches_22
theorem dX12_layApart_0 : decode cX12_layApart 0 = .ok (.iconst 0, 1) := by decide +kernel
theorem dX12_layApart_1 : decode cX12_layApart 1 = .ok (.istore_n 2, 1) := by decide +kernel
theorem dX12_layApart_2 : decode cX12_layApart 2 = .ok (.iload_n 2, 1) := by decide +kernel
theorem dX12_layApart_3 : decode cX12_layApart 3 = .ok (.aload_n 0, 1) := by decide +kernel
theorem dX12_layApart_4 : decode cX12_layApart 4 = .ok (.getfield 98, 3) := by decide +kernel
theorem dX12_layApart_7 : decode cX12_layApart 7 = .ok (.iconst 0, 1) := by decide +kernel
theorem dX12_layApart_8 : decode cX12_layApart 8 = .ok (.iaload, 1) := by decide +kernel
theorem dX12_layApart_9 : decode cX12_layApart 9 = .ok (.if_icmp .ge 49, 3) := by decide +kernel
theorem dX12_layApart_12 : decode cX12_layApart 12 = .ok (.aload_n 0, 1) := by decide +kernel
theorem dX12_layApart_13 : decode cX12_layApart 13 = .ok (.iload_n 2, 1) := by decide +kernel
theorem dX12_layApart_14 : decode cX12_layApart 14 = .ok (.iload_n 1, 1) := by decide +kernel
theorem dX12_layApart_15 : decode cX12_layApart 15 = .ok (.invokevirtual 264, 3) := by decide +kernel
theorem dX12_layApart_18 : decode cX12_layApart 18 = .ok (.iconst 0, 1) := by decide +kernel
theorem dX12_layApart_19 : decode cX12_layApart 19 = .ok (.istore_n 3, 1) := by decide +kernel
theorem dX12_layApart_20 : decode cX12_layApart 20 = .ok (.iload_n 3, 1) := by decide +kernel
theorem dX12_layApart_21 : decode cX12_layApart 21 = .ok (.aload_n 0, 1) := by decide +kernel
theorem dX12_layApart_22 : decode cX12_layApart 22 = .ok (.getfield 98, 3) := by decide +kernel
theorem dX12_layApart_25 : decode cX12_layApart 25 = .ok (.iconst 0, 1) := by decide +kernel
theorem dX12_layApart_26 : decode cX12_layApart 26 = .ok (.iaload, 1) := by decide +kernel
theorem dX12_layApart_27 : decode cX12_layApart 27 = .ok (.if_icmp .ge 25, 3) := by decide +kernel
theorem dX12_layApart_30 : decode cX12_layApart 30 = .ok (.aload_n 0, 1) := by decide +kernel
theorem dX12_layApart_31 : decode cX12_layApart 31 = .ok (.getfield 133, 3) := by decide +kernel
theorem dX12_layApart_34 : decode cX12_layApart 34 = .ok (.bipush 8, 2) := by decide +kernel
theorem dX12_layApart_36 : decode cX12_layApart 36 = .ok (.iload_n 3, 1) := by decide +kernel
theorem dX12_layApart_37 : decode cX12_layApart 37 = .ok (.imul, 1) := by decide +kernel
theorem dX12_layApart_38 : decode cX12_layApart 38 = .ok (.iload_n 2, 1) := by decide +kernel
theorem dX12_layApart_39 : decode cX12_layApart 39 = .ok (.iadd, 1) := by decide +kernel
theorem dX12_layApart_40 : decode cX12_layApart 40 = .ok (.aload_n 0, 1) := by decide +kernel
theorem dX12_layApart_41 : decode cX12_layApart 41 = .ok (.iload_n 3, 1) := by decide +kernel
theorem dX12_layApart_42 : decode cX12_layApart 42 = .ok (.invokevirtual 268, 3) := by decide +kernel
theorem dX12_layApart_45 : decode cX12_layApart 45 = .ok (.iastore, 1) := by decide +kernel
theorem dX12_layApart_46 : decode cX12_layApart 46 = .ok (.iinc 3 1, 3) := by decide +kernel
theorem dX12_layApart_49 : decode cX12_layApart 49 = .ok (.goto (-29), 3) := by decide +kernel
theorem dX12_layApart_52 : decode cX12_layApart 52 = .ok (.iinc 2 1, 3) := by decide +kernel
theorem dX12_layApart_55 : decode cX12_layApart 55 = .ok (.goto (-53), 3) := by decide +kernel
theorem dX12_layApart_58 : decode cX12_layApart 58 = .ok (.return_, 1) := by decide +kernel
def f_X12_layApart_20 (k2 : XM → Int32 → Int32 → Option (XM)) (k20 : XM → Int32 → Int32 → Int32 → Option (XM)) (w0 : XM) (l1 : Int32) (l2 : Int32) (l3 : Int32) : Option (XM) :=
  if ((x_ga w0 2 (0 : Int32)) : Int32) ≤ l3 then
  (k2 w0 l1 (l2 + 1))
  else (x_bo (f_X12_hoursFrom w0 l3) (fun y1 =>
  x_ck (((8 : Int32) * l3) + l2) 64 (
  x_lt (x_pa w0 13 (((8 : Int32) * l3) + l2) y1) (fun m2 =>
  k20 m2 l1 l2 (l3 + 1)))))
def f_X12_layApart_2 (k2 : XM → Int32 → Int32 → Option (XM)) (w0 : XM) (l1 : Int32) (l2 : Int32) : Option (XM) :=
  if ((x_ga w0 2 (0 : Int32)) : Int32) ≤ l2 then
  (some w0)
  else (x_bo (f_X12_layFar w0 l2 l1) (fun y3 =>
  x_lp (φ := XM → Int32 → Int32 → Int32 → Option (XM)) (fun _ _ _ _ => none) (f_X12_layApart_20  k2) x_NN y3 l1 l2 (0 : Int32)))
def f_X12_layApart (v0 : XM) (x0 : Int32) : Option (XM) :=
  x_lp (φ := XM → Int32 → Int32 → Option (XM)) (fun _ _ _ => none) (f_X12_layApart_2  ) x_NN v0 x0 (0 : Int32)
set_option maxRecDepth 100000 in
set_option maxHeartbeats 4000000 in
theorem w_X12_layApart_20 {p : Program} {l : Launch} {e : Env} {s : State} {m : MethodId} {args : Array Value} {below : List Frame} {meth : Method} {c : Code} {D : va_G} {tc : Nat → ClassId} {aK aV : Nat → Nat} {A : Nat → Prop} {ad0 : Nat → Nat}  (X : Cx p s m args meth c cX12_layApart 4 none RX12 D tc aK aV A [(shModel, ad0)])  {o : XM} {k2 : XM → Int32 → Int32 → Option (XM)} (hk2 : ∀ (w0 : XM) (l1 : Int32) (l2 : Int32), k2 w0 l1 l2 = some o → aW p l e (x_Rm 6) s m args below meth c D tc A 4 [(shModel, ad0)] none True [o] 2 [(0, .ref (ad0 0)), (1, .int l1), (2, .int l2)] [] [w0]) : ∀ (n : Nat), ∀ (w0 : XM) (l1 : Int32) (l2 : Int32) (l3 : Int32), x_lp (φ := XM → Int32 → Int32 → Int32 → Option (XM)) (fun _ _ _ _ => none) (f_X12_layApart_20  k2) n w0 l1 l2 l3 = some o → aW p l e (x_Rm 6) s m args below meth c D tc A 4 [(shModel, ad0)] none True [o] 20 [(0, .ref (ad0 0)), (1, .int l1), (2, .int l2), (3, .int l3)] [] [w0] := by
  intro n
  induction n with
  | zero => intro w0 l1 l2 l3 h; exact absurd h (fun q => by cases q)
  | succ n ih =>
    intro w0 l1 l2 l3 h
    have h : f_X12_layApart_20  k2 (x_lp (φ := XM → Int32 → Int32 → Int32 → Option (XM)) (fun _ _ _ _ => none) (f_X12_layApart_20  k2) n) w0 l1 l2 l3 = some o := h
    generalize x_lp (φ := XM → Int32 → Int32 → Int32 → Option (XM)) (fun _ _ _ _ => none) (f_X12_layApart_20  k2) n = k20 at h ih
    have hk20 := ih
    unfold f_X12_layApart_20 at h
    refine a_iload_n (pc := 20) X 3 dX12_layApart_20 rfl rfl ?_
    refine a_aload_n (pc := 21) X 0 dX12_layApart_21 rfl rfl ?_
    refine a_getR (pc := 22) X 0 2 2 fl_RX12_98 rfl rfl rfl rfl rfl dX12_layApart_22 ?_
    refine a_iconst (pc := 25) X dX12_layApart_25 q_ic_0 ?_
    refine a_iald (pc := 26) X 0 rfl rfl rfl (x_inl (by decide)) dX12_layApart_26 ?_
    refine a_icmp_ge (pc := 27) X 52 dX12_layApart_27 rfl (fun c_27 => ?_) (fun c_27 => ?_)
    · have h := x_ifp c_27 h
      refine a_iinc (pc := 52) X 2 [(2, .int (l2 + 1)), (0, .ref (ad0 0)), (1, .int l1), (3, .int l3)] dX12_layApart_52 rfl (congrArg (HAdd.hAdd l2) q_ic_1) (by decide) rfl ?_
      refine a_goto (pc := 55) X 2 dX12_layApart_55 rfl ?_
      refine a_sub [1, 2, 0] rfl ?_
      exact hk2 _ _ _ h
    · have h := x_ifn c_27 h
      refine a_aload_n (pc := 30) X 0 dX12_layApart_30 rfl rfl ?_
      refine a_getR (pc := 31) X 0 13 13 fl_RX12_133 rfl rfl rfl rfl rfl dX12_layApart_31 ?_
      refine a_bipush (pc := 34) X dX12_layApart_34 q_bp_8 ?_
      refine a_iload_n (pc := 36) X 3 dX12_layApart_36 rfl rfl ?_
      refine a_imul (pc := 37) X dX12_layApart_37 ?_
      refine a_iload_n (pc := 38) X 2 dX12_layApart_38 rfl rfl ?_
      refine a_iadd (pc := 39) X dX12_layApart_39 ?_
      refine a_aload_n (pc := 40) X 0 dX12_layApart_40 rfl rfl ?_
      refine a_iload_n (pc := 41) X 3 dX12_layApart_41 rfl rfl ?_
      obtain ⟨y1, e_y1, h⟩ := x_bo_elim h
      refine a_callV (pc := 42) (st2 := [.int y1, .int (((8 : Int32) * l3) + l2), .ref (ad0 13)]) (vs2 := [w0]) X [(0, 0, 20)] [none] 0 0 12 [.int l3] [.int (((8 : Int32) * l3) + l2), .ref (ad0 13)] cv_RX12_268 (c_X12_hoursFrom (ad0 := ad0)  e_y1) rfl rfl rfl rfl rfl rfl rfl rfl rfl rfl rfl rfl rfl rfl rfl (Nat.le_of_ble_eq_true rfl) ⟨Nat.le_of_ble_eq_true rfl, Nat.le_of_ble_eq_true rfl⟩ dX12_layApart_42 (fun _ => ?_)
      obtain ⟨c_45, h⟩ := x_ck_elim h
      refine a_iast (pc := 45) X 0 rfl rfl rfl c_45 dX12_layApart_45 ?_
      obtain ⟨m2, e_m2, h⟩ := x_lt_elim h
      refine a_nm (vs2 := [m2]) (congrArg (fun q : XM => [q]) e_m2) ?_
      refine a_iinc (pc := 46) X 3 [(3, .int (l3 + 1)), (0, .ref (ad0 0)), (1, .int l1), (2, .int l2)] dX12_layApart_46 rfl (congrArg (HAdd.hAdd l3) q_ic_1) (by decide) rfl ?_
      refine a_goto (pc := 49) X 20 dX12_layApart_49 rfl ?_
      refine a_sub [1, 2, 3, 0] rfl ?_
      exact hk20 _ _ _ _ h
set_option maxRecDepth 100000 in
set_option maxHeartbeats 4000000 in
theorem w_X12_layApart_2 {p : Program} {l : Launch} {e : Env} {s : State} {m : MethodId} {args : Array Value} {below : List Frame} {meth : Method} {c : Code} {D : va_G} {tc : Nat → ClassId} {aK aV : Nat → Nat} {A : Nat → Prop} {ad0 : Nat → Nat}  (X : Cx p s m args meth c cX12_layApart 4 none RX12 D tc aK aV A [(shModel, ad0)])  {o : XM}  : ∀ (n : Nat), ∀ (w0 : XM) (l1 : Int32) (l2 : Int32), x_lp (φ := XM → Int32 → Int32 → Option (XM)) (fun _ _ _ => none) (f_X12_layApart_2  ) n w0 l1 l2 = some o → aW p l e (x_Rm 6) s m args below meth c D tc A 4 [(shModel, ad0)] none True [o] 2 [(0, .ref (ad0 0)), (1, .int l1), (2, .int l2)] [] [w0] := by
  intro n
  induction n with
  | zero => intro w0 l1 l2 h; exact absurd h (fun q => by cases q)
  | succ n ih =>
    intro w0 l1 l2 h
    have h : f_X12_layApart_2   (x_lp (φ := XM → Int32 → Int32 → Option (XM)) (fun _ _ _ => none) (f_X12_layApart_2  ) n) w0 l1 l2 = some o := h
    generalize x_lp (φ := XM → Int32 → Int32 → Option (XM)) (fun _ _ _ => none) (f_X12_layApart_2  ) n = k2 at h ih
    have hk2 := ih
    unfold f_X12_layApart_2 at h
    refine a_iload_n (pc := 2) X 2 dX12_layApart_2 rfl rfl ?_
    refine a_aload_n (pc := 3) X 0 dX12_layApart_3 rfl rfl ?_
    refine a_getR (pc := 4) X 0 2 2 fl_RX12_98 rfl rfl rfl rfl rfl dX12_layApart_4 ?_
    refine a_iconst (pc := 7) X dX12_layApart_7 q_ic_0 ?_
    refine a_iald (pc := 8) X 0 rfl rfl rfl (x_inl (by decide)) dX12_layApart_8 ?_
    refine a_icmp_ge (pc := 9) X 58 dX12_layApart_9 rfl (fun c_9 => ?_) (fun c_9 => ?_)
    · have h := x_ifp c_9 h
      have h := Option.some.inj h; subst h
      exact a_vret (pc := 58) X trivial dX12_layApart_58
    · have h := x_ifn c_9 h
      refine a_aload_n (pc := 12) X 0 dX12_layApart_12 rfl rfl ?_
      refine a_iload_n (pc := 13) X 2 dX12_layApart_13 rfl rfl ?_
      refine a_iload_n (pc := 14) X 1 dX12_layApart_14 rfl rfl ?_
      obtain ⟨y3, e_y3, h⟩ := x_bo_elim h
      refine a_callV (pc := 15) (st2 := []) (vs2 := [y3]) X [(0, 0, 20)] [some y3] 0 0 12 [.int l2, .int l1] [] cv_RX12_264 (c_X12_layFar (ad0 := ad0)  e_y3) rfl rfl rfl rfl rfl rfl rfl rfl rfl rfl rfl rfl rfl rfl rfl (Nat.le_of_ble_eq_true rfl) ⟨Nat.le_of_ble_eq_true rfl, Nat.le_of_ble_eq_true rfl⟩ dX12_layApart_15 (fun _ => ?_)
      refine a_iconst (pc := 18) X dX12_layApart_18 q_ic_0 ?_
      refine a_istore_n (pc := 19) X [(3, .int (0 : Int32)), (0, .ref (ad0 0)), (1, .int l1), (2, .int l2)] dX12_layApart_19 rfl (by decide) rfl ?_
      refine a_sub [1, 2, 3, 0] rfl ?_
      exact w_X12_layApart_20 X   hk2 x_NN _ _ _ _ h
set_option maxRecDepth 100000 in
set_option maxHeartbeats 4000000 in
theorem c_X12_layApart {l : Launch}  {ad0 : Nat → Nat} {v0 : XM} {x0 : Int32}  {o : XM} (h : f_X12_layApart v0 x0 = some o) : CT l yX12_layApart cX12_layApart 4 none 6 [(shModel, ad0)] [v0] (fun aK => [.ref (ad0 0), .int x0]) none True [o] := by
  refine CT_of (by decide) (fun _ => Nat.le_of_ble_eq_true rfl) ?_
  intro p e s m args below meth c D tc aK aV A X
  have X : Cx p s m args meth c cX12_layApart 4 none RX12 D tc aK aV A [(shModel, ad0)] := X
  show aW p l e (x_Rm 6) s m args below meth c D tc A 4 [(shModel, ad0)] none True [o] 0 [(0, .ref (ad0 0)), (1, .int x0)] [] [v0]
  unfold f_X12_layApart at h
  refine a_iconst (pc := 0) X dX12_layApart_0 q_ic_0 ?_
  refine a_istore_n (pc := 1) X [(2, .int (0 : Int32)), (0, .ref (ad0 0)), (1, .int x0)] dX12_layApart_1 rfl (by decide) rfl ?_
  refine a_sub [1, 2, 0] rfl ?_
  exact w_X12_layApart_2 X    x_NN _ _ _ h
theorem dX12_moreBy_0 : decode cX12_moreBy 0 = .ok (.aload_n 0, 1) := by decide +kernel
theorem dX12_moreBy_1 : decode cX12_moreBy 1 = .ok (.getfield 98, 3) := by decide +kernel
theorem dX12_moreBy_4 : decode cX12_moreBy 4 = .ok (.bipush 54, 2) := by decide +kernel
theorem dX12_moreBy_6 : decode cX12_moreBy 6 = .ok (.iload_n 3, 1) := by decide +kernel
theorem dX12_moreBy_7 : decode cX12_moreBy 7 = .ok (.iadd, 1) := by decide +kernel
theorem dX12_moreBy_8 : decode cX12_moreBy 8 = .ok (.iaload, 1) := by decide +kernel
theorem dX12_moreBy_9 : decode cX12_moreBy 9 = .ok (.istore 4, 2) := by decide +kernel
theorem dX12_moreBy_11 : decode cX12_moreBy 11 = .ok (.ldc_w 256, 3) := by decide +kernel
theorem dX12_moreBy_14 : decode cX12_moreBy 14 = .ok (.aload_n 0, 1) := by decide +kernel
theorem dX12_moreBy_15 : decode cX12_moreBy 15 = .ok (.getfield 133, 3) := by decide +kernel
theorem dX12_moreBy_18 : decode cX12_moreBy 18 = .ok (.bipush 8, 2) := by decide +kernel
theorem dX12_moreBy_20 : decode cX12_moreBy 20 = .ok (.iload_n 2, 1) := by decide +kernel
theorem dX12_moreBy_21 : decode cX12_moreBy 21 = .ok (.imul, 1) := by decide +kernel
theorem dX12_moreBy_22 : decode cX12_moreBy 22 = .ok (.iload 4, 2) := by decide +kernel
theorem dX12_moreBy_24 : decode cX12_moreBy 24 = .ok (.iadd, 1) := by decide +kernel
theorem dX12_moreBy_25 : decode cX12_moreBy 25 = .ok (.iaload, 1) := by decide +kernel
theorem dX12_moreBy_26 : decode cX12_moreBy 26 = .ok (.aload_n 0, 1) := by decide +kernel
theorem dX12_moreBy_27 : decode cX12_moreBy 27 = .ok (.getfield 136, 3) := by decide +kernel
theorem dX12_moreBy_30 : decode cX12_moreBy 30 = .ok (.bipush 8, 2) := by decide +kernel
theorem dX12_moreBy_32 : decode cX12_moreBy 32 = .ok (.iload_n 1, 1) := by decide +kernel
theorem dX12_moreBy_33 : decode cX12_moreBy 33 = .ok (.iconst 1, 1) := by decide +kernel
theorem dX12_moreBy_34 : decode cX12_moreBy 34 = .ok (.iload_n 3, 1) := by decide +kernel
theorem dX12_moreBy_35 : decode cX12_moreBy 35 = .ok (.ishl, 1) := by decide +kernel
theorem dX12_moreBy_36 : decode cX12_moreBy 36 = .ok (.iconst (-1), 1) := by decide +kernel
theorem dX12_moreBy_37 : decode cX12_moreBy 37 = .ok (.ixor, 1) := by decide +kernel
theorem dX12_moreBy_38 : decode cX12_moreBy 38 = .ok (.iand, 1) := by decide +kernel
theorem dX12_moreBy_39 : decode cX12_moreBy 39 = .ok (.imul, 1) := by decide +kernel
theorem dX12_moreBy_40 : decode cX12_moreBy 40 = .ok (.iload 4, 2) := by decide +kernel
theorem dX12_moreBy_42 : decode cX12_moreBy 42 = .ok (.iadd, 1) := by decide +kernel
theorem dX12_moreBy_43 : decode cX12_moreBy 43 = .ok (.iaload, 1) := by decide +kernel
theorem dX12_moreBy_44 : decode cX12_moreBy 44 = .ok (.iadd, 1) := by decide +kernel
theorem dX12_moreBy_45 : decode cX12_moreBy 45 = .ok (.invokestatic 318, 3) := by decide +kernel
theorem dX12_moreBy_48 : decode cX12_moreBy 48 = .ok (.ireturn, 1) := by decide +kernel
def f_X12_moreBy (v0 : XM) (x0 : Int32) (x1 : Int32) (x2 : Int32) : Option (Int32) :=
  x_ck ((54 : Int32) + x2) 353 (
  x_lt (x_ga v0 2 ((54 : Int32) + x2)) (fun y1 =>
  x_ck (((8 : Int32) * x1) + y1) 64 (
  x_lt (((1 : Int32) <<< (x2 &&& 31)) ^^^ (-1 : Int32)) (fun y2 =>
  x_ck (((8 : Int32) * (x0 &&& y2)) + y1) 512 (
  x_lt ((x_ga v0 13 (((8 : Int32) * x1) + y1)) + (x_ga v0 14 (((8 : Int32) * (x0 &&& y2)) + y1))) (fun y3 =>
  x_lt (f_X12_least (100000 : Int32) y3) (fun y4 =>
  some (y4 : Int32))))))))
set_option maxRecDepth 100000 in
set_option maxHeartbeats 4000000 in
theorem c_X12_moreBy {l : Launch}  {ad0 : Nat → Nat} {v0 : XM} {x0 : Int32} {x1 : Int32} {x2 : Int32}  {o : Int32} (h : f_X12_moreBy v0 x0 x1 x2 = some o) : CT l yX12_moreBy cX12_moreBy 5 (some .int) 1 [(shModel, ad0)] [v0] (fun aK => [.ref (ad0 0), .int x0, .int x1, .int x2]) (some (.int o)) True [v0] := by
  refine CT_of (by decide) (fun _ => Nat.le_of_ble_eq_true rfl) ?_
  intro p e s m args below meth c D tc aK aV A X
  have X : Cx p s m args meth c cX12_moreBy 5 (some .int) RX12 D tc aK aV A [(shModel, ad0)] := X
  show aW p l e (x_Rm 1) s m args below meth c D tc A 5 [(shModel, ad0)] (some (.int o)) True [v0] 0 [(0, .ref (ad0 0)), (1, .int x0), (2, .int x1), (3, .int x2)] [] [v0]
  unfold f_X12_moreBy at h
  refine a_aload_n (pc := 0) X 0 dX12_moreBy_0 rfl rfl ?_
  refine a_getR (pc := 1) X 0 2 2 fl_RX12_98 rfl rfl rfl rfl rfl dX12_moreBy_1 ?_
  refine a_bipush (pc := 4) X dX12_moreBy_4 q_bp_54 ?_
  refine a_iload_n (pc := 6) X 3 dX12_moreBy_6 rfl rfl ?_
  refine a_iadd (pc := 7) X dX12_moreBy_7 ?_
  obtain ⟨c_8, h⟩ := x_ck_elim h
  refine a_iald (pc := 8) X 0 rfl rfl rfl c_8 dX12_moreBy_8 ?_
  obtain ⟨y1, e_y1, h⟩ := x_lt_elim h
  refine a_ni e_y1 ?_
  refine a_istore (pc := 9) X [(4, .int y1), (0, .ref (ad0 0)), (1, .int x0), (2, .int x1), (3, .int x2)] dX12_moreBy_9 (by decide) rfl ?_
  refine a_ldcw (pc := 11) X kc_RX12_256 dX12_moreBy_11 ?_
  refine a_aload_n (pc := 14) X 1 dX12_moreBy_14 rfl rfl ?_
  refine a_getR (pc := 15) X 0 13 13 fl_RX12_133 rfl rfl rfl rfl rfl dX12_moreBy_15 ?_
  refine a_bipush (pc := 18) X dX12_moreBy_18 q_bp_8 ?_
  refine a_iload_n (pc := 20) X 3 dX12_moreBy_20 rfl rfl ?_
  refine a_imul (pc := 21) X dX12_moreBy_21 ?_
  refine a_iload (pc := 22) X 0 dX12_moreBy_22 rfl ?_
  refine a_iadd (pc := 24) X dX12_moreBy_24 ?_
  obtain ⟨c_25, h⟩ := x_ck_elim h
  refine a_iald (pc := 25) X 0 rfl rfl rfl c_25 dX12_moreBy_25 ?_
  refine a_aload_n (pc := 26) X 1 dX12_moreBy_26 rfl rfl ?_
  refine a_getR (pc := 27) X 0 14 14 fl_RX12_136 rfl rfl rfl rfl rfl dX12_moreBy_27 ?_
  refine a_bipush (pc := 30) X dX12_moreBy_30 q_bp_8 ?_
  refine a_iload_n (pc := 32) X 2 dX12_moreBy_32 rfl rfl ?_
  refine a_iconst (pc := 33) X dX12_moreBy_33 q_ic_1 ?_
  refine a_iload_n (pc := 34) X 4 dX12_moreBy_34 rfl rfl ?_
  refine a_ishl (pc := 35) X dX12_moreBy_35 ?_
  refine a_iconst (pc := 36) X dX12_moreBy_36 q_ic_m1 ?_
  refine a_ixor (pc := 37) X dX12_moreBy_37 ?_
  obtain ⟨y2, e_y2, h⟩ := x_lt_elim h
  refine a_ni e_y2 ?_
  refine a_iand (pc := 38) X dX12_moreBy_38 ?_
  refine a_imul (pc := 39) X dX12_moreBy_39 ?_
  refine a_iload (pc := 40) X 0 dX12_moreBy_40 rfl ?_
  refine a_iadd (pc := 42) X dX12_moreBy_42 ?_
  obtain ⟨c_43, h⟩ := x_ck_elim h
  refine a_iald (pc := 43) X 0 rfl rfl rfl c_43 dX12_moreBy_43 ?_
  refine a_iadd (pc := 44) X dX12_moreBy_44 ?_
  obtain ⟨y3, e_y3, h⟩ := x_lt_elim h
  refine a_ni e_y3 ?_
  obtain ⟨y4, e_y4, h⟩ := x_lt_elim h
  refine a_callS (pc := 45) (st2 := [.int y4]) (vs2 := [v0]) X [] [] [.int (100000 : Int32), .int y3] [] cv_RX12_318 (c_X12_least   e_y4) rfl rfl rfl rfl rfl rfl rfl rfl rfl rfl rfl (Nat.le_of_ble_eq_true rfl) ⟨Nat.le_of_ble_eq_true rfl, Nat.le_of_ble_eq_true rfl⟩ dX12_moreBy_45 (fun _ => ?_)
  have h := Option.some.inj h; subst h
  exact a_iret (pc := 48) X trivial dX12_moreBy_48
theorem dX12_layMore_0 : decode cX12_layMore 0 = .ok (.iconst 0, 1) := by decide +kernel
theorem dX12_layMore_1 : decode cX12_layMore 1 = .ok (.istore_n 1, 1) := by decide +kernel
theorem dX12_layMore_2 : decode cX12_layMore 2 = .ok (.iload_n 1, 1) := by decide +kernel
theorem dX12_layMore_3 : decode cX12_layMore 3 = .ok (.iconst 1, 1) := by decide +kernel
theorem dX12_layMore_4 : decode cX12_layMore 4 = .ok (.aload_n 0, 1) := by decide +kernel
theorem dX12_layMore_5 : decode cX12_layMore 5 = .ok (.getfield 98, 3) := by decide +kernel
theorem dX12_layMore_8 : decode cX12_layMore 8 = .ok (.iconst 2, 1) := by decide +kernel
theorem dX12_layMore_9 : decode cX12_layMore 9 = .ok (.iaload, 1) := by decide +kernel
theorem dX12_layMore_10 : decode cX12_layMore 10 = .ok (.ishl, 1) := by decide +kernel
theorem dX12_layMore_11 : decode cX12_layMore 11 = .ok (.if_icmp .ge 93, 3) := by decide +kernel
theorem dX12_layMore_14 : decode cX12_layMore 14 = .ok (.iconst 0, 1) := by decide +kernel
theorem dX12_layMore_15 : decode cX12_layMore 15 = .ok (.istore_n 2, 1) := by decide +kernel
theorem dX12_layMore_16 : decode cX12_layMore 16 = .ok (.iload_n 2, 1) := by decide +kernel
theorem dX12_layMore_17 : decode cX12_layMore 17 = .ok (.aload_n 0, 1) := by decide +kernel
theorem dX12_layMore_18 : decode cX12_layMore 18 = .ok (.getfield 98, 3) := by decide +kernel
theorem dX12_layMore_21 : decode cX12_layMore 21 = .ok (.iconst 0, 1) := by decide +kernel
theorem dX12_layMore_22 : decode cX12_layMore 22 = .ok (.iaload, 1) := by decide +kernel
theorem dX12_layMore_23 : decode cX12_layMore 23 = .ok (.if_icmp .ge 75, 3) := by decide +kernel
theorem dX12_layMore_26 : decode cX12_layMore 26 = .ok (.iload_n 1, 1) := by decide +kernel
theorem dX12_layMore_27 : decode cX12_layMore 27 = .ok (.ifCond .ne 7, 3) := by decide +kernel
theorem dX12_layMore_30 : decode cX12_layMore 30 = .ok (.iconst 0, 1) := by decide +kernel
theorem dX12_layMore_31 : decode cX12_layMore 31 = .ok (.goto 6, 3) := by decide +kernel
theorem dX12_layMore_34 : decode cX12_layMore 34 = .ok (.ldc_w 256, 3) := by decide +kernel
theorem dX12_layMore_37 : decode cX12_layMore 37 = .ok (.istore_n 3, 1) := by decide +kernel
theorem dX12_layMore_38 : decode cX12_layMore 38 = .ok (.iconst 0, 1) := by decide +kernel
theorem dX12_layMore_39 : decode cX12_layMore 39 = .ok (.istore 4, 2) := by decide +kernel
theorem dX12_layMore_41 : decode cX12_layMore 41 = .ok (.iload 4, 2) := by decide +kernel
theorem dX12_layMore_43 : decode cX12_layMore 43 = .ok (.aload_n 0, 1) := by decide +kernel
theorem dX12_layMore_44 : decode cX12_layMore 44 = .ok (.getfield 98, 3) := by decide +kernel
theorem dX12_layMore_47 : decode cX12_layMore 47 = .ok (.iconst 2, 1) := by decide +kernel
theorem dX12_layMore_48 : decode cX12_layMore 48 = .ok (.iaload, 1) := by decide +kernel
theorem dX12_layMore_49 : decode cX12_layMore 49 = .ok (.if_icmp .ge 31, 3) := by decide +kernel
theorem dX12_layMore_52 : decode cX12_layMore 52 = .ok (.iload_n 1, 1) := by decide +kernel
theorem dX12_layMore_53 : decode cX12_layMore 53 = .ok (.iload 4, 2) := by decide +kernel
theorem dX12_layMore_55 : decode cX12_layMore 55 = .ok (.invokestatic 243, 3) := by decide +kernel
theorem dX12_layMore_58 : decode cX12_layMore 58 = .ok (.ifCond .eq 16, 3) := by decide +kernel
theorem dX12_layMore_61 : decode cX12_layMore 61 = .ok (.iload_n 3, 1) := by decide +kernel
theorem dX12_layMore_62 : decode cX12_layMore 62 = .ok (.aload_n 0, 1) := by decide +kernel
theorem dX12_layMore_63 : decode cX12_layMore 63 = .ok (.iload_n 1, 1) := by decide +kernel
theorem dX12_layMore_64 : decode cX12_layMore 64 = .ok (.iload_n 2, 1) := by decide +kernel
theorem dX12_layMore_65 : decode cX12_layMore 65 = .ok (.iload 4, 2) := by decide +kernel
theorem dX12_layMore_67 : decode cX12_layMore 67 = .ok (.invokevirtual 333, 3) := by decide +kernel
theorem dX12_layMore_70 : decode cX12_layMore 70 = .ok (.invokestatic 318, 3) := by decide +kernel
theorem dX12_layMore_73 : decode cX12_layMore 73 = .ok (.istore_n 3, 1) := by decide +kernel
theorem dX12_layMore_74 : decode cX12_layMore 74 = .ok (.iinc 4 1, 3) := by decide +kernel
theorem dX12_layMore_77 : decode cX12_layMore 77 = .ok (.goto (-36), 3) := by decide +kernel
theorem dX12_layMore_80 : decode cX12_layMore 80 = .ok (.aload_n 0, 1) := by decide +kernel
theorem dX12_layMore_81 : decode cX12_layMore 81 = .ok (.getfield 136, 3) := by decide +kernel
theorem dX12_layMore_84 : decode cX12_layMore 84 = .ok (.bipush 8, 2) := by decide +kernel
theorem dX12_layMore_86 : decode cX12_layMore 86 = .ok (.iload_n 1, 1) := by decide +kernel
theorem dX12_layMore_87 : decode cX12_layMore 87 = .ok (.imul, 1) := by decide +kernel
theorem dX12_layMore_88 : decode cX12_layMore 88 = .ok (.iload_n 2, 1) := by decide +kernel
theorem dX12_layMore_89 : decode cX12_layMore 89 = .ok (.iadd, 1) := by decide +kernel
theorem dX12_layMore_90 : decode cX12_layMore 90 = .ok (.iload_n 3, 1) := by decide +kernel
theorem dX12_layMore_91 : decode cX12_layMore 91 = .ok (.iastore, 1) := by decide +kernel
theorem dX12_layMore_92 : decode cX12_layMore 92 = .ok (.iinc 2 1, 3) := by decide +kernel
theorem dX12_layMore_95 : decode cX12_layMore 95 = .ok (.goto (-79), 3) := by decide +kernel
theorem dX12_layMore_98 : decode cX12_layMore 98 = .ok (.iinc 1 1, 3) := by decide +kernel
theorem dX12_layMore_101 : decode cX12_layMore 101 = .ok (.goto (-99), 3) := by decide +kernel
theorem dX12_layMore_104 : decode cX12_layMore 104 = .ok (.return_, 1) := by decide +kernel
def f_X12_layMore_74 (k2 : XM → Int32 → Option (XM)) (k16 : XM → Int32 → Int32 → Option (XM)) (k41 : XM → Int32 → Int32 → Int32 → Int32 → Option (XM)) (w0 : XM) (l1 : Int32) (l2 : Int32) (l3 : Int32) (l4 : Int32) : Option (XM) :=
  k41 w0 l1 l2 l3 (l4 + 1)
def f_X12_layMore_41 (k2 : XM → Int32 → Option (XM)) (k16 : XM → Int32 → Int32 → Option (XM)) (k41 : XM → Int32 → Int32 → Int32 → Int32 → Option (XM)) (w0 : XM) (l1 : Int32) (l2 : Int32) (l3 : Int32) (l4 : Int32) : Option (XM) :=
  if ((x_ga w0 2 (2 : Int32)) : Int32) ≤ l4 then
  (x_ck (((8 : Int32) * l1) + l2) 512 (
  x_lt (x_pa w0 14 (((8 : Int32) * l1) + l2) l3) (fun m1 =>
  k16 m1 l1 (l2 + 1))))
  else (x_lt (f_X12_has l1 l4) (fun y2 =>
  if y2 = (0 : Int32) then
  (f_X12_layMore_74  k2 k16 k41 w0 l1 l2 l3 l4)
  else (x_bo (f_X12_moreBy w0 l1 l2 l4) (fun y3 =>
  x_lt (f_X12_least l3 y3) (fun y4 =>
  f_X12_layMore_74  k2 k16 k41 w0 l1 l2 y4 l4)))))
def f_X12_layMore_37 (k2 : XM → Int32 → Option (XM)) (k16 : XM → Int32 → Int32 → Option (XM)) (w0 : XM) (l1 : Int32) (l2 : Int32) (s0 : Int32) : Option (XM) :=
  x_lp (φ := XM → Int32 → Int32 → Int32 → Int32 → Option (XM)) (fun _ _ _ _ _ => none) (f_X12_layMore_41  k2 k16) x_NN w0 l1 l2 s0 (0 : Int32)
def f_X12_layMore_16 (k2 : XM → Int32 → Option (XM)) (k16 : XM → Int32 → Int32 → Option (XM)) (w0 : XM) (l1 : Int32) (l2 : Int32) : Option (XM) :=
  if ((x_ga w0 2 (0 : Int32)) : Int32) ≤ l2 then
  (k2 w0 (l1 + 1))
  else (if l1 = (0 : Int32) then
  (f_X12_layMore_37  k2 k16 w0 l1 l2 (0 : Int32))
  else (f_X12_layMore_37  k2 k16 w0 l1 l2 (100000 : Int32)))
def f_X12_layMore_2 (k2 : XM → Int32 → Option (XM)) (w0 : XM) (l1 : Int32) : Option (XM) :=
  x_lt ((1 : Int32) <<< ((x_ga w0 2 (2 : Int32)) &&& 31)) (fun y5 =>
  if (y5 : Int32) ≤ l1 then
  (some w0)
  else (x_lp (φ := XM → Int32 → Int32 → Option (XM)) (fun _ _ _ => none) (f_X12_layMore_16  k2) x_NN w0 l1 (0 : Int32)))
def f_X12_layMore (v0 : XM) : Option (XM) :=
  x_lp (φ := XM → Int32 → Option (XM)) (fun _ _ => none) (f_X12_layMore_2  ) x_NN v0 (0 : Int32)
set_option maxRecDepth 100000 in
set_option maxHeartbeats 4000000 in
theorem w_X12_layMore_74 {p : Program} {l : Launch} {e : Env} {s : State} {m : MethodId} {args : Array Value} {below : List Frame} {meth : Method} {c : Code} {D : va_G} {tc : Nat → ClassId} {aK aV : Nat → Nat} {A : Nat → Prop} {ad0 : Nat → Nat}  (X : Cx p s m args meth c cX12_layMore 5 none RX12 D tc aK aV A [(shModel, ad0)])  {o : XM} {k2 : XM → Int32 → Option (XM)} {k16 : XM → Int32 → Int32 → Option (XM)} {k41 : XM → Int32 → Int32 → Int32 → Int32 → Option (XM)} (hk2 : ∀ (w0 : XM) (l1 : Int32), k2 w0 l1 = some o → aW p l e (x_Rm 2) s m args below meth c D tc A 5 [(shModel, ad0)] none True [o] 2 [(0, .ref (ad0 0)), (1, .int l1)] [] [w0]) (hk16 : ∀ (w0 : XM) (l1 : Int32) (l2 : Int32), k16 w0 l1 l2 = some o → aW p l e (x_Rm 2) s m args below meth c D tc A 5 [(shModel, ad0)] none True [o] 16 [(0, .ref (ad0 0)), (1, .int l1), (2, .int l2)] [] [w0]) (hk41 : ∀ (w0 : XM) (l1 : Int32) (l2 : Int32) (l3 : Int32) (l4 : Int32), k41 w0 l1 l2 l3 l4 = some o → aW p l e (x_Rm 2) s m args below meth c D tc A 5 [(shModel, ad0)] none True [o] 41 [(0, .ref (ad0 0)), (1, .int l1), (2, .int l2), (3, .int l3), (4, .int l4)] [] [w0]) {w0 : XM} {l1 : Int32} {l2 : Int32} {l3 : Int32} {l4 : Int32}  (h : f_X12_layMore_74  k2 k16 k41 w0 l1 l2 l3 l4 = some o) : aW p l e (x_Rm 2) s m args below meth c D tc A 5 [(shModel, ad0)] none True [o] 74 [(0, .ref (ad0 0)), (1, .int l1), (2, .int l2), (3, .int l3), (4, .int l4)] [] [w0] := by
  unfold f_X12_layMore_74 at h
  refine a_iinc (pc := 74) X 4 [(4, .int (l4 + 1)), (0, .ref (ad0 0)), (1, .int l1), (2, .int l2), (3, .int l3)] dX12_layMore_74 rfl (congrArg (HAdd.hAdd l4) q_ic_1) (by decide) rfl ?_
  refine a_goto (pc := 77) X 41 dX12_layMore_77 rfl ?_
  refine a_sub [1, 2, 3, 4, 0] rfl ?_
  exact hk41 _ _ _ _ _ h
set_option maxRecDepth 100000 in
set_option maxHeartbeats 4000000 in
theorem w_X12_layMore_41 {p : Program} {l : Launch} {e : Env} {s : State} {m : MethodId} {args : Array Value} {below : List Frame} {meth : Method} {c : Code} {D : va_G} {tc : Nat → ClassId} {aK aV : Nat → Nat} {A : Nat → Prop} {ad0 : Nat → Nat}  (X : Cx p s m args meth c cX12_layMore 5 none RX12 D tc aK aV A [(shModel, ad0)])  {o : XM} {k2 : XM → Int32 → Option (XM)} {k16 : XM → Int32 → Int32 → Option (XM)} (hk2 : ∀ (w0 : XM) (l1 : Int32), k2 w0 l1 = some o → aW p l e (x_Rm 2) s m args below meth c D tc A 5 [(shModel, ad0)] none True [o] 2 [(0, .ref (ad0 0)), (1, .int l1)] [] [w0]) (hk16 : ∀ (w0 : XM) (l1 : Int32) (l2 : Int32), k16 w0 l1 l2 = some o → aW p l e (x_Rm 2) s m args below meth c D tc A 5 [(shModel, ad0)] none True [o] 16 [(0, .ref (ad0 0)), (1, .int l1), (2, .int l2)] [] [w0]) : ∀ (n : Nat), ∀ (w0 : XM) (l1 : Int32) (l2 : Int32) (l3 : Int32) (l4 : Int32), x_lp (φ := XM → Int32 → Int32 → Int32 → Int32 → Option (XM)) (fun _ _ _ _ _ => none) (f_X12_layMore_41  k2 k16) n w0 l1 l2 l3 l4 = some o → aW p l e (x_Rm 2) s m args below meth c D tc A 5 [(shModel, ad0)] none True [o] 41 [(0, .ref (ad0 0)), (1, .int l1), (2, .int l2), (3, .int l3), (4, .int l4)] [] [w0] := by
  intro n
  induction n with
  | zero => intro w0 l1 l2 l3 l4 h; exact absurd h (fun q => by cases q)
  | succ n ih =>
    intro w0 l1 l2 l3 l4 h
    have h : f_X12_layMore_41  k2 k16 (x_lp (φ := XM → Int32 → Int32 → Int32 → Int32 → Option (XM)) (fun _ _ _ _ _ => none) (f_X12_layMore_41  k2 k16) n) w0 l1 l2 l3 l4 = some o := h
    generalize x_lp (φ := XM → Int32 → Int32 → Int32 → Int32 → Option (XM)) (fun _ _ _ _ _ => none) (f_X12_layMore_41  k2 k16) n = k41 at h ih
    have hk41 := ih
    unfold f_X12_layMore_41 at h
    refine a_iload (pc := 41) X 4 dX12_layMore_41 rfl ?_
    refine a_aload_n (pc := 43) X 0 dX12_layMore_43 rfl rfl ?_
    refine a_getR (pc := 44) X 0 2 2 fl_RX12_98 rfl rfl rfl rfl rfl dX12_layMore_44 ?_
    refine a_iconst (pc := 47) X dX12_layMore_47 q_ic_2 ?_
    refine a_iald (pc := 48) X 0 rfl rfl rfl (x_inl (by decide)) dX12_layMore_48 ?_
    refine a_icmp_ge (pc := 49) X 80 dX12_layMore_49 rfl (fun c_49 => ?_) (fun c_49 => ?_)
    · have h := x_ifp c_49 h
      refine a_aload_n (pc := 80) X 0 dX12_layMore_80 rfl rfl ?_
      refine a_getR (pc := 81) X 0 14 14 fl_RX12_136 rfl rfl rfl rfl rfl dX12_layMore_81 ?_
      refine a_bipush (pc := 84) X dX12_layMore_84 q_bp_8 ?_
      refine a_iload_n (pc := 86) X 1 dX12_layMore_86 rfl rfl ?_
      refine a_imul (pc := 87) X dX12_layMore_87 ?_
      refine a_iload_n (pc := 88) X 2 dX12_layMore_88 rfl rfl ?_
      refine a_iadd (pc := 89) X dX12_layMore_89 ?_
      refine a_iload_n (pc := 90) X 3 dX12_layMore_90 rfl rfl ?_
      obtain ⟨c_91, h⟩ := x_ck_elim h
      refine a_iast (pc := 91) X 0 rfl rfl rfl c_91 dX12_layMore_91 ?_
      obtain ⟨m1, e_m1, h⟩ := x_lt_elim h
      refine a_nm (vs2 := [m1]) (congrArg (fun q : XM => [q]) e_m1) ?_
      refine a_iinc (pc := 92) X 2 [(2, .int (l2 + 1)), (0, .ref (ad0 0)), (1, .int l1), (3, .int l3), (4, .int l4)] dX12_layMore_92 rfl (congrArg (HAdd.hAdd l2) q_ic_1) (by decide) rfl ?_
      refine a_goto (pc := 95) X 16 dX12_layMore_95 rfl ?_
      refine a_sub [1, 2, 0] rfl ?_
      exact hk16 _ _ _ h
    · have h := x_ifn c_49 h
      refine a_iload_n (pc := 52) X 1 dX12_layMore_52 rfl rfl ?_
      refine a_iload (pc := 53) X 4 dX12_layMore_53 rfl ?_
      obtain ⟨y2, e_y2, h⟩ := x_lt_elim h
      refine a_callS (pc := 55) (st2 := [.int y2]) (vs2 := [w0]) X [] [] [.int l1, .int l4] [] cv_RX12_243 (c_X12_has   e_y2) rfl rfl rfl rfl rfl rfl rfl rfl rfl rfl rfl (Nat.le_of_ble_eq_true rfl) ⟨Nat.le_of_ble_eq_true rfl, Nat.le_of_ble_eq_true rfl⟩ dX12_layMore_55 (fun z_55 => ?_)
      refine a_if_eq (pc := 58) X 74 dX12_layMore_58 rfl (fun c_58 => ?_) (fun c_58 => ?_)
      · have h := x_ifp c_58 h
        exact w_X12_layMore_74 X   hk2 hk16 hk41  h
      · have h := x_ifn c_58 h
        refine a_iload_n (pc := 61) X 3 dX12_layMore_61 rfl rfl ?_
        refine a_aload_n (pc := 62) X 0 dX12_layMore_62 rfl rfl ?_
        refine a_iload_n (pc := 63) X 1 dX12_layMore_63 rfl rfl ?_
        refine a_iload_n (pc := 64) X 2 dX12_layMore_64 rfl rfl ?_
        refine a_iload (pc := 65) X 4 dX12_layMore_65 rfl ?_
        obtain ⟨y3, e_y3, h⟩ := x_bo_elim h
        refine a_callV (pc := 67) (st2 := [.int y3, .int l3]) (vs2 := [w0]) X [(0, 0, 20)] [none] 0 0 12 [.int l1, .int l2, .int l4] [.int l3] cv_RX12_333 (c_X12_moreBy (ad0 := ad0)  e_y3) rfl rfl rfl rfl rfl rfl rfl rfl rfl rfl rfl rfl rfl rfl rfl (Nat.le_of_ble_eq_true rfl) ⟨Nat.le_of_ble_eq_true rfl, Nat.le_of_ble_eq_true rfl⟩ dX12_layMore_67 (fun _ => ?_)
        obtain ⟨y4, e_y4, h⟩ := x_lt_elim h
        refine a_callS (pc := 70) (st2 := [.int y4]) (vs2 := [w0]) X [] [] [.int l3, .int y3] [] cv_RX12_318 (c_X12_least   e_y4) rfl rfl rfl rfl rfl rfl rfl rfl rfl rfl rfl (Nat.le_of_ble_eq_true rfl) ⟨Nat.le_of_ble_eq_true rfl, Nat.le_of_ble_eq_true rfl⟩ dX12_layMore_70 (fun _ => ?_)
        refine a_istore_n (pc := 73) X [(3, .int y4), (0, .ref (ad0 0)), (1, .int l1), (2, .int l2), (4, .int l4)] dX12_layMore_73 rfl (by decide) rfl ?_
        refine a_sub [1, 2, 3, 0, 4] rfl ?_
        exact w_X12_layMore_74 X   hk2 hk16 hk41  h
set_option maxRecDepth 100000 in
set_option maxHeartbeats 4000000 in
theorem w_X12_layMore_37 {p : Program} {l : Launch} {e : Env} {s : State} {m : MethodId} {args : Array Value} {below : List Frame} {meth : Method} {c : Code} {D : va_G} {tc : Nat → ClassId} {aK aV : Nat → Nat} {A : Nat → Prop} {ad0 : Nat → Nat}  (X : Cx p s m args meth c cX12_layMore 5 none RX12 D tc aK aV A [(shModel, ad0)])  {o : XM} {k2 : XM → Int32 → Option (XM)} {k16 : XM → Int32 → Int32 → Option (XM)} (hk2 : ∀ (w0 : XM) (l1 : Int32), k2 w0 l1 = some o → aW p l e (x_Rm 2) s m args below meth c D tc A 5 [(shModel, ad0)] none True [o] 2 [(0, .ref (ad0 0)), (1, .int l1)] [] [w0]) (hk16 : ∀ (w0 : XM) (l1 : Int32) (l2 : Int32), k16 w0 l1 l2 = some o → aW p l e (x_Rm 2) s m args below meth c D tc A 5 [(shModel, ad0)] none True [o] 16 [(0, .ref (ad0 0)), (1, .int l1), (2, .int l2)] [] [w0]) {w0 : XM} {l1 : Int32} {l2 : Int32} {s0 : Int32}  (h : f_X12_layMore_37  k2 k16 w0 l1 l2 s0 = some o) : aW p l e (x_Rm 2) s m args below meth c D tc A 5 [(shModel, ad0)] none True [o] 37 [(0, .ref (ad0 0)), (1, .int l1), (2, .int l2)] [.int s0] [w0] := by
  unfold f_X12_layMore_37 at h
  refine a_istore_n (pc := 37) X [(3, .int s0), (0, .ref (ad0 0)), (1, .int l1), (2, .int l2)] dX12_layMore_37 rfl (by decide) rfl ?_
  refine a_iconst (pc := 38) X dX12_layMore_38 q_ic_0 ?_
  refine a_istore (pc := 39) X [(4, .int (0 : Int32)), (3, .int s0), (0, .ref (ad0 0)), (1, .int l1), (2, .int l2)] dX12_layMore_39 (by decide) rfl ?_
  refine a_sub [2, 3, 4, 1, 0] rfl ?_
  exact w_X12_layMore_41 X   hk2 hk16 x_NN _ _ _ _ _ h
set_option maxRecDepth 100000 in
set_option maxHeartbeats 4000000 in
theorem w_X12_layMore_16 {p : Program} {l : Launch} {e : Env} {s : State} {m : MethodId} {args : Array Value} {below : List Frame} {meth : Method} {c : Code} {D : va_G} {tc : Nat → ClassId} {aK aV : Nat → Nat} {A : Nat → Prop} {ad0 : Nat → Nat}  (X : Cx p s m args meth c cX12_layMore 5 none RX12 D tc aK aV A [(shModel, ad0)])  {o : XM} {k2 : XM → Int32 → Option (XM)} (hk2 : ∀ (w0 : XM) (l1 : Int32), k2 w0 l1 = some o → aW p l e (x_Rm 2) s m args below meth c D tc A 5 [(shModel, ad0)] none True [o] 2 [(0, .ref (ad0 0)), (1, .int l1)] [] [w0]) : ∀ (n : Nat), ∀ (w0 : XM) (l1 : Int32) (l2 : Int32), x_lp (φ := XM → Int32 → Int32 → Option (XM)) (fun _ _ _ => none) (f_X12_layMore_16  k2) n w0 l1 l2 = some o → aW p l e (x_Rm 2) s m args below meth c D tc A 5 [(shModel, ad0)] none True [o] 16 [(0, .ref (ad0 0)), (1, .int l1), (2, .int l2)] [] [w0] := by
  intro n
  induction n with
  | zero => intro w0 l1 l2 h; exact absurd h (fun q => by cases q)
  | succ n ih =>
    intro w0 l1 l2 h
    have h : f_X12_layMore_16  k2 (x_lp (φ := XM → Int32 → Int32 → Option (XM)) (fun _ _ _ => none) (f_X12_layMore_16  k2) n) w0 l1 l2 = some o := h
    generalize x_lp (φ := XM → Int32 → Int32 → Option (XM)) (fun _ _ _ => none) (f_X12_layMore_16  k2) n = k16 at h ih
    have hk16 := ih
    unfold f_X12_layMore_16 at h
    refine a_iload_n (pc := 16) X 2 dX12_layMore_16 rfl rfl ?_
    refine a_aload_n (pc := 17) X 0 dX12_layMore_17 rfl rfl ?_
    refine a_getR (pc := 18) X 0 2 2 fl_RX12_98 rfl rfl rfl rfl rfl dX12_layMore_18 ?_
    refine a_iconst (pc := 21) X dX12_layMore_21 q_ic_0 ?_
    refine a_iald (pc := 22) X 0 rfl rfl rfl (x_inl (by decide)) dX12_layMore_22 ?_
    refine a_icmp_ge (pc := 23) X 98 dX12_layMore_23 rfl (fun c_23 => ?_) (fun c_23 => ?_)
    · have h := x_ifp c_23 h
      refine a_iinc (pc := 98) X 1 [(1, .int (l1 + 1)), (0, .ref (ad0 0)), (2, .int l2)] dX12_layMore_98 rfl (congrArg (HAdd.hAdd l1) q_ic_1) (by decide) rfl ?_
      refine a_goto (pc := 101) X 2 dX12_layMore_101 rfl ?_
      refine a_sub [1, 0] rfl ?_
      exact hk2 _ _ h
    · have h := x_ifn c_23 h
      refine a_iload_n (pc := 26) X 1 dX12_layMore_26 rfl rfl ?_
      refine a_if_ne (pc := 27) X 34 dX12_layMore_27 rfl (fun c_27 => ?_) (fun c_27 => ?_)
      · have h := x_ifn c_27 h
        refine a_ldcw (pc := 34) X kc_RX12_256 dX12_layMore_34 ?_
        exact w_X12_layMore_37 X   hk2 hk16  h
      · have h := x_ifp c_27 h
        refine a_iconst (pc := 30) X dX12_layMore_30 q_ic_0 ?_
        refine a_goto (pc := 31) X 37 dX12_layMore_31 rfl ?_
        exact w_X12_layMore_37 X   hk2 hk16  h
set_option maxRecDepth 100000 in
set_option maxHeartbeats 4000000 in
theorem w_X12_layMore_2 {p : Program} {l : Launch} {e : Env} {s : State} {m : MethodId} {args : Array Value} {below : List Frame} {meth : Method} {c : Code} {D : va_G} {tc : Nat → ClassId} {aK aV : Nat → Nat} {A : Nat → Prop} {ad0 : Nat → Nat}  (X : Cx p s m args meth c cX12_layMore 5 none RX12 D tc aK aV A [(shModel, ad0)])  {o : XM}  : ∀ (n : Nat), ∀ (w0 : XM) (l1 : Int32), x_lp (φ := XM → Int32 → Option (XM)) (fun _ _ => none) (f_X12_layMore_2  ) n w0 l1 = some o → aW p l e (x_Rm 2) s m args below meth c D tc A 5 [(shModel, ad0)] none True [o] 2 [(0, .ref (ad0 0)), (1, .int l1)] [] [w0] := by
  intro n
  induction n with
  | zero => intro w0 l1 h; exact absurd h (fun q => by cases q)
  | succ n ih =>
    intro w0 l1 h
    have h : f_X12_layMore_2   (x_lp (φ := XM → Int32 → Option (XM)) (fun _ _ => none) (f_X12_layMore_2  ) n) w0 l1 = some o := h
    generalize x_lp (φ := XM → Int32 → Option (XM)) (fun _ _ => none) (f_X12_layMore_2  ) n = k2 at h ih
    have hk2 := ih
    unfold f_X12_layMore_2 at h
    refine a_iload_n (pc := 2) X 1 dX12_layMore_2 rfl rfl ?_
    refine a_iconst (pc := 3) X dX12_layMore_3 q_ic_1 ?_
    refine a_aload_n (pc := 4) X 0 dX12_layMore_4 rfl rfl ?_
    refine a_getR (pc := 5) X 0 2 2 fl_RX12_98 rfl rfl rfl rfl rfl dX12_layMore_5 ?_
    refine a_iconst (pc := 8) X dX12_layMore_8 q_ic_2 ?_
    refine a_iald (pc := 9) X 0 rfl rfl rfl (x_inl (by decide)) dX12_layMore_9 ?_
    refine a_ishl (pc := 10) X dX12_layMore_10 ?_
    obtain ⟨y5, e_y5, h⟩ := x_lt_elim h
    refine a_ni e_y5 ?_
    refine a_icmp_ge (pc := 11) X 104 dX12_layMore_11 rfl (fun c_11 => ?_) (fun c_11 => ?_)
    · have h := x_ifp c_11 h
      have h := Option.some.inj h; subst h
      exact a_vret (pc := 104) X trivial dX12_layMore_104
    · have h := x_ifn c_11 h
      refine a_iconst (pc := 14) X dX12_layMore_14 q_ic_0 ?_
      refine a_istore_n (pc := 15) X [(2, .int (0 : Int32)), (0, .ref (ad0 0)), (1, .int l1)] dX12_layMore_15 rfl (by decide) rfl ?_
      refine a_sub [1, 2, 0] rfl ?_
      exact w_X12_layMore_16 X   hk2 x_NN _ _ _ h
set_option maxRecDepth 100000 in
set_option maxHeartbeats 4000000 in
theorem c_X12_layMore {l : Launch}  {ad0 : Nat → Nat} {v0 : XM}   {o : XM} (h : f_X12_layMore v0 = some o) : CT l yX12_layMore cX12_layMore 5 none 2 [(shModel, ad0)] [v0] (fun aK => [.ref (ad0 0)]) none True [o] := by
  refine CT_of (by decide) (fun _ => Nat.le_of_ble_eq_true rfl) ?_
  intro p e s m args below meth c D tc aK aV A X
  have X : Cx p s m args meth c cX12_layMore 5 none RX12 D tc aK aV A [(shModel, ad0)] := X
  show aW p l e (x_Rm 2) s m args below meth c D tc A 5 [(shModel, ad0)] none True [o] 0 [(0, .ref (ad0 0))] [] [v0]
  unfold f_X12_layMore at h
  refine a_iconst (pc := 0) X dX12_layMore_0 q_ic_0 ?_
  refine a_istore_n (pc := 1) X [(1, .int (0 : Int32)), (0, .ref (ad0 0))] dX12_layMore_1 rfl (by decide) rfl ?_
  refine a_sub [1, 0] rfl ?_
  exact w_X12_layMore_2 X    x_NN _ _ h
theorem dX12_gather_0 : decode cX12_gather 0 = .ok (.aload_n 0, 1) := by decide +kernel
theorem dX12_gather_1 : decode cX12_gather 1 = .ok (.iconst 0, 1) := by decide +kernel
theorem dX12_gather_2 : decode cX12_gather 2 = .ok (.putfield 1, 3) := by decide +kernel
theorem dX12_gather_5 : decode cX12_gather 5 = .ok (.aload_n 0, 1) := by decide +kernel
theorem dX12_gather_6 : decode cX12_gather 6 = .ok (.iload_n 1, 1) := by decide +kernel
theorem dX12_gather_7 : decode cX12_gather 7 = .ok (.invokevirtual 327, 3) := by decide +kernel
theorem dX12_gather_10 : decode cX12_gather 10 = .ok (.ifCond .ne 5, 3) := by decide +kernel
theorem dX12_gather_13 : decode cX12_gather 13 = .ok (.iconst (-1), 1) := by decide +kernel
theorem dX12_gather_14 : decode cX12_gather 14 = .ok (.ireturn, 1) := by decide +kernel
theorem dX12_gather_15 : decode cX12_gather 15 = .ok (.aload_n 0, 1) := by decide +kernel
theorem dX12_gather_16 : decode cX12_gather 16 = .ok (.aload_n 0, 1) := by decide +kernel
theorem dX12_gather_17 : decode cX12_gather 17 = .ok (.getfield 98, 3) := by decide +kernel
theorem dX12_gather_20 : decode cX12_gather 20 = .ok (.bipush 65, 2) := by decide +kernel
theorem dX12_gather_22 : decode cX12_gather 22 = .ok (.iload_n 1, 1) := by decide +kernel
theorem dX12_gather_23 : decode cX12_gather 23 = .ok (.iadd, 1) := by decide +kernel
theorem dX12_gather_24 : decode cX12_gather 24 = .ok (.iaload, 1) := by decide +kernel
theorem dX12_gather_25 : decode cX12_gather 25 = .ok (.invokevirtual 336, 3) := by decide +kernel
theorem dX12_gather_28 : decode cX12_gather 28 = .ok (.aload_n 0, 1) := by decide +kernel
theorem dX12_gather_29 : decode cX12_gather 29 = .ok (.invokevirtual 339, 3) := by decide +kernel
theorem dX12_gather_32 : decode cX12_gather 32 = .ok (.iconst 1, 1) := by decide +kernel
theorem dX12_gather_33 : decode cX12_gather 33 = .ok (.aload_n 0, 1) := by decide +kernel
theorem dX12_gather_34 : decode cX12_gather 34 = .ok (.getfield 98, 3) := by decide +kernel
theorem dX12_gather_37 : decode cX12_gather 37 = .ok (.iconst 2, 1) := by decide +kernel
theorem dX12_gather_38 : decode cX12_gather 38 = .ok (.iaload, 1) := by decide +kernel
theorem dX12_gather_39 : decode cX12_gather 39 = .ok (.ishl, 1) := by decide +kernel
theorem dX12_gather_40 : decode cX12_gather 40 = .ok (.iconst 1, 1) := by decide +kernel
theorem dX12_gather_41 : decode cX12_gather 41 = .ok (.isub, 1) := by decide +kernel
theorem dX12_gather_42 : decode cX12_gather 42 = .ok (.aload_n 0, 1) := by decide +kernel
theorem dX12_gather_43 : decode cX12_gather 43 = .ok (.getfield 98, 3) := by decide +kernel
theorem dX12_gather_46 : decode cX12_gather 46 = .ok (.bipush 94, 2) := by decide +kernel
theorem dX12_gather_48 : decode cX12_gather 48 = .ok (.iload_n 1, 1) := by decide +kernel
theorem dX12_gather_49 : decode cX12_gather 49 = .ok (.iadd, 1) := by decide +kernel
theorem dX12_gather_50 : decode cX12_gather 50 = .ok (.iaload, 1) := by decide +kernel
theorem dX12_gather_51 : decode cX12_gather 51 = .ok (.iconst (-1), 1) := by decide +kernel
theorem dX12_gather_52 : decode cX12_gather 52 = .ok (.ixor, 1) := by decide +kernel
theorem dX12_gather_53 : decode cX12_gather 53 = .ok (.iand, 1) := by decide +kernel
theorem dX12_gather_54 : decode cX12_gather 54 = .ok (.istore_n 2, 1) := by decide +kernel
theorem dX12_gather_55 : decode cX12_gather 55 = .ok (.aload_n 0, 1) := by decide +kernel
theorem dX12_gather_56 : decode cX12_gather 56 = .ok (.getfield 98, 3) := by decide +kernel
theorem dX12_gather_59 : decode cX12_gather 59 = .ok (.bipush 74, 2) := by decide +kernel
theorem dX12_gather_61 : decode cX12_gather 61 = .ok (.iload_n 1, 1) := by decide +kernel
theorem dX12_gather_62 : decode cX12_gather 62 = .ok (.iadd, 1) := by decide +kernel
theorem dX12_gather_63 : decode cX12_gather 63 = .ok (.iaload, 1) := by decide +kernel
theorem dX12_gather_64 : decode cX12_gather 64 = .ok (.istore_n 3, 1) := by decide +kernel
theorem dX12_gather_65 : decode cX12_gather 65 = .ok (.aload_n 0, 1) := by decide +kernel
theorem dX12_gather_66 : decode cX12_gather 66 = .ok (.getfield 136, 3) := by decide +kernel
theorem dX12_gather_69 : decode cX12_gather 69 = .ok (.bipush 8, 2) := by decide +kernel
theorem dX12_gather_71 : decode cX12_gather 71 = .ok (.iload_n 2, 1) := by decide +kernel
theorem dX12_gather_72 : decode cX12_gather 72 = .ok (.imul, 1) := by decide +kernel
theorem dX12_gather_73 : decode cX12_gather 73 = .ok (.iload_n 3, 1) := by decide +kernel
theorem dX12_gather_74 : decode cX12_gather 74 = .ok (.iadd, 1) := by decide +kernel
theorem dX12_gather_75 : decode cX12_gather 75 = .ok (.iaload, 1) := by decide +kernel
theorem dX12_gather_76 : decode cX12_gather 76 = .ok (.istore 4, 2) := by decide +kernel
theorem dX12_gather_78 : decode cX12_gather 78 = .ok (.iload 4, 2) := by decide +kernel
theorem dX12_gather_80 : decode cX12_gather 80 = .ok (.ldc_w 256, 3) := by decide +kernel
theorem dX12_gather_83 : decode cX12_gather 83 = .ok (.if_icmp .lt 5, 3) := by decide +kernel
theorem dX12_gather_86 : decode cX12_gather 86 = .ok (.iconst (-1), 1) := by decide +kernel
theorem dX12_gather_87 : decode cX12_gather 87 = .ok (.ireturn, 1) := by decide +kernel
theorem dX12_gather_88 : decode cX12_gather 88 = .ok (.aload_n 0, 1) := by decide +kernel
theorem dX12_gather_89 : decode cX12_gather 89 = .ok (.iconst 0, 1) := by decide +kernel
theorem dX12_gather_90 : decode cX12_gather 90 = .ok (.putfield 342, 3) := by decide +kernel
theorem dX12_gather_93 : decode cX12_gather 93 = .ok (.iload_n 2, 1) := by decide +kernel
theorem dX12_gather_94 : decode cX12_gather 94 = .ok (.ifCond .eq 87, 3) := by decide +kernel
theorem dX12_gather_97 : decode cX12_gather 97 = .ok (.iconst 0, 1) := by decide +kernel
theorem dX12_gather_98 : decode cX12_gather 98 = .ok (.istore 5, 2) := by decide +kernel
theorem dX12_gather_100 : decode cX12_gather 100 = .ok (.iload_n 2, 1) := by decide +kernel
theorem dX12_gather_101 : decode cX12_gather 101 = .ok (.iload 5, 2) := by decide +kernel
theorem dX12_gather_103 : decode cX12_gather 103 = .ok (.invokestatic 243, 3) := by decide +kernel
theorem dX12_gather_106 : decode cX12_gather 106 = .ok (.ifCond .eq 25, 3) := by decide +kernel
theorem dX12_gather_109 : decode cX12_gather 109 = .ok (.aload_n 0, 1) := by decide +kernel
theorem dX12_gather_110 : decode cX12_gather 110 = .ok (.iload_n 2, 1) := by decide +kernel
theorem dX12_gather_111 : decode cX12_gather 111 = .ok (.iload_n 3, 1) := by decide +kernel
theorem dX12_gather_112 : decode cX12_gather 112 = .ok (.iload 5, 2) := by decide +kernel
theorem dX12_gather_114 : decode cX12_gather 114 = .ok (.invokevirtual 333, 3) := by decide +kernel
theorem dX12_gather_117 : decode cX12_gather 117 = .ok (.aload_n 0, 1) := by decide +kernel
theorem dX12_gather_118 : decode cX12_gather 118 = .ok (.getfield 136, 3) := by decide +kernel
theorem dX12_gather_121 : decode cX12_gather 121 = .ok (.bipush 8, 2) := by decide +kernel
theorem dX12_gather_123 : decode cX12_gather 123 = .ok (.iload_n 2, 1) := by decide +kernel
theorem dX12_gather_124 : decode cX12_gather 124 = .ok (.imul, 1) := by decide +kernel
theorem dX12_gather_125 : decode cX12_gather 125 = .ok (.iload_n 3, 1) := by decide +kernel
theorem dX12_gather_126 : decode cX12_gather 126 = .ok (.iadd, 1) := by decide +kernel
theorem dX12_gather_127 : decode cX12_gather 127 = .ok (.iaload, 1) := by decide +kernel
theorem dX12_gather_128 : decode cX12_gather 128 = .ok (.if_icmp .eq 9, 3) := by decide +kernel
theorem dX12_gather_131 : decode cX12_gather 131 = .ok (.iinc 5 1, 3) := by decide +kernel
theorem dX12_gather_134 : decode cX12_gather 134 = .ok (.goto (-34), 3) := by decide +kernel
theorem dX12_gather_137 : decode cX12_gather 137 = .ok (.aload_n 0, 1) := by decide +kernel
theorem dX12_gather_138 : decode cX12_gather 138 = .ok (.getfield 139, 3) := by decide +kernel
theorem dX12_gather_141 : decode cX12_gather 141 = .ok (.aload_n 0, 1) := by decide +kernel
theorem dX12_gather_142 : decode cX12_gather 142 = .ok (.getfield 342, 3) := by decide +kernel
theorem dX12_gather_145 : decode cX12_gather 145 = .ok (.iload 5, 2) := by decide +kernel
theorem dX12_gather_147 : decode cX12_gather 147 = .ok (.iastore, 1) := by decide +kernel
theorem dX12_gather_148 : decode cX12_gather 148 = .ok (.aload_n 0, 1) := by decide +kernel
theorem dX12_gather_149 : decode cX12_gather 149 = .ok (.dup, 1) := by decide +kernel
theorem dX12_gather_150 : decode cX12_gather 150 = .ok (.getfield 342, 3) := by decide +kernel
theorem dX12_gather_153 : decode cX12_gather 153 = .ok (.iconst 1, 1) := by decide +kernel
theorem dX12_gather_154 : decode cX12_gather 154 = .ok (.iadd, 1) := by decide +kernel
theorem dX12_gather_155 : decode cX12_gather 155 = .ok (.putfield 342, 3) := by decide +kernel
theorem dX12_gather_158 : decode cX12_gather 158 = .ok (.iload_n 2, 1) := by decide +kernel
theorem dX12_gather_159 : decode cX12_gather 159 = .ok (.iconst 1, 1) := by decide +kernel
theorem dX12_gather_160 : decode cX12_gather 160 = .ok (.iload 5, 2) := by decide +kernel
theorem dX12_gather_162 : decode cX12_gather 162 = .ok (.ishl, 1) := by decide +kernel
theorem dX12_gather_163 : decode cX12_gather 163 = .ok (.iconst (-1), 1) := by decide +kernel
theorem dX12_gather_164 : decode cX12_gather 164 = .ok (.ixor, 1) := by decide +kernel
theorem dX12_gather_165 : decode cX12_gather 165 = .ok (.iand, 1) := by decide +kernel
theorem dX12_gather_166 : decode cX12_gather 166 = .ok (.istore_n 2, 1) := by decide +kernel
theorem dX12_gather_167 : decode cX12_gather 167 = .ok (.aload_n 0, 1) := by decide +kernel
theorem dX12_gather_168 : decode cX12_gather 168 = .ok (.getfield 98, 3) := by decide +kernel
theorem dX12_gather_171 : decode cX12_gather 171 = .ok (.bipush 54, 2) := by decide +kernel
theorem dX12_gather_173 : decode cX12_gather 173 = .ok (.iload 5, 2) := by decide +kernel
theorem dX12_gather_175 : decode cX12_gather 175 = .ok (.iadd, 1) := by decide +kernel
theorem dX12_gather_176 : decode cX12_gather 176 = .ok (.iaload, 1) := by decide +kernel
theorem dX12_gather_177 : decode cX12_gather 177 = .ok (.istore_n 3, 1) := by decide +kernel
theorem dX12_gather_178 : decode cX12_gather 178 = .ok (.goto (-85), 3) := by decide +kernel
theorem dX12_gather_181 : decode cX12_gather 181 = .ok (.iload 4, 2) := by decide +kernel
theorem dX12_gather_183 : decode cX12_gather 183 = .ok (.ireturn, 1) := by decide +kernel
def f_X12_gather_131 (k93 : XM → Int32 → Int32 → Int32 → Option (Int32 × XM)) (k100 : XM → Int32 → Int32 → Int32 → Int32 → Option (Int32 × XM)) (w0 : XM) (l2 : Int32) (l3 : Int32) (l4 : Int32) (l5 : Int32) : Option (Int32 × XM) :=
  k100 w0 l2 l3 l4 (l5 + 1)
def f_X12_gather_100 (k93 : XM → Int32 → Int32 → Int32 → Option (Int32 × XM)) (k100 : XM → Int32 → Int32 → Int32 → Int32 → Option (Int32 × XM)) (w0 : XM) (l2 : Int32) (l3 : Int32) (l4 : Int32) (l5 : Int32) : Option (Int32 × XM) :=
  x_lt (f_X12_has l2 l5) (fun y1 =>
  if y1 = (0 : Int32) then
  (f_X12_gather_131  k93 k100 w0 l2 l3 l4 l5)
  else (x_bo (f_X12_moreBy w0 l2 l3 l5) (fun y2 =>
  x_ck (((8 : Int32) * l2) + l3) 512 (
  if (y2 : Int32) = (x_ga w0 14 (((8 : Int32) * l2) + l3)) then
  (x_ck (w0.1 0 31) 6 (
  x_lt (x_pa w0 15 (w0.1 0 31) l5) (fun m3 =>
  x_lt (x_si m3 0 31 ((m3.1 0 31) + (1 : Int32))) (fun m4 =>
  x_lt (((1 : Int32) <<< (l5 &&& 31)) ^^^ (-1 : Int32)) (fun y5 =>
  x_ck ((54 : Int32) + l5) 353 (
  x_lt (x_ga m4 2 ((54 : Int32) + l5)) (fun y6 =>
  k93 m4 (l2 &&& y5) y6 l4)))))))
  else (f_X12_gather_131  k93 k100 w0 l2 l3 l4 l5)))))
def f_X12_gather_93 (k93 : XM → Int32 → Int32 → Int32 → Option (Int32 × XM)) (w0 : XM) (l2 : Int32) (l3 : Int32) (l4 : Int32) : Option (Int32 × XM) :=
  if l2 = (0 : Int32) then
  (some (l4, w0))
  else (x_lp (φ := XM → Int32 → Int32 → Int32 → Int32 → Option (Int32 × XM)) (fun _ _ _ _ _ => none) (f_X12_gather_100  k93) x_NN w0 l2 l3 l4 (0 : Int32))
def f_X12_gather (v0 : XM) (x0 : Int32) : Option (Int32 × XM) :=
  x_lt (x_si v0 0 0 (0 : Int32)) (fun m7 =>
  x_bo (f_X12_isStill m7 x0) (fun y8 =>
  if y8 = (0 : Int32) then
  (some ((-1 : Int32), m7))
  else (x_ck ((65 : Int32) + x0) 353 (
  x_bo (f_X12_layApart m7 (x_ga m7 2 ((65 : Int32) + x0))) (fun y9 =>
  x_bo (f_X12_layMore y9) (fun y10 =>
  x_lt ((1 : Int32) <<< ((x_ga y10 2 (2 : Int32)) &&& 31)) (fun y11 =>
  x_ck ((94 : Int32) + x0) 353 (
  x_lt ((x_ga y10 2 ((94 : Int32) + x0)) ^^^ (-1 : Int32)) (fun y12 =>
  x_lt ((y11 - (1 : Int32)) &&& y12) (fun y13 =>
  x_ck ((74 : Int32) + x0) 353 (
  x_lt (x_ga y10 2 ((74 : Int32) + x0)) (fun y14 =>
  x_ck (((8 : Int32) * y13) + y14) 512 (
  x_lt (x_ga y10 14 (((8 : Int32) * y13) + y14)) (fun y15 =>
  if (y15 : Int32) < (100000 : Int32) then
  (x_lt (x_si y10 0 31 (0 : Int32)) (fun m16 =>
  x_lp (φ := XM → Int32 → Int32 → Int32 → Option (Int32 × XM)) (fun _ _ _ _ => none) (f_X12_gather_93  ) x_NN m16 y13 y14 y15))
  else (some ((-1 : Int32), y10))))))))))))))))
set_option maxRecDepth 100000 in
set_option maxHeartbeats 4000000 in
theorem w_X12_gather_131 {p : Program} {l : Launch} {e : Env} {s : State} {m : MethodId} {args : Array Value} {below : List Frame} {meth : Method} {c : Code} {D : va_G} {tc : Nat → ClassId} {aK aV : Nat → Nat} {A : Nat → Prop} {ad0 : Nat → Nat}  (X : Cx p s m args meth c cX12_gather 6 (some .int) RX12 D tc aK aV A [(shModel, ad0)])  {o : Int32 × XM} {k93 : XM → Int32 → Int32 → Int32 → Option (Int32 × XM)} {k100 : XM → Int32 → Int32 → Int32 → Int32 → Option (Int32 × XM)} (hk93 : ∀ (w0 : XM) (l2 : Int32) (l3 : Int32) (l4 : Int32), k93 w0 l2 l3 l4 = some o → aW p l e (x_Rm 7) s m args below meth c D tc A 6 [(shModel, ad0)] (some (.int o.1)) True [o.2] 93 [(0, .ref (ad0 0)), (2, .int l2), (3, .int l3), (4, .int l4)] [] [w0]) (hk100 : ∀ (w0 : XM) (l2 : Int32) (l3 : Int32) (l4 : Int32) (l5 : Int32), k100 w0 l2 l3 l4 l5 = some o → aW p l e (x_Rm 7) s m args below meth c D tc A 6 [(shModel, ad0)] (some (.int o.1)) True [o.2] 100 [(0, .ref (ad0 0)), (2, .int l2), (3, .int l3), (4, .int l4), (5, .int l5)] [] [w0]) {w0 : XM} {l2 : Int32} {l3 : Int32} {l4 : Int32} {l5 : Int32}  (h : f_X12_gather_131  k93 k100 w0 l2 l3 l4 l5 = some o) : aW p l e (x_Rm 7) s m args below meth c D tc A 6 [(shModel, ad0)] (some (.int o.1)) True [o.2] 131 [(0, .ref (ad0 0)), (2, .int l2), (3, .int l3), (4, .int l4), (5, .int l5)] [] [w0] := by
  unfold f_X12_gather_131 at h
  refine a_iinc (pc := 131) X 4 [(5, .int (l5 + 1)), (0, .ref (ad0 0)), (2, .int l2), (3, .int l3), (4, .int l4)] dX12_gather_131 rfl (congrArg (HAdd.hAdd l5) q_ic_1) (by decide) rfl ?_
  refine a_goto (pc := 134) X 100 dX12_gather_134 rfl ?_
  refine a_sub [1, 2, 3, 4, 0] rfl ?_
  exact hk100 _ _ _ _ _ h
set_option maxRecDepth 100000 in
set_option maxHeartbeats 4000000 in
theorem w_X12_gather_100 {p : Program} {l : Launch} {e : Env} {s : State} {m : MethodId} {args : Array Value} {below : List Frame} {meth : Method} {c : Code} {D : va_G} {tc : Nat → ClassId} {aK aV : Nat → Nat} {A : Nat → Prop} {ad0 : Nat → Nat}  (X : Cx p s m args meth c cX12_gather 6 (some .int) RX12 D tc aK aV A [(shModel, ad0)])  {o : Int32 × XM} {k93 : XM → Int32 → Int32 → Int32 → Option (Int32 × XM)} (hk93 : ∀ (w0 : XM) (l2 : Int32) (l3 : Int32) (l4 : Int32), k93 w0 l2 l3 l4 = some o → aW p l e (x_Rm 7) s m args below meth c D tc A 6 [(shModel, ad0)] (some (.int o.1)) True [o.2] 93 [(0, .ref (ad0 0)), (2, .int l2), (3, .int l3), (4, .int l4)] [] [w0]) : ∀ (n : Nat), ∀ (w0 : XM) (l2 : Int32) (l3 : Int32) (l4 : Int32) (l5 : Int32), x_lp (φ := XM → Int32 → Int32 → Int32 → Int32 → Option (Int32 × XM)) (fun _ _ _ _ _ => none) (f_X12_gather_100  k93) n w0 l2 l3 l4 l5 = some o → aW p l e (x_Rm 7) s m args below meth c D tc A 6 [(shModel, ad0)] (some (.int o.1)) True [o.2] 100 [(0, .ref (ad0 0)), (2, .int l2), (3, .int l3), (4, .int l4), (5, .int l5)] [] [w0] := by
  intro n
  induction n with
  | zero => intro w0 l2 l3 l4 l5 h; exact absurd h (fun q => by cases q)
  | succ n ih =>
    intro w0 l2 l3 l4 l5 h
    have h : f_X12_gather_100  k93 (x_lp (φ := XM → Int32 → Int32 → Int32 → Int32 → Option (Int32 × XM)) (fun _ _ _ _ _ => none) (f_X12_gather_100  k93) n) w0 l2 l3 l4 l5 = some o := h
    generalize x_lp (φ := XM → Int32 → Int32 → Int32 → Int32 → Option (Int32 × XM)) (fun _ _ _ _ _ => none) (f_X12_gather_100  k93) n = k100 at h ih
    have hk100 := ih
    unfold f_X12_gather_100 at h
    refine a_iload_n (pc := 100) X 1 dX12_gather_100 rfl rfl ?_
    refine a_iload (pc := 101) X 4 dX12_gather_101 rfl ?_
    obtain ⟨y1, e_y1, h⟩ := x_lt_elim h
    refine a_callS (pc := 103) (st2 := [.int y1]) (vs2 := [w0]) X [] [] [.int l2, .int l5] [] cv_RX12_243 (c_X12_has   e_y1) rfl rfl rfl rfl rfl rfl rfl rfl rfl rfl rfl (Nat.le_of_ble_eq_true rfl) ⟨Nat.le_of_ble_eq_true rfl, Nat.le_of_ble_eq_true rfl⟩ dX12_gather_103 (fun z_103 => ?_)
    refine a_if_eq (pc := 106) X 131 dX12_gather_106 rfl (fun c_106 => ?_) (fun c_106 => ?_)
    · have h := x_ifp c_106 h
      exact w_X12_gather_131 X   hk93 hk100  h
    · have h := x_ifn c_106 h
      refine a_aload_n (pc := 109) X 0 dX12_gather_109 rfl rfl ?_
      refine a_iload_n (pc := 110) X 1 dX12_gather_110 rfl rfl ?_
      refine a_iload_n (pc := 111) X 2 dX12_gather_111 rfl rfl ?_
      refine a_iload (pc := 112) X 4 dX12_gather_112 rfl ?_
      obtain ⟨y2, e_y2, h⟩ := x_bo_elim h
      refine a_callV (pc := 114) (st2 := [.int y2]) (vs2 := [w0]) X [(0, 0, 20)] [none] 0 0 12 [.int l2, .int l3, .int l5] [] cv_RX12_333 (c_X12_moreBy (ad0 := ad0)  e_y2) rfl rfl rfl rfl rfl rfl rfl rfl rfl rfl rfl rfl rfl rfl rfl (Nat.le_of_ble_eq_true rfl) ⟨Nat.le_of_ble_eq_true rfl, Nat.le_of_ble_eq_true rfl⟩ dX12_gather_114 (fun _ => ?_)
      refine a_aload_n (pc := 117) X 0 dX12_gather_117 rfl rfl ?_
      refine a_getR (pc := 118) X 0 14 14 fl_RX12_136 rfl rfl rfl rfl rfl dX12_gather_118 ?_
      refine a_bipush (pc := 121) X dX12_gather_121 q_bp_8 ?_
      refine a_iload_n (pc := 123) X 1 dX12_gather_123 rfl rfl ?_
      refine a_imul (pc := 124) X dX12_gather_124 ?_
      refine a_iload_n (pc := 125) X 2 dX12_gather_125 rfl rfl ?_
      refine a_iadd (pc := 126) X dX12_gather_126 ?_
      obtain ⟨c_127, h⟩ := x_ck_elim h
      refine a_iald (pc := 127) X 0 rfl rfl rfl c_127 dX12_gather_127 ?_
      refine a_icmp_eq (pc := 128) X 137 dX12_gather_128 rfl (fun c_128 => ?_) (fun c_128 => ?_)
      · have h := x_ifp c_128 h
        refine a_aload_n (pc := 137) X 0 dX12_gather_137 rfl rfl ?_
        refine a_getR (pc := 138) X 0 15 15 fl_RX12_139 rfl rfl rfl rfl rfl dX12_gather_138 ?_
        refine a_aload_n (pc := 141) X 0 dX12_gather_141 rfl rfl ?_
        refine a_getI (pc := 142) X 0 fl_RX12_342 rfl rfl rfl rfl dX12_gather_142 ?_
        refine a_iload (pc := 145) X 4 dX12_gather_145 rfl ?_
        obtain ⟨c_147, h⟩ := x_ck_elim h
        refine a_iast (pc := 147) X 0 rfl rfl rfl c_147 dX12_gather_147 ?_
        obtain ⟨m3, e_m3, h⟩ := x_lt_elim h
        refine a_nm (vs2 := [m3]) (congrArg (fun q : XM => [q]) e_m3) ?_
        refine a_aload_n (pc := 148) X 0 dX12_gather_148 rfl rfl ?_
        refine a_dup (pc := 149) X dX12_gather_149 rfl ?_
        refine a_getI (pc := 150) X 0 fl_RX12_342 rfl rfl rfl rfl dX12_gather_150 ?_
        refine a_iconst (pc := 153) X dX12_gather_153 q_ic_1 ?_
        refine a_iadd (pc := 154) X dX12_gather_154 ?_
        refine a_putI (pc := 155) X 0 fl_RX12_342 rfl rfl rfl rfl dX12_gather_155 ?_
        obtain ⟨m4, e_m4, h⟩ := x_lt_elim h
        refine a_nm (vs2 := [m4]) (congrArg (fun q : XM => [q]) e_m4) ?_
        refine a_iload_n (pc := 158) X 1 dX12_gather_158 rfl rfl ?_
        refine a_iconst (pc := 159) X dX12_gather_159 q_ic_1 ?_
        refine a_iload (pc := 160) X 4 dX12_gather_160 rfl ?_
        refine a_ishl (pc := 162) X dX12_gather_162 ?_
        refine a_iconst (pc := 163) X dX12_gather_163 q_ic_m1 ?_
        refine a_ixor (pc := 164) X dX12_gather_164 ?_
        obtain ⟨y5, e_y5, h⟩ := x_lt_elim h
        refine a_ni e_y5 ?_
        refine a_iand (pc := 165) X dX12_gather_165 ?_
        refine a_istore_n (pc := 166) X [(2, .int (l2 &&& y5)), (0, .ref (ad0 0)), (3, .int l3), (4, .int l4), (5, .int l5)] dX12_gather_166 rfl (by decide) rfl ?_
        refine a_aload_n (pc := 167) X 1 dX12_gather_167 rfl rfl ?_
        refine a_getR (pc := 168) X 0 2 2 fl_RX12_98 rfl rfl rfl rfl rfl dX12_gather_168 ?_
        refine a_bipush (pc := 171) X dX12_gather_171 q_bp_54 ?_
        refine a_iload (pc := 173) X 4 dX12_gather_173 rfl ?_
        refine a_iadd (pc := 175) X dX12_gather_175 ?_
        obtain ⟨c_176, h⟩ := x_ck_elim h
        refine a_iald (pc := 176) X 0 rfl rfl rfl c_176 dX12_gather_176 ?_
        obtain ⟨y6, e_y6, h⟩ := x_lt_elim h
        refine a_ni e_y6 ?_
        refine a_istore_n (pc := 177) X [(3, .int y6), (2, .int (l2 &&& y5)), (0, .ref (ad0 0)), (4, .int l4), (5, .int l5)] dX12_gather_177 rfl (by decide) rfl ?_
        refine a_goto (pc := 178) X 93 dX12_gather_178 rfl ?_
        refine a_sub [2, 1, 0, 3] rfl ?_
        exact hk93 _ _ _ _ h
      · have h := x_ifn c_128 h
        exact w_X12_gather_131 X   hk93 hk100  h
set_option maxRecDepth 100000 in
set_option maxHeartbeats 4000000 in
theorem w_X12_gather_93 {p : Program} {l : Launch} {e : Env} {s : State} {m : MethodId} {args : Array Value} {below : List Frame} {meth : Method} {c : Code} {D : va_G} {tc : Nat → ClassId} {aK aV : Nat → Nat} {A : Nat → Prop} {ad0 : Nat → Nat}  (X : Cx p s m args meth c cX12_gather 6 (some .int) RX12 D tc aK aV A [(shModel, ad0)])  {o : Int32 × XM}  : ∀ (n : Nat), ∀ (w0 : XM) (l2 : Int32) (l3 : Int32) (l4 : Int32), x_lp (φ := XM → Int32 → Int32 → Int32 → Option (Int32 × XM)) (fun _ _ _ _ => none) (f_X12_gather_93  ) n w0 l2 l3 l4 = some o → aW p l e (x_Rm 7) s m args below meth c D tc A 6 [(shModel, ad0)] (some (.int o.1)) True [o.2] 93 [(0, .ref (ad0 0)), (2, .int l2), (3, .int l3), (4, .int l4)] [] [w0] := by
  intro n
  induction n with
  | zero => intro w0 l2 l3 l4 h; exact absurd h (fun q => by cases q)
  | succ n ih =>
    intro w0 l2 l3 l4 h
    have h : f_X12_gather_93   (x_lp (φ := XM → Int32 → Int32 → Int32 → Option (Int32 × XM)) (fun _ _ _ _ => none) (f_X12_gather_93  ) n) w0 l2 l3 l4 = some o := h
    generalize x_lp (φ := XM → Int32 → Int32 → Int32 → Option (Int32 × XM)) (fun _ _ _ _ => none) (f_X12_gather_93  ) n = k93 at h ih
    have hk93 := ih
    unfold f_X12_gather_93 at h
    refine a_iload_n (pc := 93) X 1 dX12_gather_93 rfl rfl ?_
    refine a_if_eq (pc := 94) X 181 dX12_gather_94 rfl (fun c_94 => ?_) (fun c_94 => ?_)
    · have h := x_ifp c_94 h
      refine a_iload (pc := 181) X 3 dX12_gather_181 rfl ?_
      have h := Option.some.inj h; subst h
      exact a_iret (pc := 183) X trivial dX12_gather_183
    · have h := x_ifn c_94 h
      refine a_iconst (pc := 97) X dX12_gather_97 q_ic_0 ?_
      refine a_istore (pc := 98) X [(5, .int (0 : Int32)), (0, .ref (ad0 0)), (2, .int l2), (3, .int l3), (4, .int l4)] dX12_gather_98 (by decide) rfl ?_
      refine a_sub [1, 2, 3, 4, 0] rfl ?_
      exact w_X12_gather_100 X   hk93 x_NN _ _ _ _ _ h
set_option maxRecDepth 100000 in
set_option maxHeartbeats 4000000 in
theorem c_X12_gather {l : Launch}  {ad0 : Nat → Nat} {v0 : XM} {x0 : Int32}  {o : Int32 × XM} (h : f_X12_gather v0 x0 = some o) : CT l yX12_gather cX12_gather 6 (some .int) 7 [(shModel, ad0)] [v0] (fun aK => [.ref (ad0 0), .int x0]) (some (.int o.1)) True [o.2] := by
  refine CT_of (by decide) (fun _ => Nat.le_of_ble_eq_true rfl) ?_
  intro p e s m args below meth c D tc aK aV A X
  have X : Cx p s m args meth c cX12_gather 6 (some .int) RX12 D tc aK aV A [(shModel, ad0)] := X
  show aW p l e (x_Rm 7) s m args below meth c D tc A 6 [(shModel, ad0)] (some (.int o.1)) True [o.2] 0 [(0, .ref (ad0 0)), (1, .int x0)] [] [v0]
  unfold f_X12_gather at h
  refine a_aload_n (pc := 0) X 0 dX12_gather_0 rfl rfl ?_
  refine a_iconst (pc := 1) X dX12_gather_1 q_ic_0 ?_
  refine a_putI (pc := 2) X 0 fl_RX12_1 rfl rfl rfl rfl dX12_gather_2 ?_
  obtain ⟨m7, e_m7, h⟩ := x_lt_elim h
  refine a_nm (vs2 := [m7]) (congrArg (fun q : XM => [q]) e_m7) ?_
  refine a_aload_n (pc := 5) X 0 dX12_gather_5 rfl rfl ?_
  refine a_iload_n (pc := 6) X 1 dX12_gather_6 rfl rfl ?_
  obtain ⟨y8, e_y8, h⟩ := x_bo_elim h
  refine a_callV (pc := 7) (st2 := [.int y8]) (vs2 := [m7]) X [(0, 0, 20)] [none] 0 0 12 [.int x0] [] cv_RX12_327 (c_X12_isStill (ad0 := ad0)  e_y8) rfl rfl rfl rfl rfl rfl rfl rfl rfl rfl rfl rfl rfl rfl rfl (Nat.le_of_ble_eq_true rfl) ⟨Nat.le_of_ble_eq_true rfl, Nat.le_of_ble_eq_true rfl⟩ dX12_gather_7 (fun z_7 => ?_)
  refine a_if_ne (pc := 10) X 15 dX12_gather_10 rfl (fun c_10 => ?_) (fun c_10 => ?_)
  · have h := x_ifn c_10 h
    refine a_aload_n (pc := 15) X 0 dX12_gather_15 rfl rfl ?_
    refine a_aload_n (pc := 16) X 0 dX12_gather_16 rfl rfl ?_
    refine a_getR (pc := 17) X 0 2 2 fl_RX12_98 rfl rfl rfl rfl rfl dX12_gather_17 ?_
    refine a_bipush (pc := 20) X dX12_gather_20 q_bp_65 ?_
    refine a_iload_n (pc := 22) X 1 dX12_gather_22 rfl rfl ?_
    refine a_iadd (pc := 23) X dX12_gather_23 ?_
    obtain ⟨c_24, h⟩ := x_ck_elim h
    refine a_iald (pc := 24) X 0 rfl rfl rfl c_24 dX12_gather_24 ?_
    obtain ⟨y9, e_y9, h⟩ := x_bo_elim h
    refine a_callV (pc := 25) (st2 := []) (vs2 := [y9]) X [(0, 0, 20)] [some y9] 0 0 12 [.int (x_ga m7 2 ((65 : Int32) + x0))] [] cv_RX12_336 (c_X12_layApart (ad0 := ad0)  e_y9) rfl rfl rfl rfl rfl rfl rfl rfl rfl rfl rfl rfl rfl rfl rfl (Nat.le_of_ble_eq_true rfl) ⟨Nat.le_of_ble_eq_true rfl, Nat.le_of_ble_eq_true rfl⟩ dX12_gather_25 (fun _ => ?_)
    refine a_aload_n (pc := 28) X 0 dX12_gather_28 rfl rfl ?_
    obtain ⟨y10, e_y10, h⟩ := x_bo_elim h
    refine a_callV (pc := 29) (st2 := []) (vs2 := [y10]) X [(0, 0, 20)] [some y10] 0 0 12 [] [] cv_RX12_339 (c_X12_layMore (ad0 := ad0)  e_y10) rfl rfl rfl rfl rfl rfl rfl rfl rfl rfl rfl rfl rfl rfl rfl (Nat.le_of_ble_eq_true rfl) ⟨Nat.le_of_ble_eq_true rfl, Nat.le_of_ble_eq_true rfl⟩ dX12_gather_29 (fun _ => ?_)
    refine a_iconst (pc := 32) X dX12_gather_32 q_ic_1 ?_
    refine a_aload_n (pc := 33) X 0 dX12_gather_33 rfl rfl ?_
    refine a_getR (pc := 34) X 0 2 2 fl_RX12_98 rfl rfl rfl rfl rfl dX12_gather_34 ?_
    refine a_iconst (pc := 37) X dX12_gather_37 q_ic_2 ?_
    refine a_iald (pc := 38) X 0 rfl rfl rfl (x_inl (by decide)) dX12_gather_38 ?_
    refine a_ishl (pc := 39) X dX12_gather_39 ?_
    obtain ⟨y11, e_y11, h⟩ := x_lt_elim h
    refine a_ni e_y11 ?_
    refine a_iconst (pc := 40) X dX12_gather_40 q_ic_1 ?_
    refine a_isub (pc := 41) X dX12_gather_41 ?_
    refine a_aload_n (pc := 42) X 0 dX12_gather_42 rfl rfl ?_
    refine a_getR (pc := 43) X 0 2 2 fl_RX12_98 rfl rfl rfl rfl rfl dX12_gather_43 ?_
    refine a_bipush (pc := 46) X dX12_gather_46 q_bp_94 ?_
    refine a_iload_n (pc := 48) X 1 dX12_gather_48 rfl rfl ?_
    refine a_iadd (pc := 49) X dX12_gather_49 ?_
    obtain ⟨c_50, h⟩ := x_ck_elim h
    refine a_iald (pc := 50) X 0 rfl rfl rfl c_50 dX12_gather_50 ?_
    refine a_iconst (pc := 51) X dX12_gather_51 q_ic_m1 ?_
    refine a_ixor (pc := 52) X dX12_gather_52 ?_
    obtain ⟨y12, e_y12, h⟩ := x_lt_elim h
    refine a_ni e_y12 ?_
    refine a_iand (pc := 53) X dX12_gather_53 ?_
    obtain ⟨y13, e_y13, h⟩ := x_lt_elim h
    refine a_ni e_y13 ?_
    refine a_istore_n (pc := 54) X [(2, .int y13), (0, .ref (ad0 0)), (1, .int x0)] dX12_gather_54 rfl (by decide) rfl ?_
    refine a_aload_n (pc := 55) X 1 dX12_gather_55 rfl rfl ?_
    refine a_getR (pc := 56) X 0 2 2 fl_RX12_98 rfl rfl rfl rfl rfl dX12_gather_56 ?_
    refine a_bipush (pc := 59) X dX12_gather_59 q_bp_74 ?_
    refine a_iload_n (pc := 61) X 2 dX12_gather_61 rfl rfl ?_
    refine a_iadd (pc := 62) X dX12_gather_62 ?_
    obtain ⟨c_63, h⟩ := x_ck_elim h
    refine a_iald (pc := 63) X 0 rfl rfl rfl c_63 dX12_gather_63 ?_
    obtain ⟨y14, e_y14, h⟩ := x_lt_elim h
    refine a_ni e_y14 ?_
    refine a_istore_n (pc := 64) X [(3, .int y14), (2, .int y13), (0, .ref (ad0 0)), (1, .int x0)] dX12_gather_64 rfl (by decide) rfl ?_
    refine a_aload_n (pc := 65) X 2 dX12_gather_65 rfl rfl ?_
    refine a_getR (pc := 66) X 0 14 14 fl_RX12_136 rfl rfl rfl rfl rfl dX12_gather_66 ?_
    refine a_bipush (pc := 69) X dX12_gather_69 q_bp_8 ?_
    refine a_iload_n (pc := 71) X 1 dX12_gather_71 rfl rfl ?_
    refine a_imul (pc := 72) X dX12_gather_72 ?_
    refine a_iload_n (pc := 73) X 0 dX12_gather_73 rfl rfl ?_
    refine a_iadd (pc := 74) X dX12_gather_74 ?_
    obtain ⟨c_75, h⟩ := x_ck_elim h
    refine a_iald (pc := 75) X 0 rfl rfl rfl c_75 dX12_gather_75 ?_
    obtain ⟨y15, e_y15, h⟩ := x_lt_elim h
    refine a_ni e_y15 ?_
    refine a_istore (pc := 76) X [(4, .int y15), (3, .int y14), (2, .int y13), (0, .ref (ad0 0)), (1, .int x0)] dX12_gather_76 (by decide) rfl ?_
    refine a_iload (pc := 78) X 0 dX12_gather_78 rfl ?_
    refine a_ldcw (pc := 80) X kc_RX12_256 dX12_gather_80 ?_
    refine a_icmp_lt (pc := 83) X 88 dX12_gather_83 rfl (fun c_83 => ?_) (fun c_83 => ?_)
    · have h := x_ifp c_83 h
      refine a_aload_n (pc := 88) X 3 dX12_gather_88 rfl rfl ?_
      refine a_iconst (pc := 89) X dX12_gather_89 q_ic_0 ?_
      refine a_putI (pc := 90) X 0 fl_RX12_342 rfl rfl rfl rfl dX12_gather_90 ?_
      obtain ⟨m16, e_m16, h⟩ := x_lt_elim h
      refine a_nm (vs2 := [m16]) (congrArg (fun q : XM => [q]) e_m16) ?_
      refine a_sub [3, 2, 1, 0] rfl ?_
      exact w_X12_gather_93 X    x_NN _ _ _ _ h
    · have h := x_ifn c_83 h
      refine a_iconst (pc := 86) X dX12_gather_86 q_ic_m1 ?_
      have h := Option.some.inj h; subst h
      exact a_iret (pc := 87) X trivial dX12_gather_87
  · have h := x_ifp c_10 h
    refine a_iconst (pc := 13) X dX12_gather_13 q_ic_m1 ?_
    have h := Option.some.inj h; subst h
    exact a_iret (pc := 14) X trivial dX12_gather_14
theorem dX12_gatherAt_0 : decode cX12_gatherAt 0 = .ok (.aload_n 0, 1) := by decide +kernel
theorem dX12_gatherAt_1 : decode cX12_gatherAt 1 = .ok (.iconst 0, 1) := by decide +kernel
theorem dX12_gatherAt_2 : decode cX12_gatherAt 2 = .ok (.putfield 1, 3) := by decide +kernel
theorem dX12_gatherAt_5 : decode cX12_gatherAt 5 = .ok (.iload_n 1, 1) := by decide +kernel
theorem dX12_gatherAt_6 : decode cX12_gatherAt 6 = .ok (.iconst 0, 1) := by decide +kernel
theorem dX12_gatherAt_7 : decode cX12_gatherAt 7 = .ok (.aload_n 0, 1) := by decide +kernel
theorem dX12_gatherAt_8 : decode cX12_gatherAt 8 = .ok (.getfield 342, 3) := by decide +kernel
theorem dX12_gatherAt_11 : decode cX12_gatherAt 11 = .ok (.iconst 1, 1) := by decide +kernel
theorem dX12_gatherAt_12 : decode cX12_gatherAt 12 = .ok (.isub, 1) := by decide +kernel
theorem dX12_gatherAt_13 : decode cX12_gatherAt 13 = .ok (.invokestatic 75, 3) := by decide +kernel
theorem dX12_gatherAt_16 : decode cX12_gatherAt 16 = .ok (.ifCond .eq 12, 3) := by decide +kernel
theorem dX12_gatherAt_19 : decode cX12_gatherAt 19 = .ok (.aload_n 0, 1) := by decide +kernel
theorem dX12_gatherAt_20 : decode cX12_gatherAt 20 = .ok (.getfield 139, 3) := by decide +kernel
theorem dX12_gatherAt_23 : decode cX12_gatherAt 23 = .ok (.iload_n 1, 1) := by decide +kernel
theorem dX12_gatherAt_24 : decode cX12_gatherAt 24 = .ok (.iaload, 1) := by decide +kernel
theorem dX12_gatherAt_25 : decode cX12_gatherAt 25 = .ok (.goto 4, 3) := by decide +kernel
theorem dX12_gatherAt_28 : decode cX12_gatherAt 28 = .ok (.iconst (-1), 1) := by decide +kernel
theorem dX12_gatherAt_29 : decode cX12_gatherAt 29 = .ok (.ireturn, 1) := by decide +kernel
def f_X12_gatherAt (v0 : XM) (x0 : Int32) : Option (Int32 × XM) :=
  x_lt (x_si v0 0 0 (0 : Int32)) (fun m1 =>
  x_lt (f_X12_isIn x0 (0 : Int32) ((m1.1 0 31) - (1 : Int32))) (fun y2 =>
  if y2 = (0 : Int32) then
  (some ((-1 : Int32), m1))
  else (x_ck x0 6 (
  some (x_ga m1 15 x0, m1)))))
set_option maxRecDepth 100000 in
set_option maxHeartbeats 4000000 in
theorem c_X12_gatherAt {l : Launch}  {ad0 : Nat → Nat} {v0 : XM} {x0 : Int32}  {o : Int32 × XM} (h : f_X12_gatherAt v0 x0 = some o) : CT l yX12_gatherAt cX12_gatherAt 2 (some .int) 1 [(shModel, ad0)] [v0] (fun aK => [.ref (ad0 0), .int x0]) (some (.int o.1)) True [o.2] := by
  refine CT_of (by decide) (fun _ => Nat.le_of_ble_eq_true rfl) ?_
  intro p e s m args below meth c D tc aK aV A X
  have X : Cx p s m args meth c cX12_gatherAt 2 (some .int) RX12 D tc aK aV A [(shModel, ad0)] := X
  show aW p l e (x_Rm 1) s m args below meth c D tc A 2 [(shModel, ad0)] (some (.int o.1)) True [o.2] 0 [(0, .ref (ad0 0)), (1, .int x0)] [] [v0]
  unfold f_X12_gatherAt at h
  refine a_aload_n (pc := 0) X 0 dX12_gatherAt_0 rfl rfl ?_
  refine a_iconst (pc := 1) X dX12_gatherAt_1 q_ic_0 ?_
  refine a_putI (pc := 2) X 0 fl_RX12_1 rfl rfl rfl rfl dX12_gatherAt_2 ?_
  obtain ⟨m1, e_m1, h⟩ := x_lt_elim h
  refine a_nm (vs2 := [m1]) (congrArg (fun q : XM => [q]) e_m1) ?_
  refine a_iload_n (pc := 5) X 1 dX12_gatherAt_5 rfl rfl ?_
  refine a_iconst (pc := 6) X dX12_gatherAt_6 q_ic_0 ?_
  refine a_aload_n (pc := 7) X 0 dX12_gatherAt_7 rfl rfl ?_
  refine a_getI (pc := 8) X 0 fl_RX12_342 rfl rfl rfl rfl dX12_gatherAt_8 ?_
  refine a_iconst (pc := 11) X dX12_gatherAt_11 q_ic_1 ?_
  refine a_isub (pc := 12) X dX12_gatherAt_12 ?_
  obtain ⟨y2, e_y2, h⟩ := x_lt_elim h
  refine a_callS (pc := 13) (st2 := [.int y2]) (vs2 := [m1]) X [] [] [.int x0, .int (0 : Int32), .int ((m1.1 0 31) - (1 : Int32))] [] cv_RX12_75 (c_X12_isIn   e_y2) rfl rfl rfl rfl rfl rfl rfl rfl rfl rfl rfl (Nat.le_of_ble_eq_true rfl) ⟨Nat.le_of_ble_eq_true rfl, Nat.le_of_ble_eq_true rfl⟩ dX12_gatherAt_13 (fun z_13 => ?_)
  refine a_if_eq (pc := 16) X 28 dX12_gatherAt_16 rfl (fun c_16 => ?_) (fun c_16 => ?_)
  · have h := x_ifp c_16 h
    refine a_iconst (pc := 28) X dX12_gatherAt_28 q_ic_m1 ?_
    have h := Option.some.inj h; subst h
    exact a_iret (pc := 29) X trivial dX12_gatherAt_29
  · have h := x_ifn c_16 h
    refine a_aload_n (pc := 19) X 0 dX12_gatherAt_19 rfl rfl ?_
    refine a_getR (pc := 20) X 0 15 15 fl_RX12_139 rfl rfl rfl rfl rfl dX12_gatherAt_20 ?_
    refine a_iload_n (pc := 23) X 1 dX12_gatherAt_23 rfl rfl ?_
    obtain ⟨c_24, h⟩ := x_ck_elim h
    refine a_iald (pc := 24) X 0 rfl rfl rfl c_24 dX12_gatherAt_24 ?_
    refine a_goto (pc := 25) X 29 dX12_gatherAt_25 rfl ?_
    have h := Option.some.inj h; subst h
    exact a_iret (pc := 29) X trivial dX12_gatherAt_29
theorem dX12_meet_0 : decode cX12_meet 0 = .ok (.aload_n 0, 1) := by decide +kernel
theorem dX12_meet_1 : decode cX12_meet 1 = .ok (.iconst 0, 1) := by decide +kernel
theorem dX12_meet_2 : decode cX12_meet 2 = .ok (.putfield 1, 3) := by decide +kernel
theorem dX12_meet_5 : decode cX12_meet 5 = .ok (.aload_n 0, 1) := by decide +kernel
theorem dX12_meet_6 : decode cX12_meet 6 = .ok (.iload_n 1, 1) := by decide +kernel
theorem dX12_meet_7 : decode cX12_meet 7 = .ok (.invokevirtual 327, 3) := by decide +kernel
theorem dX12_meet_10 : decode cX12_meet 10 = .ok (.ifCond .eq 11, 3) := by decide +kernel
theorem dX12_meet_13 : decode cX12_meet 13 = .ok (.aload_n 0, 1) := by decide +kernel
theorem dX12_meet_14 : decode cX12_meet 14 = .ok (.iload_n 2, 1) := by decide +kernel
theorem dX12_meet_15 : decode cX12_meet 15 = .ok (.invokevirtual 327, 3) := by decide +kernel
theorem dX12_meet_18 : decode cX12_meet 18 = .ok (.ifCond .ne 5, 3) := by decide +kernel
theorem dX12_meet_21 : decode cX12_meet 21 = .ok (.iconst (-1), 1) := by decide +kernel
theorem dX12_meet_22 : decode cX12_meet 22 = .ok (.ireturn, 1) := by decide +kernel
theorem dX12_meet_23 : decode cX12_meet 23 = .ok (.ldc_w 256, 3) := by decide +kernel
theorem dX12_meet_26 : decode cX12_meet 26 = .ok (.istore_n 3, 1) := by decide +kernel
theorem dX12_meet_27 : decode cX12_meet 27 = .ok (.iconst 0, 1) := by decide +kernel
theorem dX12_meet_28 : decode cX12_meet 28 = .ok (.istore 4, 2) := by decide +kernel
theorem dX12_meet_30 : decode cX12_meet 30 = .ok (.iload 4, 2) := by decide +kernel
theorem dX12_meet_32 : decode cX12_meet 32 = .ok (.aload_n 0, 1) := by decide +kernel
theorem dX12_meet_33 : decode cX12_meet 33 = .ok (.getfield 98, 3) := by decide +kernel
theorem dX12_meet_36 : decode cX12_meet 36 = .ok (.iconst 0, 1) := by decide +kernel
theorem dX12_meet_37 : decode cX12_meet 37 = .ok (.iaload, 1) := by decide +kernel
theorem dX12_meet_38 : decode cX12_meet 38 = .ok (.if_icmp .ge 103, 3) := by decide +kernel
theorem dX12_meet_41 : decode cX12_meet 41 = .ok (.aload_n 0, 1) := by decide +kernel
theorem dX12_meet_42 : decode cX12_meet 42 = .ok (.iload 4, 2) := by decide +kernel
theorem dX12_meet_44 : decode cX12_meet 44 = .ok (.aload_n 0, 1) := by decide +kernel
theorem dX12_meet_45 : decode cX12_meet 45 = .ok (.getfield 98, 3) := by decide +kernel
theorem dX12_meet_48 : decode cX12_meet 48 = .ok (.bipush 65, 2) := by decide +kernel
theorem dX12_meet_50 : decode cX12_meet 50 = .ok (.iload_n 1, 1) := by decide +kernel
theorem dX12_meet_51 : decode cX12_meet 51 = .ok (.iadd, 1) := by decide +kernel
theorem dX12_meet_52 : decode cX12_meet 52 = .ok (.iaload, 1) := by decide +kernel
theorem dX12_meet_53 : decode cX12_meet 53 = .ok (.invokevirtual 264, 3) := by decide +kernel
theorem dX12_meet_56 : decode cX12_meet 56 = .ok (.aload_n 0, 1) := by decide +kernel
theorem dX12_meet_57 : decode cX12_meet 57 = .ok (.aload_n 0, 1) := by decide +kernel
theorem dX12_meet_58 : decode cX12_meet 58 = .ok (.getfield 98, 3) := by decide +kernel
theorem dX12_meet_61 : decode cX12_meet 61 = .ok (.bipush 74, 2) := by decide +kernel
theorem dX12_meet_63 : decode cX12_meet 63 = .ok (.iload_n 1, 1) := by decide +kernel
theorem dX12_meet_64 : decode cX12_meet 64 = .ok (.iadd, 1) := by decide +kernel
theorem dX12_meet_65 : decode cX12_meet 65 = .ok (.iaload, 1) := by decide +kernel
theorem dX12_meet_66 : decode cX12_meet 66 = .ok (.invokevirtual 268, 3) := by decide +kernel
theorem dX12_meet_69 : decode cX12_meet 69 = .ok (.istore 5, 2) := by decide +kernel
theorem dX12_meet_71 : decode cX12_meet 71 = .ok (.aload_n 0, 1) := by decide +kernel
theorem dX12_meet_72 : decode cX12_meet 72 = .ok (.iload 4, 2) := by decide +kernel
theorem dX12_meet_74 : decode cX12_meet 74 = .ok (.aload_n 0, 1) := by decide +kernel
theorem dX12_meet_75 : decode cX12_meet 75 = .ok (.getfield 98, 3) := by decide +kernel
theorem dX12_meet_78 : decode cX12_meet 78 = .ok (.bipush 65, 2) := by decide +kernel
theorem dX12_meet_80 : decode cX12_meet 80 = .ok (.iload_n 2, 1) := by decide +kernel
theorem dX12_meet_81 : decode cX12_meet 81 = .ok (.iadd, 1) := by decide +kernel
theorem dX12_meet_82 : decode cX12_meet 82 = .ok (.iaload, 1) := by decide +kernel
theorem dX12_meet_83 : decode cX12_meet 83 = .ok (.invokevirtual 264, 3) := by decide +kernel
theorem dX12_meet_86 : decode cX12_meet 86 = .ok (.aload_n 0, 1) := by decide +kernel
theorem dX12_meet_87 : decode cX12_meet 87 = .ok (.aload_n 0, 1) := by decide +kernel
theorem dX12_meet_88 : decode cX12_meet 88 = .ok (.getfield 98, 3) := by decide +kernel
theorem dX12_meet_91 : decode cX12_meet 91 = .ok (.bipush 74, 2) := by decide +kernel
theorem dX12_meet_93 : decode cX12_meet 93 = .ok (.iload_n 2, 1) := by decide +kernel
theorem dX12_meet_94 : decode cX12_meet 94 = .ok (.iadd, 1) := by decide +kernel
theorem dX12_meet_95 : decode cX12_meet 95 = .ok (.iaload, 1) := by decide +kernel
theorem dX12_meet_96 : decode cX12_meet 96 = .ok (.invokevirtual 268, 3) := by decide +kernel
theorem dX12_meet_99 : decode cX12_meet 99 = .ok (.istore 6, 2) := by decide +kernel
theorem dX12_meet_101 : decode cX12_meet 101 = .ok (.iload 5, 2) := by decide +kernel
theorem dX12_meet_103 : decode cX12_meet 103 = .ok (.iload 6, 2) := by decide +kernel
theorem dX12_meet_105 : decode cX12_meet 105 = .ok (.if_icmp .le 8, 3) := by decide +kernel
theorem dX12_meet_108 : decode cX12_meet 108 = .ok (.iload 5, 2) := by decide +kernel
theorem dX12_meet_110 : decode cX12_meet 110 = .ok (.goto 5, 3) := by decide +kernel
theorem dX12_meet_113 : decode cX12_meet 113 = .ok (.iload 6, 2) := by decide +kernel
theorem dX12_meet_115 : decode cX12_meet 115 = .ok (.istore 7, 2) := by decide +kernel
theorem dX12_meet_117 : decode cX12_meet 117 = .ok (.iload 7, 2) := by decide +kernel
theorem dX12_meet_119 : decode cX12_meet 119 = .ok (.iload_n 3, 1) := by decide +kernel
theorem dX12_meet_120 : decode cX12_meet 120 = .ok (.if_icmp .lt 6, 3) := by decide +kernel
theorem dX12_meet_123 : decode cX12_meet 123 = .ok (.goto 12, 3) := by decide +kernel
theorem dX12_meet_126 : decode cX12_meet 126 = .ok (.iload 7, 2) := by decide +kernel
theorem dX12_meet_128 : decode cX12_meet 128 = .ok (.istore_n 3, 1) := by decide +kernel
theorem dX12_meet_129 : decode cX12_meet 129 = .ok (.aload_n 0, 1) := by decide +kernel
theorem dX12_meet_130 : decode cX12_meet 130 = .ok (.iload 4, 2) := by decide +kernel
theorem dX12_meet_132 : decode cX12_meet 132 = .ok (.putfield 142, 3) := by decide +kernel
theorem dX12_meet_135 : decode cX12_meet 135 = .ok (.iinc 4 1, 3) := by decide +kernel
theorem dX12_meet_138 : decode cX12_meet 138 = .ok (.goto (-108), 3) := by decide +kernel
theorem dX12_meet_141 : decode cX12_meet 141 = .ok (.iload_n 3, 1) := by decide +kernel
theorem dX12_meet_142 : decode cX12_meet 142 = .ok (.ldc_w 256, 3) := by decide +kernel
theorem dX12_meet_145 : decode cX12_meet 145 = .ok (.if_icmp .ne 7, 3) := by decide +kernel
theorem dX12_meet_148 : decode cX12_meet 148 = .ok (.iconst (-1), 1) := by decide +kernel
theorem dX12_meet_149 : decode cX12_meet 149 = .ok (.goto 4, 3) := by decide +kernel
theorem dX12_meet_152 : decode cX12_meet 152 = .ok (.iload_n 3, 1) := by decide +kernel
theorem dX12_meet_153 : decode cX12_meet 153 = .ok (.ireturn, 1) := by decide +kernel
def f_X12_meet_135 (k30 : XM → Int32 → Int32 → Int32 → Int32 → Option (Int32 × XM)) (w0 : XM) (l1 : Int32) (l2 : Int32) (l3 : Int32) (l4 : Int32) : Option (Int32 × XM) :=
  k30 w0 l1 l2 l3 (l4 + 1)
def f_X12_meet_115 (k30 : XM → Int32 → Int32 → Int32 → Int32 → Option (Int32 × XM)) (w0 : XM) (l1 : Int32) (l2 : Int32) (l3 : Int32) (l4 : Int32) (s0 : Int32) : Option (Int32 × XM) :=
  if (s0 : Int32) < l3 then
  (x_lt (x_si w0 0 32 l4) (fun m1 =>
  f_X12_meet_135  k30 m1 l1 l2 s0 l4))
  else (f_X12_meet_135  k30 w0 l1 l2 l3 l4)
def f_X12_meet_30 (k30 : XM → Int32 → Int32 → Int32 → Int32 → Option (Int32 × XM)) (w0 : XM) (l1 : Int32) (l2 : Int32) (l3 : Int32) (l4 : Int32) : Option (Int32 × XM) :=
  if ((x_ga w0 2 (0 : Int32)) : Int32) ≤ l4 then
  (if (l3 : Int32) = (100000 : Int32) then
  (some ((-1 : Int32), w0))
  else (some (l3, w0)))
  else (x_ck ((65 : Int32) + l1) 353 (
  x_bo (f_X12_layFar w0 l4 (x_ga w0 2 ((65 : Int32) + l1))) (fun y2 =>
  x_ck ((74 : Int32) + l1) 353 (
  x_bo (f_X12_hoursFrom y2 (x_ga y2 2 ((74 : Int32) + l1))) (fun y3 =>
  x_ck ((65 : Int32) + l2) 353 (
  x_bo (f_X12_layFar y2 l4 (x_ga y2 2 ((65 : Int32) + l2))) (fun y4 =>
  x_ck ((74 : Int32) + l2) 353 (
  x_bo (f_X12_hoursFrom y4 (x_ga y4 2 ((74 : Int32) + l2))) (fun y5 =>
  if (y3 : Int32) ≤ y5 then
  (f_X12_meet_115  k30 y4 l1 l2 l3 l4 y5)
  else (f_X12_meet_115  k30 y4 l1 l2 l3 l4 y3))))))))))
def f_X12_meet (v0 : XM) (x0 : Int32) (x1 : Int32) : Option (Int32 × XM) :=
  x_lt (x_si v0 0 0 (0 : Int32)) (fun m6 =>
  x_bo (f_X12_isStill m6 x0) (fun y7 =>
  if y7 = (0 : Int32) then
  (some ((-1 : Int32), m6))
  else (x_bo (f_X12_isStill m6 x1) (fun y8 =>
  if y8 = (0 : Int32) then
  (some ((-1 : Int32), m6))
  else (x_lp (φ := XM → Int32 → Int32 → Int32 → Int32 → Option (Int32 × XM)) (fun _ _ _ _ _ => none) (f_X12_meet_30  ) x_NN m6 x0 x1 (100000 : Int32) (0 : Int32))))))
set_option maxRecDepth 100000 in
set_option maxHeartbeats 4000000 in
theorem w_X12_meet_135 {p : Program} {l : Launch} {e : Env} {s : State} {m : MethodId} {args : Array Value} {below : List Frame} {meth : Method} {c : Code} {D : va_G} {tc : Nat → ClassId} {aK aV : Nat → Nat} {A : Nat → Prop} {ad0 : Nat → Nat}  (X : Cx p s m args meth c cX12_meet 8 (some .int) RX12 D tc aK aV A [(shModel, ad0)])  {o : Int32 × XM} {k30 : XM → Int32 → Int32 → Int32 → Int32 → Option (Int32 × XM)} (hk30 : ∀ (w0 : XM) (l1 : Int32) (l2 : Int32) (l3 : Int32) (l4 : Int32), k30 w0 l1 l2 l3 l4 = some o → aW p l e (x_Rm 6) s m args below meth c D tc A 8 [(shModel, ad0)] (some (.int o.1)) True [o.2] 30 [(0, .ref (ad0 0)), (1, .int l1), (2, .int l2), (3, .int l3), (4, .int l4)] [] [w0]) {w0 : XM} {l1 : Int32} {l2 : Int32} {l3 : Int32} {l4 : Int32}  (h : f_X12_meet_135  k30 w0 l1 l2 l3 l4 = some o) : aW p l e (x_Rm 6) s m args below meth c D tc A 8 [(shModel, ad0)] (some (.int o.1)) True [o.2] 135 [(0, .ref (ad0 0)), (1, .int l1), (2, .int l2), (3, .int l3), (4, .int l4)] [] [w0] := by
  unfold f_X12_meet_135 at h
  refine a_iinc (pc := 135) X 4 [(4, .int (l4 + 1)), (0, .ref (ad0 0)), (1, .int l1), (2, .int l2), (3, .int l3)] dX12_meet_135 rfl (congrArg (HAdd.hAdd l4) q_ic_1) (by decide) rfl ?_
  refine a_goto (pc := 138) X 30 dX12_meet_138 rfl ?_
  refine a_sub [1, 2, 3, 4, 0] rfl ?_
  exact hk30 _ _ _ _ _ h
set_option maxRecDepth 100000 in
set_option maxHeartbeats 4000000 in
theorem w_X12_meet_115 {p : Program} {l : Launch} {e : Env} {s : State} {m : MethodId} {args : Array Value} {below : List Frame} {meth : Method} {c : Code} {D : va_G} {tc : Nat → ClassId} {aK aV : Nat → Nat} {A : Nat → Prop} {ad0 : Nat → Nat}  (X : Cx p s m args meth c cX12_meet 8 (some .int) RX12 D tc aK aV A [(shModel, ad0)])  {o : Int32 × XM} {k30 : XM → Int32 → Int32 → Int32 → Int32 → Option (Int32 × XM)} (hk30 : ∀ (w0 : XM) (l1 : Int32) (l2 : Int32) (l3 : Int32) (l4 : Int32), k30 w0 l1 l2 l3 l4 = some o → aW p l e (x_Rm 6) s m args below meth c D tc A 8 [(shModel, ad0)] (some (.int o.1)) True [o.2] 30 [(0, .ref (ad0 0)), (1, .int l1), (2, .int l2), (3, .int l3), (4, .int l4)] [] [w0]) {w0 : XM} {l1 : Int32} {l2 : Int32} {l3 : Int32} {l4 : Int32} {s0 : Int32}  (h : f_X12_meet_115  k30 w0 l1 l2 l3 l4 s0 = some o) : aW p l e (x_Rm 6) s m args below meth c D tc A 8 [(shModel, ad0)] (some (.int o.1)) True [o.2] 115 [(0, .ref (ad0 0)), (1, .int l1), (2, .int l2), (3, .int l3), (4, .int l4)] [.int s0] [w0] := by
  unfold f_X12_meet_115 at h
  refine a_istore (pc := 115) X [(7, .int s0), (0, .ref (ad0 0)), (1, .int l1), (2, .int l2), (3, .int l3), (4, .int l4)] dX12_meet_115 (by decide) rfl ?_
  refine a_iload (pc := 117) X 0 dX12_meet_117 rfl ?_
  refine a_iload_n (pc := 119) X 4 dX12_meet_119 rfl rfl ?_
  refine a_icmp_lt (pc := 120) X 126 dX12_meet_120 rfl (fun c_120 => ?_) (fun c_120 => ?_)
  · have h := x_ifp c_120 h
    refine a_iload (pc := 126) X 0 dX12_meet_126 rfl ?_
    refine a_istore_n (pc := 128) X [(3, .int s0), (7, .int s0), (0, .ref (ad0 0)), (1, .int l1), (2, .int l2), (4, .int l4)] dX12_meet_128 rfl (by decide) rfl ?_
    refine a_aload_n (pc := 129) X 2 dX12_meet_129 rfl rfl ?_
    refine a_iload (pc := 130) X 5 dX12_meet_130 rfl ?_
    refine a_putI (pc := 132) X 0 fl_RX12_142 rfl rfl rfl rfl dX12_meet_132 ?_
    obtain ⟨m1, e_m1, h⟩ := x_lt_elim h
    refine a_nm (vs2 := [m1]) (congrArg (fun q : XM => [q]) e_m1) ?_
    refine a_sub [2, 3, 4, 0, 5] rfl ?_
    exact w_X12_meet_135 X   hk30  h
  · have h := x_ifn c_120 h
    refine a_goto (pc := 123) X 135 dX12_meet_123 rfl ?_
    refine a_sub [1, 2, 3, 4, 5] rfl ?_
    exact w_X12_meet_135 X   hk30  h
set_option maxRecDepth 100000 in
set_option maxHeartbeats 4000000 in
theorem w_X12_meet_30 {p : Program} {l : Launch} {e : Env} {s : State} {m : MethodId} {args : Array Value} {below : List Frame} {meth : Method} {c : Code} {D : va_G} {tc : Nat → ClassId} {aK aV : Nat → Nat} {A : Nat → Prop} {ad0 : Nat → Nat}  (X : Cx p s m args meth c cX12_meet 8 (some .int) RX12 D tc aK aV A [(shModel, ad0)])  {o : Int32 × XM}  : ∀ (n : Nat), ∀ (w0 : XM) (l1 : Int32) (l2 : Int32) (l3 : Int32) (l4 : Int32), x_lp (φ := XM → Int32 → Int32 → Int32 → Int32 → Option (Int32 × XM)) (fun _ _ _ _ _ => none) (f_X12_meet_30  ) n w0 l1 l2 l3 l4 = some o → aW p l e (x_Rm 6) s m args below meth c D tc A 8 [(shModel, ad0)] (some (.int o.1)) True [o.2] 30 [(0, .ref (ad0 0)), (1, .int l1), (2, .int l2), (3, .int l3), (4, .int l4)] [] [w0] := by
  intro n
  induction n with
  | zero => intro w0 l1 l2 l3 l4 h; exact absurd h (fun q => by cases q)
  | succ n ih =>
    intro w0 l1 l2 l3 l4 h
    have h : f_X12_meet_30   (x_lp (φ := XM → Int32 → Int32 → Int32 → Int32 → Option (Int32 × XM)) (fun _ _ _ _ _ => none) (f_X12_meet_30  ) n) w0 l1 l2 l3 l4 = some o := h
    generalize x_lp (φ := XM → Int32 → Int32 → Int32 → Int32 → Option (Int32 × XM)) (fun _ _ _ _ _ => none) (f_X12_meet_30  ) n = k30 at h ih
    have hk30 := ih
    unfold f_X12_meet_30 at h
    refine a_iload (pc := 30) X 4 dX12_meet_30 rfl ?_
    refine a_aload_n (pc := 32) X 0 dX12_meet_32 rfl rfl ?_
    refine a_getR (pc := 33) X 0 2 2 fl_RX12_98 rfl rfl rfl rfl rfl dX12_meet_33 ?_
    refine a_iconst (pc := 36) X dX12_meet_36 q_ic_0 ?_
    refine a_iald (pc := 37) X 0 rfl rfl rfl (x_inl (by decide)) dX12_meet_37 ?_
    refine a_icmp_ge (pc := 38) X 141 dX12_meet_38 rfl (fun c_38 => ?_) (fun c_38 => ?_)
    · have h := x_ifp c_38 h
      refine a_iload_n (pc := 141) X 3 dX12_meet_141 rfl rfl ?_
      refine a_ldcw (pc := 142) X kc_RX12_256 dX12_meet_142 ?_
      refine a_icmp_ne (pc := 145) X 152 dX12_meet_145 rfl (fun c_145 => ?_) (fun c_145 => ?_)
      · have h := x_ifn c_145 h
        refine a_iload_n (pc := 152) X 3 dX12_meet_152 rfl rfl ?_
        have h := Option.some.inj h; subst h
        exact a_iret (pc := 153) X trivial dX12_meet_153
      · have h := x_ifp c_145 h
        refine a_iconst (pc := 148) X dX12_meet_148 q_ic_m1 ?_
        refine a_goto (pc := 149) X 153 dX12_meet_149 rfl ?_
        have h := Option.some.inj h; subst h
        exact a_iret (pc := 153) X trivial dX12_meet_153
    · have h := x_ifn c_38 h
      refine a_aload_n (pc := 41) X 0 dX12_meet_41 rfl rfl ?_
      refine a_iload (pc := 42) X 4 dX12_meet_42 rfl ?_
      refine a_aload_n (pc := 44) X 0 dX12_meet_44 rfl rfl ?_
      refine a_getR (pc := 45) X 0 2 2 fl_RX12_98 rfl rfl rfl rfl rfl dX12_meet_45 ?_
      refine a_bipush (pc := 48) X dX12_meet_48 q_bp_65 ?_
      refine a_iload_n (pc := 50) X 1 dX12_meet_50 rfl rfl ?_
      refine a_iadd (pc := 51) X dX12_meet_51 ?_
      obtain ⟨c_52, h⟩ := x_ck_elim h
      refine a_iald (pc := 52) X 0 rfl rfl rfl c_52 dX12_meet_52 ?_
      obtain ⟨y2, e_y2, h⟩ := x_bo_elim h
      refine a_callV (pc := 53) (st2 := []) (vs2 := [y2]) X [(0, 0, 20)] [some y2] 0 0 12 [.int l4, .int (x_ga w0 2 ((65 : Int32) + l1))] [] cv_RX12_264 (c_X12_layFar (ad0 := ad0)  e_y2) rfl rfl rfl rfl rfl rfl rfl rfl rfl rfl rfl rfl rfl rfl rfl (Nat.le_of_ble_eq_true rfl) ⟨Nat.le_of_ble_eq_true rfl, Nat.le_of_ble_eq_true rfl⟩ dX12_meet_53 (fun _ => ?_)
      refine a_aload_n (pc := 56) X 0 dX12_meet_56 rfl rfl ?_
      refine a_aload_n (pc := 57) X 0 dX12_meet_57 rfl rfl ?_
      refine a_getR (pc := 58) X 0 2 2 fl_RX12_98 rfl rfl rfl rfl rfl dX12_meet_58 ?_
      refine a_bipush (pc := 61) X dX12_meet_61 q_bp_74 ?_
      refine a_iload_n (pc := 63) X 1 dX12_meet_63 rfl rfl ?_
      refine a_iadd (pc := 64) X dX12_meet_64 ?_
      obtain ⟨c_65, h⟩ := x_ck_elim h
      refine a_iald (pc := 65) X 0 rfl rfl rfl c_65 dX12_meet_65 ?_
      obtain ⟨y3, e_y3, h⟩ := x_bo_elim h
      refine a_callV (pc := 66) (st2 := [.int y3]) (vs2 := [y2]) X [(0, 0, 20)] [none] 0 0 12 [.int (x_ga y2 2 ((74 : Int32) + l1))] [] cv_RX12_268 (c_X12_hoursFrom (ad0 := ad0)  e_y3) rfl rfl rfl rfl rfl rfl rfl rfl rfl rfl rfl rfl rfl rfl rfl (Nat.le_of_ble_eq_true rfl) ⟨Nat.le_of_ble_eq_true rfl, Nat.le_of_ble_eq_true rfl⟩ dX12_meet_66 (fun _ => ?_)
      refine a_istore (pc := 69) X [(5, .int y3), (0, .ref (ad0 0)), (1, .int l1), (2, .int l2), (3, .int l3), (4, .int l4)] dX12_meet_69 (by decide) rfl ?_
      refine a_aload_n (pc := 71) X 1 dX12_meet_71 rfl rfl ?_
      refine a_iload (pc := 72) X 5 dX12_meet_72 rfl ?_
      refine a_aload_n (pc := 74) X 1 dX12_meet_74 rfl rfl ?_
      refine a_getR (pc := 75) X 0 2 2 fl_RX12_98 rfl rfl rfl rfl rfl dX12_meet_75 ?_
      refine a_bipush (pc := 78) X dX12_meet_78 q_bp_65 ?_
      refine a_iload_n (pc := 80) X 3 dX12_meet_80 rfl rfl ?_
      refine a_iadd (pc := 81) X dX12_meet_81 ?_
      obtain ⟨c_82, h⟩ := x_ck_elim h
      refine a_iald (pc := 82) X 0 rfl rfl rfl c_82 dX12_meet_82 ?_
      obtain ⟨y4, e_y4, h⟩ := x_bo_elim h
      refine a_callV (pc := 83) (st2 := []) (vs2 := [y4]) X [(0, 0, 20)] [some y4] 0 0 12 [.int l4, .int (x_ga y2 2 ((65 : Int32) + l2))] [] cv_RX12_264 (c_X12_layFar (ad0 := ad0)  e_y4) rfl rfl rfl rfl rfl rfl rfl rfl rfl rfl rfl rfl rfl rfl rfl (Nat.le_of_ble_eq_true rfl) ⟨Nat.le_of_ble_eq_true rfl, Nat.le_of_ble_eq_true rfl⟩ dX12_meet_83 (fun _ => ?_)
      refine a_aload_n (pc := 86) X 1 dX12_meet_86 rfl rfl ?_
      refine a_aload_n (pc := 87) X 1 dX12_meet_87 rfl rfl ?_
      refine a_getR (pc := 88) X 0 2 2 fl_RX12_98 rfl rfl rfl rfl rfl dX12_meet_88 ?_
      refine a_bipush (pc := 91) X dX12_meet_91 q_bp_74 ?_
      refine a_iload_n (pc := 93) X 3 dX12_meet_93 rfl rfl ?_
      refine a_iadd (pc := 94) X dX12_meet_94 ?_
      obtain ⟨c_95, h⟩ := x_ck_elim h
      refine a_iald (pc := 95) X 0 rfl rfl rfl c_95 dX12_meet_95 ?_
      obtain ⟨y5, e_y5, h⟩ := x_bo_elim h
      refine a_callV (pc := 96) (st2 := [.int y5]) (vs2 := [y4]) X [(0, 0, 20)] [none] 0 0 12 [.int (x_ga y4 2 ((74 : Int32) + l2))] [] cv_RX12_268 (c_X12_hoursFrom (ad0 := ad0)  e_y5) rfl rfl rfl rfl rfl rfl rfl rfl rfl rfl rfl rfl rfl rfl rfl (Nat.le_of_ble_eq_true rfl) ⟨Nat.le_of_ble_eq_true rfl, Nat.le_of_ble_eq_true rfl⟩ dX12_meet_96 (fun _ => ?_)
      refine a_istore (pc := 99) X [(6, .int y5), (5, .int y3), (0, .ref (ad0 0)), (1, .int l1), (2, .int l2), (3, .int l3), (4, .int l4)] dX12_meet_99 (by decide) rfl ?_
      refine a_iload (pc := 101) X 1 dX12_meet_101 rfl ?_
      refine a_iload (pc := 103) X 0 dX12_meet_103 rfl ?_
      refine a_icmp_le (pc := 105) X 113 dX12_meet_105 rfl (fun c_105 => ?_) (fun c_105 => ?_)
      · have h := x_ifp c_105 h
        refine a_iload (pc := 113) X 0 dX12_meet_113 rfl ?_
        refine a_sub [2, 3, 4, 5, 6] rfl ?_
        exact w_X12_meet_115 X   hk30  h
      · have h := x_ifn c_105 h
        refine a_iload (pc := 108) X 1 dX12_meet_108 rfl ?_
        refine a_goto (pc := 110) X 115 dX12_meet_110 rfl ?_
        refine a_sub [2, 3, 4, 5, 6] rfl ?_
        exact w_X12_meet_115 X   hk30  h
set_option maxRecDepth 100000 in
set_option maxHeartbeats 4000000 in
theorem c_X12_meet {l : Launch}  {ad0 : Nat → Nat} {v0 : XM} {x0 : Int32} {x1 : Int32}  {o : Int32 × XM} (h : f_X12_meet v0 x0 x1 = some o) : CT l yX12_meet cX12_meet 8 (some .int) 6 [(shModel, ad0)] [v0] (fun aK => [.ref (ad0 0), .int x0, .int x1]) (some (.int o.1)) True [o.2] := by
  refine CT_of (by decide) (fun _ => Nat.le_of_ble_eq_true rfl) ?_
  intro p e s m args below meth c D tc aK aV A X
  have X : Cx p s m args meth c cX12_meet 8 (some .int) RX12 D tc aK aV A [(shModel, ad0)] := X
  show aW p l e (x_Rm 6) s m args below meth c D tc A 8 [(shModel, ad0)] (some (.int o.1)) True [o.2] 0 [(0, .ref (ad0 0)), (1, .int x0), (2, .int x1)] [] [v0]
  unfold f_X12_meet at h
  refine a_aload_n (pc := 0) X 0 dX12_meet_0 rfl rfl ?_
  refine a_iconst (pc := 1) X dX12_meet_1 q_ic_0 ?_
  refine a_putI (pc := 2) X 0 fl_RX12_1 rfl rfl rfl rfl dX12_meet_2 ?_
  obtain ⟨m6, e_m6, h⟩ := x_lt_elim h
  refine a_nm (vs2 := [m6]) (congrArg (fun q : XM => [q]) e_m6) ?_
  refine a_aload_n (pc := 5) X 0 dX12_meet_5 rfl rfl ?_
  refine a_iload_n (pc := 6) X 1 dX12_meet_6 rfl rfl ?_
  obtain ⟨y7, e_y7, h⟩ := x_bo_elim h
  refine a_callV (pc := 7) (st2 := [.int y7]) (vs2 := [m6]) X [(0, 0, 20)] [none] 0 0 12 [.int x0] [] cv_RX12_327 (c_X12_isStill (ad0 := ad0)  e_y7) rfl rfl rfl rfl rfl rfl rfl rfl rfl rfl rfl rfl rfl rfl rfl (Nat.le_of_ble_eq_true rfl) ⟨Nat.le_of_ble_eq_true rfl, Nat.le_of_ble_eq_true rfl⟩ dX12_meet_7 (fun z_7 => ?_)
  refine a_if_eq (pc := 10) X 21 dX12_meet_10 rfl (fun c_10 => ?_) (fun c_10 => ?_)
  · have h := x_ifp c_10 h
    refine a_iconst (pc := 21) X dX12_meet_21 q_ic_m1 ?_
    have h := Option.some.inj h; subst h
    exact a_iret (pc := 22) X trivial dX12_meet_22
  · have h := x_ifn c_10 h
    refine a_aload_n (pc := 13) X 0 dX12_meet_13 rfl rfl ?_
    refine a_iload_n (pc := 14) X 2 dX12_meet_14 rfl rfl ?_
    obtain ⟨y8, e_y8, h⟩ := x_bo_elim h
    refine a_callV (pc := 15) (st2 := [.int y8]) (vs2 := [m6]) X [(0, 0, 20)] [none] 0 0 12 [.int x1] [] cv_RX12_327 (c_X12_isStill (ad0 := ad0)  e_y8) rfl rfl rfl rfl rfl rfl rfl rfl rfl rfl rfl rfl rfl rfl rfl (Nat.le_of_ble_eq_true rfl) ⟨Nat.le_of_ble_eq_true rfl, Nat.le_of_ble_eq_true rfl⟩ dX12_meet_15 (fun z_15 => ?_)
    refine a_if_ne (pc := 18) X 23 dX12_meet_18 rfl (fun c_18 => ?_) (fun c_18 => ?_)
    · have h := x_ifn c_18 h
      refine a_ldcw (pc := 23) X kc_RX12_256 dX12_meet_23 ?_
      refine a_istore_n (pc := 26) X [(3, .int (100000 : Int32)), (0, .ref (ad0 0)), (1, .int x0), (2, .int x1)] dX12_meet_26 rfl (by decide) rfl ?_
      refine a_iconst (pc := 27) X dX12_meet_27 q_ic_0 ?_
      refine a_istore (pc := 28) X [(4, .int (0 : Int32)), (3, .int (100000 : Int32)), (0, .ref (ad0 0)), (1, .int x0), (2, .int x1)] dX12_meet_28 (by decide) rfl ?_
      refine a_sub [2, 3, 4, 1, 0] rfl ?_
      exact w_X12_meet_30 X    x_NN _ _ _ _ _ h
    · have h := x_ifp c_18 h
      refine a_iconst (pc := 21) X dX12_meet_21 q_ic_m1 ?_
      have h := Option.some.inj h; subst h
      exact a_iret (pc := 22) X trivial dX12_meet_22
theorem dX12_meetAt_0 : decode cX12_meetAt 0 = .ok (.aload_n 0, 1) := by decide +kernel
theorem dX12_meetAt_1 : decode cX12_meetAt 1 = .ok (.iconst 0, 1) := by decide +kernel
theorem dX12_meetAt_2 : decode cX12_meetAt 2 = .ok (.putfield 1, 3) := by decide +kernel
theorem dX12_meetAt_5 : decode cX12_meetAt 5 = .ok (.aload_n 0, 1) := by decide +kernel
theorem dX12_meetAt_6 : decode cX12_meetAt 6 = .ok (.getfield 142, 3) := by decide +kernel
theorem dX12_meetAt_9 : decode cX12_meetAt 9 = .ok (.ireturn, 1) := by decide +kernel
def f_X12_meetAt (v0 : XM) : Int32 × XM :=
  x_lt (x_si v0 0 0 (0 : Int32)) (fun m1 =>
  (m1.1 0 32, m1))
set_option maxRecDepth 100000 in
set_option maxHeartbeats 4000000 in
theorem c_X12_meetAt {l : Launch}  {ad0 : Nat → Nat} {v0 : XM}   {o : Int32 × XM} (h : f_X12_meetAt v0 = o) : CT l yX12_meetAt cX12_meetAt 1 (some .int) 0 [(shModel, ad0)] [v0] (fun aK => [.ref (ad0 0)]) (some (.int o.1)) True [o.2] := by
  refine CT_of (by decide) (fun _ => Nat.le_of_ble_eq_true rfl) ?_
  intro p e s m args below meth c D tc aK aV A X
  have X : Cx p s m args meth c cX12_meetAt 1 (some .int) RX12 D tc aK aV A [(shModel, ad0)] := X
  show aW p l e (x_Rm 0) s m args below meth c D tc A 1 [(shModel, ad0)] (some (.int o.1)) True [o.2] 0 [(0, .ref (ad0 0))] [] [v0]
  unfold f_X12_meetAt at h
  refine a_aload_n (pc := 0) X 0 dX12_meetAt_0 rfl rfl ?_
  refine a_iconst (pc := 1) X dX12_meetAt_1 q_ic_0 ?_
  refine a_putI (pc := 2) X 0 fl_RX12_1 rfl rfl rfl rfl dX12_meetAt_2 ?_
  obtain ⟨m1, e_m1, h⟩ := x_lt_elim h
  refine a_nm (vs2 := [m1]) (congrArg (fun q : XM => [q]) e_m1) ?_
  refine a_aload_n (pc := 5) X 0 dX12_meetAt_5 rfl rfl ?_
  refine a_getI (pc := 6) X 0 fl_RX12_142 rfl rfl rfl rfl dX12_meetAt_6 ?_
  subst h
  exact a_iret (pc := 9) X trivial dX12_meetAt_9
theorem dX12_areServed_0 : decode cX12_areServed 0 = .ok (.iconst 0, 1) := by decide +kernel
theorem dX12_areServed_1 : decode cX12_areServed 1 = .ok (.istore_n 3, 1) := by decide +kernel
theorem dX12_areServed_2 : decode cX12_areServed 2 = .ok (.iload_n 3, 1) := by decide +kernel
theorem dX12_areServed_3 : decode cX12_areServed 3 = .ok (.aload_n 0, 1) := by decide +kernel
theorem dX12_areServed_4 : decode cX12_areServed 4 = .ok (.getfield 98, 3) := by decide +kernel
theorem dX12_areServed_7 : decode cX12_areServed 7 = .ok (.iconst 0, 1) := by decide +kernel
theorem dX12_areServed_8 : decode cX12_areServed 8 = .ok (.iaload, 1) := by decide +kernel
theorem dX12_areServed_9 : decode cX12_areServed 9 = .ok (.if_icmp .ge 83, 3) := by decide +kernel
theorem dX12_areServed_12 : decode cX12_areServed 12 = .ok (.iconst 0, 1) := by decide +kernel
theorem dX12_areServed_13 : decode cX12_areServed 13 = .ok (.istore 4, 2) := by decide +kernel
theorem dX12_areServed_15 : decode cX12_areServed 15 = .ok (.iconst 0, 1) := by decide +kernel
theorem dX12_areServed_16 : decode cX12_areServed 16 = .ok (.istore 5, 2) := by decide +kernel
theorem dX12_areServed_18 : decode cX12_areServed 18 = .ok (.iload 5, 2) := by decide +kernel
theorem dX12_areServed_20 : decode cX12_areServed 20 = .ok (.aload_n 0, 1) := by decide +kernel
theorem dX12_areServed_21 : decode cX12_areServed 21 = .ok (.getfield 98, 3) := by decide +kernel
theorem dX12_areServed_24 : decode cX12_areServed 24 = .ok (.iconst 0, 1) := by decide +kernel
theorem dX12_areServed_25 : decode cX12_areServed 25 = .ok (.iaload, 1) := by decide +kernel
theorem dX12_areServed_26 : decode cX12_areServed 26 = .ok (.if_icmp .ge 53, 3) := by decide +kernel
theorem dX12_areServed_29 : decode cX12_areServed 29 = .ok (.iload 4, 2) := by decide +kernel
theorem dX12_areServed_31 : decode cX12_areServed 31 = .ok (.ifCond .ne 35, 3) := by decide +kernel
theorem dX12_areServed_34 : decode cX12_areServed 34 = .ok (.iload_n 1, 1) := by decide +kernel
theorem dX12_areServed_35 : decode cX12_areServed 35 = .ok (.aload_n 0, 1) := by decide +kernel
theorem dX12_areServed_36 : decode cX12_areServed 36 = .ok (.getfield 98, 3) := by decide +kernel
theorem dX12_areServed_39 : decode cX12_areServed 39 = .ok (.iconst 5, 1) := by decide +kernel
theorem dX12_areServed_40 : decode cX12_areServed 40 = .ok (.iaload, 1) := by decide +kernel
theorem dX12_areServed_41 : decode cX12_areServed 41 = .ok (.ior, 1) := by decide +kernel
theorem dX12_areServed_42 : decode cX12_areServed 42 = .ok (.iload 5, 2) := by decide +kernel
theorem dX12_areServed_44 : decode cX12_areServed 44 = .ok (.invokestatic 243, 3) := by decide +kernel
theorem dX12_areServed_47 : decode cX12_areServed 47 = .ok (.ifCond .eq 23, 3) := by decide +kernel
theorem dX12_areServed_50 : decode cX12_areServed 50 = .ok (.aload_n 0, 1) := by decide +kernel
theorem dX12_areServed_51 : decode cX12_areServed 51 = .ok (.getfield 133, 3) := by decide +kernel
theorem dX12_areServed_54 : decode cX12_areServed 54 = .ok (.bipush 8, 2) := by decide +kernel
theorem dX12_areServed_56 : decode cX12_areServed 56 = .ok (.iload_n 3, 1) := by decide +kernel
theorem dX12_areServed_57 : decode cX12_areServed 57 = .ok (.imul, 1) := by decide +kernel
theorem dX12_areServed_58 : decode cX12_areServed 58 = .ok (.iload 5, 2) := by decide +kernel
theorem dX12_areServed_60 : decode cX12_areServed 60 = .ok (.iadd, 1) := by decide +kernel
theorem dX12_areServed_61 : decode cX12_areServed 61 = .ok (.iaload, 1) := by decide +kernel
theorem dX12_areServed_62 : decode cX12_areServed 62 = .ok (.iload_n 2, 1) := by decide +kernel
theorem dX12_areServed_63 : decode cX12_areServed 63 = .ok (.if_icmp .gt 7, 3) := by decide +kernel
theorem dX12_areServed_66 : decode cX12_areServed 66 = .ok (.iconst 1, 1) := by decide +kernel
theorem dX12_areServed_67 : decode cX12_areServed 67 = .ok (.goto 4, 3) := by decide +kernel
theorem dX12_areServed_70 : decode cX12_areServed 70 = .ok (.iconst 0, 1) := by decide +kernel
theorem dX12_areServed_71 : decode cX12_areServed 71 = .ok (.istore 4, 2) := by decide +kernel
theorem dX12_areServed_73 : decode cX12_areServed 73 = .ok (.iinc 5 1, 3) := by decide +kernel
theorem dX12_areServed_76 : decode cX12_areServed 76 = .ok (.goto (-58), 3) := by decide +kernel
theorem dX12_areServed_79 : decode cX12_areServed 79 = .ok (.iload 4, 2) := by decide +kernel
theorem dX12_areServed_81 : decode cX12_areServed 81 = .ok (.ifCond .ne 5, 3) := by decide +kernel
theorem dX12_areServed_84 : decode cX12_areServed 84 = .ok (.iconst 0, 1) := by decide +kernel
theorem dX12_areServed_85 : decode cX12_areServed 85 = .ok (.ireturn, 1) := by decide +kernel
theorem dX12_areServed_86 : decode cX12_areServed 86 = .ok (.iinc 3 1, 3) := by decide +kernel
theorem dX12_areServed_89 : decode cX12_areServed 89 = .ok (.goto (-87), 3) := by decide +kernel
theorem dX12_areServed_92 : decode cX12_areServed 92 = .ok (.iconst 1, 1) := by decide +kernel
theorem dX12_areServed_93 : decode cX12_areServed 93 = .ok (.ireturn, 1) := by decide +kernel
def f_X12_areServed_71 (v0 : XM) (k2 : Int32 → Int32 → Int32 → Option (Int32)) (k18 : Int32 → Int32 → Int32 → Int32 → Int32 → Option (Int32)) (l1 : Int32) (l2 : Int32) (l3 : Int32) (l5 : Int32) (s0 : Int32) : Option (Int32) :=
  k18 l1 l2 l3 s0 (l5 + 1)
def f_X12_areServed_66 (v0 : XM) (k2 : Int32 → Int32 → Int32 → Option (Int32)) (k18 : Int32 → Int32 → Int32 → Int32 → Int32 → Option (Int32)) (l1 : Int32) (l2 : Int32) (l3 : Int32) (l5 : Int32) : Option (Int32) :=
  f_X12_areServed_71 v0 k2 k18 l1 l2 l3 l5 (1 : Int32)
def f_X12_areServed_70 (v0 : XM) (k2 : Int32 → Int32 → Int32 → Option (Int32)) (k18 : Int32 → Int32 → Int32 → Int32 → Int32 → Option (Int32)) (l1 : Int32) (l2 : Int32) (l3 : Int32) (l5 : Int32) : Option (Int32) :=
  f_X12_areServed_71 v0 k2 k18 l1 l2 l3 l5 (0 : Int32)
def f_X12_areServed_18 (v0 : XM) (k2 : Int32 → Int32 → Int32 → Option (Int32)) (k18 : Int32 → Int32 → Int32 → Int32 → Int32 → Option (Int32)) (l1 : Int32) (l2 : Int32) (l3 : Int32) (l4 : Int32) (l5 : Int32) : Option (Int32) :=
  if ((x_ga v0 2 (0 : Int32)) : Int32) ≤ l5 then
  (if l4 = (0 : Int32) then
  (some ((0 : Int32) : Int32))
  else (k2 l1 l2 (l3 + 1)))
  else (if l4 = (0 : Int32) then
  (x_lt (f_X12_has (l1 ||| (x_ga v0 2 (5 : Int32))) l5) (fun y1 =>
  if y1 = (0 : Int32) then
  (f_X12_areServed_70 v0 k2 k18 l1 l2 l3 l5)
  else (x_ck (((8 : Int32) * l3) + l5) 64 (
  if (l2 : Int32) < (x_ga v0 13 (((8 : Int32) * l3) + l5)) then
  (f_X12_areServed_70 v0 k2 k18 l1 l2 l3 l5)
  else (f_X12_areServed_66 v0 k2 k18 l1 l2 l3 l5)))))
  else (f_X12_areServed_66 v0 k2 k18 l1 l2 l3 l5))
def f_X12_areServed_2 (v0 : XM) (k2 : Int32 → Int32 → Int32 → Option (Int32)) (l1 : Int32) (l2 : Int32) (l3 : Int32) : Option (Int32) :=
  if ((x_ga v0 2 (0 : Int32)) : Int32) ≤ l3 then
  (some ((1 : Int32) : Int32))
  else (x_lp (φ := Int32 → Int32 → Int32 → Int32 → Int32 → Option (Int32)) (fun _ _ _ _ _ => none) (f_X12_areServed_18 v0 k2) x_NN l1 l2 l3 (0 : Int32) (0 : Int32))
def f_X12_areServed (v0 : XM) (x0 : Int32) (x1 : Int32) : Option (Int32) :=
  x_lp (φ := Int32 → Int32 → Int32 → Option (Int32)) (fun _ _ _ => none) (f_X12_areServed_2 v0 ) x_NN x0 x1 (0 : Int32)
set_option maxRecDepth 100000 in
set_option maxHeartbeats 4000000 in
theorem w_X12_areServed_71 {p : Program} {l : Launch} {e : Env} {s : State} {m : MethodId} {args : Array Value} {below : List Frame} {meth : Method} {c : Code} {D : va_G} {tc : Nat → ClassId} {aK aV : Nat → Nat} {A : Nat → Prop} {ad0 : Nat → Nat} {v0 : XM} (X : Cx p s m args meth c cX12_areServed 6 (some .boolean) RX12 D tc aK aV A [(shModel, ad0)])  {o : Int32} {k2 : Int32 → Int32 → Int32 → Option (Int32)} {k18 : Int32 → Int32 → Int32 → Int32 → Int32 → Option (Int32)} (hk2 : ∀ (l1 : Int32) (l2 : Int32) (l3 : Int32), k2 l1 l2 l3 = some o → aW p l e (x_Rm 1) s m args below meth c D tc A 6 [(shModel, ad0)] (some (.int o)) (x_Z o) [v0] 2 [(0, .ref (ad0 0)), (1, .int l1), (2, .int l2), (3, .int l3)] [] [v0]) (hk18 : ∀ (l1 : Int32) (l2 : Int32) (l3 : Int32) (l4 : Int32) (l5 : Int32), k18 l1 l2 l3 l4 l5 = some o → aW p l e (x_Rm 1) s m args below meth c D tc A 6 [(shModel, ad0)] (some (.int o)) (x_Z o) [v0] 18 [(0, .ref (ad0 0)), (1, .int l1), (2, .int l2), (3, .int l3), (4, .int l4), (5, .int l5)] [] [v0]) {l1 : Int32} {l2 : Int32} {l3 : Int32} {l5 : Int32} {s0 : Int32} (hzs0 : x_Z s0) (h : f_X12_areServed_71 v0 k2 k18 l1 l2 l3 l5 s0 = some o) : aW p l e (x_Rm 1) s m args below meth c D tc A 6 [(shModel, ad0)] (some (.int o)) (x_Z o) [v0] 71 [(0, .ref (ad0 0)), (1, .int l1), (2, .int l2), (3, .int l3), (5, .int l5)] [.int s0] [v0] := by
  unfold f_X12_areServed_71 at h
  refine a_istore (pc := 71) X [(4, .int s0), (0, .ref (ad0 0)), (1, .int l1), (2, .int l2), (3, .int l3), (5, .int l5)] dX12_areServed_71 (by decide) rfl ?_
  refine a_iinc (pc := 73) X 5 [(5, .int (l5 + 1)), (4, .int s0), (0, .ref (ad0 0)), (1, .int l1), (2, .int l2), (3, .int l3)] dX12_areServed_73 rfl (congrArg (HAdd.hAdd l5) q_ic_1) (by decide) rfl ?_
  refine a_goto (pc := 76) X 18 dX12_areServed_76 rfl ?_
  refine a_sub [2, 3, 4, 5, 1, 0] rfl ?_
  exact hk18 _ _ _ _ _ h
set_option maxRecDepth 100000 in
set_option maxHeartbeats 4000000 in
theorem w_X12_areServed_66 {p : Program} {l : Launch} {e : Env} {s : State} {m : MethodId} {args : Array Value} {below : List Frame} {meth : Method} {c : Code} {D : va_G} {tc : Nat → ClassId} {aK aV : Nat → Nat} {A : Nat → Prop} {ad0 : Nat → Nat} {v0 : XM} (X : Cx p s m args meth c cX12_areServed 6 (some .boolean) RX12 D tc aK aV A [(shModel, ad0)])  {o : Int32} {k2 : Int32 → Int32 → Int32 → Option (Int32)} {k18 : Int32 → Int32 → Int32 → Int32 → Int32 → Option (Int32)} (hk2 : ∀ (l1 : Int32) (l2 : Int32) (l3 : Int32), k2 l1 l2 l3 = some o → aW p l e (x_Rm 1) s m args below meth c D tc A 6 [(shModel, ad0)] (some (.int o)) (x_Z o) [v0] 2 [(0, .ref (ad0 0)), (1, .int l1), (2, .int l2), (3, .int l3)] [] [v0]) (hk18 : ∀ (l1 : Int32) (l2 : Int32) (l3 : Int32) (l4 : Int32) (l5 : Int32), k18 l1 l2 l3 l4 l5 = some o → aW p l e (x_Rm 1) s m args below meth c D tc A 6 [(shModel, ad0)] (some (.int o)) (x_Z o) [v0] 18 [(0, .ref (ad0 0)), (1, .int l1), (2, .int l2), (3, .int l3), (4, .int l4), (5, .int l5)] [] [v0]) {l1 : Int32} {l2 : Int32} {l3 : Int32} {l5 : Int32}  (h : f_X12_areServed_66 v0 k2 k18 l1 l2 l3 l5 = some o) : aW p l e (x_Rm 1) s m args below meth c D tc A 6 [(shModel, ad0)] (some (.int o)) (x_Z o) [v0] 66 [(0, .ref (ad0 0)), (1, .int l1), (2, .int l2), (3, .int l3), (5, .int l5)] [] [v0] := by
  unfold f_X12_areServed_66 at h
  refine a_iconst (pc := 66) X dX12_areServed_66 q_ic_1 ?_
  refine a_goto (pc := 67) X 71 dX12_areServed_67 rfl ?_
  exact w_X12_areServed_71 X   hk2 hk18 x_Z1 h
set_option maxRecDepth 100000 in
set_option maxHeartbeats 4000000 in
theorem w_X12_areServed_70 {p : Program} {l : Launch} {e : Env} {s : State} {m : MethodId} {args : Array Value} {below : List Frame} {meth : Method} {c : Code} {D : va_G} {tc : Nat → ClassId} {aK aV : Nat → Nat} {A : Nat → Prop} {ad0 : Nat → Nat} {v0 : XM} (X : Cx p s m args meth c cX12_areServed 6 (some .boolean) RX12 D tc aK aV A [(shModel, ad0)])  {o : Int32} {k2 : Int32 → Int32 → Int32 → Option (Int32)} {k18 : Int32 → Int32 → Int32 → Int32 → Int32 → Option (Int32)} (hk2 : ∀ (l1 : Int32) (l2 : Int32) (l3 : Int32), k2 l1 l2 l3 = some o → aW p l e (x_Rm 1) s m args below meth c D tc A 6 [(shModel, ad0)] (some (.int o)) (x_Z o) [v0] 2 [(0, .ref (ad0 0)), (1, .int l1), (2, .int l2), (3, .int l3)] [] [v0]) (hk18 : ∀ (l1 : Int32) (l2 : Int32) (l3 : Int32) (l4 : Int32) (l5 : Int32), k18 l1 l2 l3 l4 l5 = some o → aW p l e (x_Rm 1) s m args below meth c D tc A 6 [(shModel, ad0)] (some (.int o)) (x_Z o) [v0] 18 [(0, .ref (ad0 0)), (1, .int l1), (2, .int l2), (3, .int l3), (4, .int l4), (5, .int l5)] [] [v0]) {l1 : Int32} {l2 : Int32} {l3 : Int32} {l5 : Int32}  (h : f_X12_areServed_70 v0 k2 k18 l1 l2 l3 l5 = some o) : aW p l e (x_Rm 1) s m args below meth c D tc A 6 [(shModel, ad0)] (some (.int o)) (x_Z o) [v0] 70 [(0, .ref (ad0 0)), (1, .int l1), (2, .int l2), (3, .int l3), (5, .int l5)] [] [v0] := by
  unfold f_X12_areServed_70 at h
  refine a_iconst (pc := 70) X dX12_areServed_70 q_ic_0 ?_
  exact w_X12_areServed_71 X   hk2 hk18 x_Z0 h
set_option maxRecDepth 100000 in
set_option maxHeartbeats 4000000 in
theorem w_X12_areServed_18 {p : Program} {l : Launch} {e : Env} {s : State} {m : MethodId} {args : Array Value} {below : List Frame} {meth : Method} {c : Code} {D : va_G} {tc : Nat → ClassId} {aK aV : Nat → Nat} {A : Nat → Prop} {ad0 : Nat → Nat} {v0 : XM} (X : Cx p s m args meth c cX12_areServed 6 (some .boolean) RX12 D tc aK aV A [(shModel, ad0)])  {o : Int32} {k2 : Int32 → Int32 → Int32 → Option (Int32)} (hk2 : ∀ (l1 : Int32) (l2 : Int32) (l3 : Int32), k2 l1 l2 l3 = some o → aW p l e (x_Rm 1) s m args below meth c D tc A 6 [(shModel, ad0)] (some (.int o)) (x_Z o) [v0] 2 [(0, .ref (ad0 0)), (1, .int l1), (2, .int l2), (3, .int l3)] [] [v0]) : ∀ (n : Nat), ∀ (l1 : Int32) (l2 : Int32) (l3 : Int32) (l4 : Int32) (l5 : Int32), x_lp (φ := Int32 → Int32 → Int32 → Int32 → Int32 → Option (Int32)) (fun _ _ _ _ _ => none) (f_X12_areServed_18 v0 k2) n l1 l2 l3 l4 l5 = some o → aW p l e (x_Rm 1) s m args below meth c D tc A 6 [(shModel, ad0)] (some (.int o)) (x_Z o) [v0] 18 [(0, .ref (ad0 0)), (1, .int l1), (2, .int l2), (3, .int l3), (4, .int l4), (5, .int l5)] [] [v0] := by
  intro n
  induction n with
  | zero => intro l1 l2 l3 l4 l5 h; exact absurd h (fun q => by cases q)
  | succ n ih =>
    intro l1 l2 l3 l4 l5 h
    have h : f_X12_areServed_18 v0 k2 (x_lp (φ := Int32 → Int32 → Int32 → Int32 → Int32 → Option (Int32)) (fun _ _ _ _ _ => none) (f_X12_areServed_18 v0 k2) n) l1 l2 l3 l4 l5 = some o := h
    generalize x_lp (φ := Int32 → Int32 → Int32 → Int32 → Int32 → Option (Int32)) (fun _ _ _ _ _ => none) (f_X12_areServed_18 v0 k2) n = k18 at h ih
    have hk18 := ih
    unfold f_X12_areServed_18 at h
    refine a_iload (pc := 18) X 5 dX12_areServed_18 rfl ?_
    refine a_aload_n (pc := 20) X 0 dX12_areServed_20 rfl rfl ?_
    refine a_getR (pc := 21) X 0 2 2 fl_RX12_98 rfl rfl rfl rfl rfl dX12_areServed_21 ?_
    refine a_iconst (pc := 24) X dX12_areServed_24 q_ic_0 ?_
    refine a_iald (pc := 25) X 0 rfl rfl rfl (x_inl (by decide)) dX12_areServed_25 ?_
    refine a_icmp_ge (pc := 26) X 79 dX12_areServed_26 rfl (fun c_26 => ?_) (fun c_26 => ?_)
    · have h := x_ifp c_26 h
      refine a_iload (pc := 79) X 4 dX12_areServed_79 rfl ?_
      refine a_if_ne (pc := 81) X 86 dX12_areServed_81 rfl (fun c_81 => ?_) (fun c_81 => ?_)
      · have h := x_ifn c_81 h
        refine a_iinc (pc := 86) X 3 [(3, .int (l3 + 1)), (0, .ref (ad0 0)), (1, .int l1), (2, .int l2), (4, .int l4), (5, .int l5)] dX12_areServed_86 rfl (congrArg (HAdd.hAdd l3) q_ic_1) (by decide) rfl ?_
        refine a_goto (pc := 89) X 2 dX12_areServed_89 rfl ?_
        refine a_sub [1, 2, 3, 0] rfl ?_
        exact hk2 _ _ _ h
      · have h := x_ifp c_81 h
        refine a_iconst (pc := 84) X dX12_areServed_84 q_ic_0 ?_
        have h := Option.some.inj h; subst h
        exact a_zret (pc := 85) X x_Z0 x_Z0 dX12_areServed_85
    · have h := x_ifn c_26 h
      refine a_iload (pc := 29) X 4 dX12_areServed_29 rfl ?_
      refine a_if_ne (pc := 31) X 66 dX12_areServed_31 rfl (fun c_31 => ?_) (fun c_31 => ?_)
      · have h := x_ifn c_31 h
        refine a_sub [0, 1, 2, 3, 5] rfl ?_
        exact w_X12_areServed_66 X   hk2 hk18  h
      · have h := x_ifp c_31 h
        refine a_iload_n (pc := 34) X 1 dX12_areServed_34 rfl rfl ?_
        refine a_aload_n (pc := 35) X 0 dX12_areServed_35 rfl rfl ?_
        refine a_getR (pc := 36) X 0 2 2 fl_RX12_98 rfl rfl rfl rfl rfl dX12_areServed_36 ?_
        refine a_iconst (pc := 39) X dX12_areServed_39 q_ic_5 ?_
        refine a_iald (pc := 40) X 0 rfl rfl rfl (x_inl (by decide)) dX12_areServed_40 ?_
        refine a_ior (pc := 41) X dX12_areServed_41 ?_
        refine a_iload (pc := 42) X 5 dX12_areServed_42 rfl ?_
        obtain ⟨y1, e_y1, h⟩ := x_lt_elim h
        refine a_callS (pc := 44) (st2 := [.int y1]) (vs2 := [v0]) X [] [] [.int (l1 ||| (x_ga v0 2 (5 : Int32))), .int l5] [] cv_RX12_243 (c_X12_has   e_y1) rfl rfl rfl rfl rfl rfl rfl rfl rfl rfl rfl (Nat.le_of_ble_eq_true rfl) ⟨Nat.le_of_ble_eq_true rfl, Nat.le_of_ble_eq_true rfl⟩ dX12_areServed_44 (fun z_44 => ?_)
        refine a_if_eq (pc := 47) X 70 dX12_areServed_47 rfl (fun c_47 => ?_) (fun c_47 => ?_)
        · have h := x_ifp c_47 h
          refine a_sub [0, 1, 2, 3, 5] rfl ?_
          exact w_X12_areServed_70 X   hk2 hk18  h
        · have h := x_ifn c_47 h
          refine a_aload_n (pc := 50) X 0 dX12_areServed_50 rfl rfl ?_
          refine a_getR (pc := 51) X 0 13 13 fl_RX12_133 rfl rfl rfl rfl rfl dX12_areServed_51 ?_
          refine a_bipush (pc := 54) X dX12_areServed_54 q_bp_8 ?_
          refine a_iload_n (pc := 56) X 3 dX12_areServed_56 rfl rfl ?_
          refine a_imul (pc := 57) X dX12_areServed_57 ?_
          refine a_iload (pc := 58) X 5 dX12_areServed_58 rfl ?_
          refine a_iadd (pc := 60) X dX12_areServed_60 ?_
          obtain ⟨c_61, h⟩ := x_ck_elim h
          refine a_iald (pc := 61) X 0 rfl rfl rfl c_61 dX12_areServed_61 ?_
          refine a_iload_n (pc := 62) X 2 dX12_areServed_62 rfl rfl ?_
          refine a_icmp_gt (pc := 63) X 70 dX12_areServed_63 rfl (fun c_63 => ?_) (fun c_63 => ?_)
          · have h := x_ifp c_63 h
            refine a_sub [0, 1, 2, 3, 5] rfl ?_
            exact w_X12_areServed_70 X   hk2 hk18  h
          · have h := x_ifn c_63 h
            refine a_sub [0, 1, 2, 3, 5] rfl ?_
            exact w_X12_areServed_66 X   hk2 hk18  h
set_option maxRecDepth 100000 in
set_option maxHeartbeats 4000000 in
theorem w_X12_areServed_2 {p : Program} {l : Launch} {e : Env} {s : State} {m : MethodId} {args : Array Value} {below : List Frame} {meth : Method} {c : Code} {D : va_G} {tc : Nat → ClassId} {aK aV : Nat → Nat} {A : Nat → Prop} {ad0 : Nat → Nat} {v0 : XM} (X : Cx p s m args meth c cX12_areServed 6 (some .boolean) RX12 D tc aK aV A [(shModel, ad0)])  {o : Int32}  : ∀ (n : Nat), ∀ (l1 : Int32) (l2 : Int32) (l3 : Int32), x_lp (φ := Int32 → Int32 → Int32 → Option (Int32)) (fun _ _ _ => none) (f_X12_areServed_2 v0 ) n l1 l2 l3 = some o → aW p l e (x_Rm 1) s m args below meth c D tc A 6 [(shModel, ad0)] (some (.int o)) (x_Z o) [v0] 2 [(0, .ref (ad0 0)), (1, .int l1), (2, .int l2), (3, .int l3)] [] [v0] := by
  intro n
  induction n with
  | zero => intro l1 l2 l3 h; exact absurd h (fun q => by cases q)
  | succ n ih =>
    intro l1 l2 l3 h
    have h : f_X12_areServed_2 v0  (x_lp (φ := Int32 → Int32 → Int32 → Option (Int32)) (fun _ _ _ => none) (f_X12_areServed_2 v0 ) n) l1 l2 l3 = some o := h
    generalize x_lp (φ := Int32 → Int32 → Int32 → Option (Int32)) (fun _ _ _ => none) (f_X12_areServed_2 v0 ) n = k2 at h ih
    have hk2 := ih
    unfold f_X12_areServed_2 at h
    refine a_iload_n (pc := 2) X 3 dX12_areServed_2 rfl rfl ?_
    refine a_aload_n (pc := 3) X 0 dX12_areServed_3 rfl rfl ?_
    refine a_getR (pc := 4) X 0 2 2 fl_RX12_98 rfl rfl rfl rfl rfl dX12_areServed_4 ?_
    refine a_iconst (pc := 7) X dX12_areServed_7 q_ic_0 ?_
    refine a_iald (pc := 8) X 0 rfl rfl rfl (x_inl (by decide)) dX12_areServed_8 ?_
    refine a_icmp_ge (pc := 9) X 92 dX12_areServed_9 rfl (fun c_9 => ?_) (fun c_9 => ?_)
    · have h := x_ifp c_9 h
      refine a_iconst (pc := 92) X dX12_areServed_92 q_ic_1 ?_
      have h := Option.some.inj h; subst h
      exact a_zret (pc := 93) X x_Z1 x_Z1 dX12_areServed_93
    · have h := x_ifn c_9 h
      refine a_iconst (pc := 12) X dX12_areServed_12 q_ic_0 ?_
      refine a_istore (pc := 13) X [(4, .int (0 : Int32)), (0, .ref (ad0 0)), (1, .int l1), (2, .int l2), (3, .int l3)] dX12_areServed_13 (by decide) rfl ?_
      refine a_iconst (pc := 15) X dX12_areServed_15 q_ic_0 ?_
      refine a_istore (pc := 16) X [(5, .int (0 : Int32)), (4, .int (0 : Int32)), (0, .ref (ad0 0)), (1, .int l1), (2, .int l2), (3, .int l3)] dX12_areServed_16 (by decide) rfl ?_
      refine a_sub [2, 3, 4, 5, 1, 0] rfl ?_
      exact w_X12_areServed_18 X   hk2 x_NN _ _ _ _ _ h
set_option maxRecDepth 100000 in
set_option maxHeartbeats 4000000 in
theorem c_X12_areServed {l : Launch}  {ad0 : Nat → Nat} {v0 : XM} {x0 : Int32} {x1 : Int32}  {o : Int32} (h : f_X12_areServed v0 x0 x1 = some o) : CT l yX12_areServed cX12_areServed 6 (some .boolean) 1 [(shModel, ad0)] [v0] (fun aK => [.ref (ad0 0), .int x0, .int x1]) (some (.int o)) (x_Z o) [v0] := by
  refine CT_of (by decide) (fun _ => Nat.le_of_ble_eq_true rfl) ?_
  intro p e s m args below meth c D tc aK aV A X
  have X : Cx p s m args meth c cX12_areServed 6 (some .boolean) RX12 D tc aK aV A [(shModel, ad0)] := X
  show aW p l e (x_Rm 1) s m args below meth c D tc A 6 [(shModel, ad0)] (some (.int o)) (x_Z o) [v0] 0 [(0, .ref (ad0 0)), (1, .int x0), (2, .int x1)] [] [v0]
  unfold f_X12_areServed at h
  refine a_iconst (pc := 0) X dX12_areServed_0 q_ic_0 ?_
  refine a_istore_n (pc := 1) X [(3, .int (0 : Int32)), (0, .ref (ad0 0)), (1, .int x0), (2, .int x1)] dX12_areServed_1 rfl (by decide) rfl ?_
  refine a_sub [1, 2, 3, 0] rfl ?_
  exact w_X12_areServed_2 X    x_NN _ _ _ h
theorem dX12_inns_0 : decode cX12_inns 0 = .ok (.aload_n 0, 1) := by decide +kernel
theorem dX12_inns_1 : decode cX12_inns 1 = .ok (.iconst 0, 1) := by decide +kernel
theorem dX12_inns_2 : decode cX12_inns 2 = .ok (.putfield 1, 3) := by decide +kernel
theorem dX12_inns_5 : decode cX12_inns 5 = .ok (.iload_n 1, 1) := by decide +kernel
theorem dX12_inns_6 : decode cX12_inns 6 = .ok (.iconst 0, 1) := by decide +kernel
theorem dX12_inns_7 : decode cX12_inns 7 = .ok (.bipush 99, 2) := by decide +kernel
theorem dX12_inns_9 : decode cX12_inns 9 = .ok (.invokestatic 75, 3) := by decide +kernel
theorem dX12_inns_12 : decode cX12_inns 12 = .ok (.ifCond .ne 5, 3) := by decide +kernel
theorem dX12_inns_15 : decode cX12_inns 15 = .ok (.iconst (-1), 1) := by decide +kernel
theorem dX12_inns_16 : decode cX12_inns 16 = .ok (.ireturn, 1) := by decide +kernel
theorem dX12_inns_17 : decode cX12_inns 17 = .ok (.aload_n 0, 1) := by decide +kernel
theorem dX12_inns_18 : decode cX12_inns 18 = .ok (.iconst 1, 1) := by decide +kernel
theorem dX12_inns_19 : decode cX12_inns 19 = .ok (.invokevirtual 336, 3) := by decide +kernel
theorem dX12_inns_22 : decode cX12_inns 22 = .ok (.iconst 1, 1) := by decide +kernel
theorem dX12_inns_23 : decode cX12_inns 23 = .ok (.aload_n 0, 1) := by decide +kernel
theorem dX12_inns_24 : decode cX12_inns 24 = .ok (.getfield 98, 3) := by decide +kernel
theorem dX12_inns_27 : decode cX12_inns 27 = .ok (.iconst 0, 1) := by decide +kernel
theorem dX12_inns_28 : decode cX12_inns 28 = .ok (.iaload, 1) := by decide +kernel
theorem dX12_inns_29 : decode cX12_inns 29 = .ok (.ishl, 1) := by decide +kernel
theorem dX12_inns_30 : decode cX12_inns 30 = .ok (.iconst 1, 1) := by decide +kernel
theorem dX12_inns_31 : decode cX12_inns 31 = .ok (.isub, 1) := by decide +kernel
theorem dX12_inns_32 : decode cX12_inns 32 = .ok (.istore_n 2, 1) := by decide +kernel
theorem dX12_inns_33 : decode cX12_inns 33 = .ok (.iload_n 2, 1) := by decide +kernel
theorem dX12_inns_34 : decode cX12_inns 34 = .ok (.istore_n 3, 1) := by decide +kernel
theorem dX12_inns_35 : decode cX12_inns 35 = .ok (.iload_n 3, 1) := by decide +kernel
theorem dX12_inns_36 : decode cX12_inns 36 = .ok (.ifCond .lt 31, 3) := by decide +kernel
theorem dX12_inns_39 : decode cX12_inns 39 = .ok (.iload_n 3, 1) := by decide +kernel
theorem dX12_inns_40 : decode cX12_inns 40 = .ok (.invokestatic 345, 3) := by decide +kernel
theorem dX12_inns_43 : decode cX12_inns 43 = .ok (.iload_n 2, 1) := by decide +kernel
theorem dX12_inns_44 : decode cX12_inns 44 = .ok (.invokestatic 345, 3) := by decide +kernel
theorem dX12_inns_47 : decode cX12_inns 47 = .ok (.if_icmp .gt 14, 3) := by decide +kernel
theorem dX12_inns_50 : decode cX12_inns 50 = .ok (.aload_n 0, 1) := by decide +kernel
theorem dX12_inns_51 : decode cX12_inns 51 = .ok (.iload_n 3, 1) := by decide +kernel
theorem dX12_inns_52 : decode cX12_inns 52 = .ok (.iload_n 1, 1) := by decide +kernel
theorem dX12_inns_53 : decode cX12_inns 53 = .ok (.invokevirtual 348, 3) := by decide +kernel
theorem dX12_inns_56 : decode cX12_inns 56 = .ok (.ifCond .eq 5, 3) := by decide +kernel
theorem dX12_inns_59 : decode cX12_inns 59 = .ok (.iload_n 3, 1) := by decide +kernel
theorem dX12_inns_60 : decode cX12_inns 60 = .ok (.istore_n 2, 1) := by decide +kernel
theorem dX12_inns_61 : decode cX12_inns 61 = .ok (.iinc 3 (-1), 3) := by decide +kernel
theorem dX12_inns_64 : decode cX12_inns 64 = .ok (.goto (-29), 3) := by decide +kernel
theorem dX12_inns_67 : decode cX12_inns 67 = .ok (.aload_n 0, 1) := by decide +kernel
theorem dX12_inns_68 : decode cX12_inns 68 = .ok (.iload_n 2, 1) := by decide +kernel
theorem dX12_inns_69 : decode cX12_inns 69 = .ok (.putfield 145, 3) := by decide +kernel
theorem dX12_inns_72 : decode cX12_inns 72 = .ok (.iload_n 2, 1) := by decide +kernel
theorem dX12_inns_73 : decode cX12_inns 73 = .ok (.invokestatic 345, 3) := by decide +kernel
theorem dX12_inns_76 : decode cX12_inns 76 = .ok (.ireturn, 1) := by decide +kernel
def f_X12_inns_61 (k35 : XM → Int32 → Int32 → Int32 → Option (Int32 × XM)) (w0 : XM) (l1 : Int32) (l2 : Int32) (l3 : Int32) : Option (Int32 × XM) :=
  k35 w0 l1 l2 (l3 + (-1))
def f_X12_inns_35 (k35 : XM → Int32 → Int32 → Int32 → Option (Int32 × XM)) (w0 : XM) (l1 : Int32) (l2 : Int32) (l3 : Int32) : Option (Int32 × XM) :=
  if l3 < (0 : Int32) then
  (x_lt (x_si w0 0 33 l2) (fun m1 =>
  x_bo (f_X12_bits l2) (fun y2 =>
  some (y2, m1))))
  else (x_bo (f_X12_bits l3) (fun y3 =>
  x_bo (f_X12_bits l2) (fun y4 =>
  if (y4 : Int32) < y3 then
  (f_X12_inns_61  k35 w0 l1 l2 l3)
  else (x_bo (f_X12_areServed w0 l3 l1) (fun y5 =>
  if y5 = (0 : Int32) then
  (f_X12_inns_61  k35 w0 l1 l2 l3)
  else (f_X12_inns_61  k35 w0 l1 l3 l3))))))
def f_X12_inns (v0 : XM) (x0 : Int32) : Option (Int32 × XM) :=
  x_lt (x_si v0 0 0 (0 : Int32)) (fun m6 =>
  x_lt (f_X12_isIn x0 (0 : Int32) (99 : Int32)) (fun y7 =>
  if y7 = (0 : Int32) then
  (some ((-1 : Int32), m6))
  else (x_bo (f_X12_layApart m6 (1 : Int32)) (fun y8 =>
  x_lt ((1 : Int32) <<< ((x_ga y8 2 (0 : Int32)) &&& 31)) (fun y9 =>
  x_lp (φ := XM → Int32 → Int32 → Int32 → Option (Int32 × XM)) (fun _ _ _ _ => none) (f_X12_inns_35  ) x_NN y8 x0 (y9 - (1 : Int32)) (y9 - (1 : Int32)))))))
set_option maxRecDepth 100000 in
set_option maxHeartbeats 4000000 in
theorem w_X12_inns_61 {p : Program} {l : Launch} {e : Env} {s : State} {m : MethodId} {args : Array Value} {below : List Frame} {meth : Method} {c : Code} {D : va_G} {tc : Nat → ClassId} {aK aV : Nat → Nat} {A : Nat → Prop} {ad0 : Nat → Nat}  (X : Cx p s m args meth c cX12_inns 4 (some .int) RX12 D tc aK aV A [(shModel, ad0)])  {o : Int32 × XM} {k35 : XM → Int32 → Int32 → Int32 → Option (Int32 × XM)} (hk35 : ∀ (w0 : XM) (l1 : Int32) (l2 : Int32) (l3 : Int32), k35 w0 l1 l2 l3 = some o → aW p l e (x_Rm 7) s m args below meth c D tc A 4 [(shModel, ad0)] (some (.int o.1)) True [o.2] 35 [(0, .ref (ad0 0)), (1, .int l1), (2, .int l2), (3, .int l3)] [] [w0]) {w0 : XM} {l1 : Int32} {l2 : Int32} {l3 : Int32}  (h : f_X12_inns_61  k35 w0 l1 l2 l3 = some o) : aW p l e (x_Rm 7) s m args below meth c D tc A 4 [(shModel, ad0)] (some (.int o.1)) True [o.2] 61 [(0, .ref (ad0 0)), (1, .int l1), (2, .int l2), (3, .int l3)] [] [w0] := by
  unfold f_X12_inns_61 at h
  refine a_iinc (pc := 61) X 3 [(3, .int (l3 + (-1))), (0, .ref (ad0 0)), (1, .int l1), (2, .int l2)] dX12_inns_61 rfl (congrArg (HAdd.hAdd l3) q_ic_m1) (by decide) rfl ?_
  refine a_goto (pc := 64) X 35 dX12_inns_64 rfl ?_
  refine a_sub [1, 2, 3, 0] rfl ?_
  exact hk35 _ _ _ _ h
set_option maxRecDepth 100000 in
set_option maxHeartbeats 4000000 in
theorem w_X12_inns_35 {p : Program} {l : Launch} {e : Env} {s : State} {m : MethodId} {args : Array Value} {below : List Frame} {meth : Method} {c : Code} {D : va_G} {tc : Nat → ClassId} {aK aV : Nat → Nat} {A : Nat → Prop} {ad0 : Nat → Nat}  (X : Cx p s m args meth c cX12_inns 4 (some .int) RX12 D tc aK aV A [(shModel, ad0)])  {o : Int32 × XM}  : ∀ (n : Nat), ∀ (w0 : XM) (l1 : Int32) (l2 : Int32) (l3 : Int32), x_lp (φ := XM → Int32 → Int32 → Int32 → Option (Int32 × XM)) (fun _ _ _ _ => none) (f_X12_inns_35  ) n w0 l1 l2 l3 = some o → aW p l e (x_Rm 7) s m args below meth c D tc A 4 [(shModel, ad0)] (some (.int o.1)) True [o.2] 35 [(0, .ref (ad0 0)), (1, .int l1), (2, .int l2), (3, .int l3)] [] [w0] := by
  intro n
  induction n with
  | zero => intro w0 l1 l2 l3 h; exact absurd h (fun q => by cases q)
  | succ n ih =>
    intro w0 l1 l2 l3 h
    have h : f_X12_inns_35   (x_lp (φ := XM → Int32 → Int32 → Int32 → Option (Int32 × XM)) (fun _ _ _ _ => none) (f_X12_inns_35  ) n) w0 l1 l2 l3 = some o := h
    generalize x_lp (φ := XM → Int32 → Int32 → Int32 → Option (Int32 × XM)) (fun _ _ _ _ => none) (f_X12_inns_35  ) n = k35 at h ih
    have hk35 := ih
    unfold f_X12_inns_35 at h
    refine a_iload_n (pc := 35) X 3 dX12_inns_35 rfl rfl ?_
    refine a_if_lt (pc := 36) X 67 dX12_inns_36 rfl (fun c_36 => ?_) (fun c_36 => ?_)
    · have h := x_ifp c_36 h
      refine a_aload_n (pc := 67) X 0 dX12_inns_67 rfl rfl ?_
      refine a_iload_n (pc := 68) X 2 dX12_inns_68 rfl rfl ?_
      refine a_putI (pc := 69) X 0 fl_RX12_145 rfl rfl rfl rfl dX12_inns_69 ?_
      obtain ⟨m1, e_m1, h⟩ := x_lt_elim h
      refine a_nm (vs2 := [m1]) (congrArg (fun q : XM => [q]) e_m1) ?_
      refine a_iload_n (pc := 72) X 2 dX12_inns_72 rfl rfl ?_
      obtain ⟨y2, e_y2, h⟩ := x_bo_elim h
      refine a_callS (pc := 73) (st2 := [.int y2]) (vs2 := [m1]) X [] [] [.int l2] [] cv_RX12_345 (c_X12_bits   e_y2) rfl rfl rfl rfl rfl rfl rfl rfl rfl rfl rfl (Nat.le_of_ble_eq_true rfl) ⟨Nat.le_of_ble_eq_true rfl, Nat.le_of_ble_eq_true rfl⟩ dX12_inns_73 (fun _ => ?_)
      have h := Option.some.inj h; subst h
      exact a_iret (pc := 76) X trivial dX12_inns_76
    · have h := x_ifn c_36 h
      refine a_iload_n (pc := 39) X 3 dX12_inns_39 rfl rfl ?_
      obtain ⟨y3, e_y3, h⟩ := x_bo_elim h
      refine a_callS (pc := 40) (st2 := [.int y3]) (vs2 := [w0]) X [] [] [.int l3] [] cv_RX12_345 (c_X12_bits   e_y3) rfl rfl rfl rfl rfl rfl rfl rfl rfl rfl rfl (Nat.le_of_ble_eq_true rfl) ⟨Nat.le_of_ble_eq_true rfl, Nat.le_of_ble_eq_true rfl⟩ dX12_inns_40 (fun _ => ?_)
      refine a_iload_n (pc := 43) X 2 dX12_inns_43 rfl rfl ?_
      obtain ⟨y4, e_y4, h⟩ := x_bo_elim h
      refine a_callS (pc := 44) (st2 := [.int y4, .int y3]) (vs2 := [w0]) X [] [] [.int l2] [.int y3] cv_RX12_345 (c_X12_bits   e_y4) rfl rfl rfl rfl rfl rfl rfl rfl rfl rfl rfl (Nat.le_of_ble_eq_true rfl) ⟨Nat.le_of_ble_eq_true rfl, Nat.le_of_ble_eq_true rfl⟩ dX12_inns_44 (fun _ => ?_)
      refine a_icmp_gt (pc := 47) X 61 dX12_inns_47 rfl (fun c_47 => ?_) (fun c_47 => ?_)
      · have h := x_ifp c_47 h
        exact w_X12_inns_61 X   hk35  h
      · have h := x_ifn c_47 h
        refine a_aload_n (pc := 50) X 0 dX12_inns_50 rfl rfl ?_
        refine a_iload_n (pc := 51) X 3 dX12_inns_51 rfl rfl ?_
        refine a_iload_n (pc := 52) X 1 dX12_inns_52 rfl rfl ?_
        obtain ⟨y5, e_y5, h⟩ := x_bo_elim h
        refine a_callV (pc := 53) (st2 := [.int y5]) (vs2 := [w0]) X [(0, 0, 20)] [none] 0 0 12 [.int l3, .int l1] [] cv_RX12_348 (c_X12_areServed (ad0 := ad0)  e_y5) rfl rfl rfl rfl rfl rfl rfl rfl rfl rfl rfl rfl rfl rfl rfl (Nat.le_of_ble_eq_true rfl) ⟨Nat.le_of_ble_eq_true rfl, Nat.le_of_ble_eq_true rfl⟩ dX12_inns_53 (fun z_53 => ?_)
        refine a_if_eq (pc := 56) X 61 dX12_inns_56 rfl (fun c_56 => ?_) (fun c_56 => ?_)
        · have h := x_ifp c_56 h
          exact w_X12_inns_61 X   hk35  h
        · have h := x_ifn c_56 h
          refine a_iload_n (pc := 59) X 3 dX12_inns_59 rfl rfl ?_
          refine a_istore_n (pc := 60) X [(2, .int l3), (0, .ref (ad0 0)), (1, .int l1), (3, .int l3)] dX12_inns_60 rfl (by decide) rfl ?_
          refine a_sub [1, 2, 0, 3] rfl ?_
          exact w_X12_inns_61 X   hk35  h
set_option maxRecDepth 100000 in
set_option maxHeartbeats 4000000 in
theorem c_X12_inns {l : Launch}  {ad0 : Nat → Nat} {v0 : XM} {x0 : Int32}  {o : Int32 × XM} (h : f_X12_inns v0 x0 = some o) : CT l yX12_inns cX12_inns 4 (some .int) 7 [(shModel, ad0)] [v0] (fun aK => [.ref (ad0 0), .int x0]) (some (.int o.1)) True [o.2] := by
  refine CT_of (by decide) (fun _ => Nat.le_of_ble_eq_true rfl) ?_
  intro p e s m args below meth c D tc aK aV A X
  have X : Cx p s m args meth c cX12_inns 4 (some .int) RX12 D tc aK aV A [(shModel, ad0)] := X
  show aW p l e (x_Rm 7) s m args below meth c D tc A 4 [(shModel, ad0)] (some (.int o.1)) True [o.2] 0 [(0, .ref (ad0 0)), (1, .int x0)] [] [v0]
  unfold f_X12_inns at h
  refine a_aload_n (pc := 0) X 0 dX12_inns_0 rfl rfl ?_
  refine a_iconst (pc := 1) X dX12_inns_1 q_ic_0 ?_
  refine a_putI (pc := 2) X 0 fl_RX12_1 rfl rfl rfl rfl dX12_inns_2 ?_
  obtain ⟨m6, e_m6, h⟩ := x_lt_elim h
  refine a_nm (vs2 := [m6]) (congrArg (fun q : XM => [q]) e_m6) ?_
  refine a_iload_n (pc := 5) X 1 dX12_inns_5 rfl rfl ?_
  refine a_iconst (pc := 6) X dX12_inns_6 q_ic_0 ?_
  refine a_bipush (pc := 7) X dX12_inns_7 q_bp_99 ?_
  obtain ⟨y7, e_y7, h⟩ := x_lt_elim h
  refine a_callS (pc := 9) (st2 := [.int y7]) (vs2 := [m6]) X [] [] [.int x0, .int (0 : Int32), .int (99 : Int32)] [] cv_RX12_75 (c_X12_isIn   e_y7) rfl rfl rfl rfl rfl rfl rfl rfl rfl rfl rfl (Nat.le_of_ble_eq_true rfl) ⟨Nat.le_of_ble_eq_true rfl, Nat.le_of_ble_eq_true rfl⟩ dX12_inns_9 (fun z_9 => ?_)
  refine a_if_ne (pc := 12) X 17 dX12_inns_12 rfl (fun c_12 => ?_) (fun c_12 => ?_)
  · have h := x_ifn c_12 h
    refine a_aload_n (pc := 17) X 0 dX12_inns_17 rfl rfl ?_
    refine a_iconst (pc := 18) X dX12_inns_18 q_ic_1 ?_
    obtain ⟨y8, e_y8, h⟩ := x_bo_elim h
    refine a_callV (pc := 19) (st2 := []) (vs2 := [y8]) X [(0, 0, 20)] [some y8] 0 0 12 [.int (1 : Int32)] [] cv_RX12_336 (c_X12_layApart (ad0 := ad0)  e_y8) rfl rfl rfl rfl rfl rfl rfl rfl rfl rfl rfl rfl rfl rfl rfl (Nat.le_of_ble_eq_true rfl) ⟨Nat.le_of_ble_eq_true rfl, Nat.le_of_ble_eq_true rfl⟩ dX12_inns_19 (fun _ => ?_)
    refine a_iconst (pc := 22) X dX12_inns_22 q_ic_1 ?_
    refine a_aload_n (pc := 23) X 0 dX12_inns_23 rfl rfl ?_
    refine a_getR (pc := 24) X 0 2 2 fl_RX12_98 rfl rfl rfl rfl rfl dX12_inns_24 ?_
    refine a_iconst (pc := 27) X dX12_inns_27 q_ic_0 ?_
    refine a_iald (pc := 28) X 0 rfl rfl rfl (x_inl (by decide)) dX12_inns_28 ?_
    refine a_ishl (pc := 29) X dX12_inns_29 ?_
    obtain ⟨y9, e_y9, h⟩ := x_lt_elim h
    refine a_ni e_y9 ?_
    refine a_iconst (pc := 30) X dX12_inns_30 q_ic_1 ?_
    refine a_isub (pc := 31) X dX12_inns_31 ?_
    refine a_istore_n (pc := 32) X [(2, .int (y9 - (1 : Int32))), (0, .ref (ad0 0)), (1, .int x0)] dX12_inns_32 rfl (by decide) rfl ?_
    refine a_iload_n (pc := 33) X 0 dX12_inns_33 rfl rfl ?_
    refine a_istore_n (pc := 34) X [(3, .int (y9 - (1 : Int32))), (2, .int (y9 - (1 : Int32))), (0, .ref (ad0 0)), (1, .int x0)] dX12_inns_34 rfl (by decide) rfl ?_
    refine a_sub [2, 3, 1, 0] rfl ?_
    exact w_X12_inns_35 X    x_NN _ _ _ _ h
  · have h := x_ifp c_12 h
    refine a_iconst (pc := 15) X dX12_inns_15 q_ic_m1 ?_
    have h := Option.some.inj h; subst h
    exact a_iret (pc := 16) X trivial dX12_inns_16
theorem dX12_innsAt_0 : decode cX12_innsAt 0 = .ok (.aload_n 0, 1) := by decide +kernel
theorem dX12_innsAt_1 : decode cX12_innsAt 1 = .ok (.iconst 0, 1) := by decide +kernel
theorem dX12_innsAt_2 : decode cX12_innsAt 2 = .ok (.putfield 1, 3) := by decide +kernel
theorem dX12_innsAt_5 : decode cX12_innsAt 5 = .ok (.aload_n 0, 1) := by decide +kernel
theorem dX12_innsAt_6 : decode cX12_innsAt 6 = .ok (.getfield 145, 3) := by decide +kernel
theorem dX12_innsAt_9 : decode cX12_innsAt 9 = .ok (.ireturn, 1) := by decide +kernel
def f_X12_innsAt (v0 : XM) : Int32 × XM :=
  x_lt (x_si v0 0 0 (0 : Int32)) (fun m1 =>
  (m1.1 0 33, m1))
set_option maxRecDepth 100000 in
set_option maxHeartbeats 4000000 in
theorem c_X12_innsAt {l : Launch}  {ad0 : Nat → Nat} {v0 : XM}   {o : Int32 × XM} (h : f_X12_innsAt v0 = o) : CT l yX12_innsAt cX12_innsAt 1 (some .int) 0 [(shModel, ad0)] [v0] (fun aK => [.ref (ad0 0)]) (some (.int o.1)) True [o.2] := by
  refine CT_of (by decide) (fun _ => Nat.le_of_ble_eq_true rfl) ?_
  intro p e s m args below meth c D tc aK aV A X
  have X : Cx p s m args meth c cX12_innsAt 1 (some .int) RX12 D tc aK aV A [(shModel, ad0)] := X
  show aW p l e (x_Rm 0) s m args below meth c D tc A 1 [(shModel, ad0)] (some (.int o.1)) True [o.2] 0 [(0, .ref (ad0 0))] [] [v0]
  unfold f_X12_innsAt at h
  refine a_aload_n (pc := 0) X 0 dX12_innsAt_0 rfl rfl ?_
  refine a_iconst (pc := 1) X dX12_innsAt_1 q_ic_0 ?_
  refine a_putI (pc := 2) X 0 fl_RX12_1 rfl rfl rfl rfl dX12_innsAt_2 ?_
  obtain ⟨m1, e_m1, h⟩ := x_lt_elim h
  refine a_nm (vs2 := [m1]) (congrArg (fun q : XM => [q]) e_m1) ?_
  refine a_aload_n (pc := 5) X 0 dX12_innsAt_5 rfl rfl ?_
  refine a_getI (pc := 6) X 0 fl_RX12_145 rfl rfl rfl rfl dX12_innsAt_6 ?_
  subst h
  exact a_iret (pc := 9) X trivial dX12_innsAt_9
theorem dX12_cameFrom_0 : decode cX12_cameFrom 0 = .ok (.iconst 0, 1) := by decide +kernel
theorem dX12_cameFrom_1 : decode cX12_cameFrom 1 = .ok (.istore_n 3, 1) := by decide +kernel
theorem dX12_cameFrom_2 : decode cX12_cameFrom 2 = .ok (.iload_n 3, 1) := by decide +kernel
theorem dX12_cameFrom_3 : decode cX12_cameFrom 3 = .ok (.iload_n 2, 1) := by decide +kernel
theorem dX12_cameFrom_4 : decode cX12_cameFrom 4 = .ok (.if_icmp .ge 38, 3) := by decide +kernel
theorem dX12_cameFrom_7 : decode cX12_cameFrom 7 = .ok (.aload_n 0, 1) := by decide +kernel
theorem dX12_cameFrom_8 : decode cX12_cameFrom 8 = .ok (.getfield 133, 3) := by decide +kernel
theorem dX12_cameFrom_11 : decode cX12_cameFrom 11 = .ok (.bipush 8, 2) := by decide +kernel
theorem dX12_cameFrom_13 : decode cX12_cameFrom 13 = .ok (.iload_n 1, 1) := by decide +kernel
theorem dX12_cameFrom_14 : decode cX12_cameFrom 14 = .ok (.imul, 1) := by decide +kernel
theorem dX12_cameFrom_15 : decode cX12_cameFrom 15 = .ok (.aload_n 0, 1) := by decide +kernel
theorem dX12_cameFrom_16 : decode cX12_cameFrom 16 = .ok (.getfield 7, 3) := by decide +kernel
theorem dX12_cameFrom_19 : decode cX12_cameFrom 19 = .ok (.iload_n 3, 1) := by decide +kernel
theorem dX12_cameFrom_20 : decode cX12_cameFrom 20 = .ok (.iaload, 1) := by decide +kernel
theorem dX12_cameFrom_21 : decode cX12_cameFrom 21 = .ok (.iadd, 1) := by decide +kernel
theorem dX12_cameFrom_22 : decode cX12_cameFrom 22 = .ok (.iaload, 1) := by decide +kernel
theorem dX12_cameFrom_23 : decode cX12_cameFrom 23 = .ok (.aload_n 0, 1) := by decide +kernel
theorem dX12_cameFrom_24 : decode cX12_cameFrom 24 = .ok (.getfield 7, 3) := by decide +kernel
theorem dX12_cameFrom_27 : decode cX12_cameFrom 27 = .ok (.iload_n 3, 1) := by decide +kernel
theorem dX12_cameFrom_28 : decode cX12_cameFrom 28 = .ok (.iconst 1, 1) := by decide +kernel
theorem dX12_cameFrom_29 : decode cX12_cameFrom 29 = .ok (.iadd, 1) := by decide +kernel
theorem dX12_cameFrom_30 : decode cX12_cameFrom 30 = .ok (.iaload, 1) := by decide +kernel
theorem dX12_cameFrom_31 : decode cX12_cameFrom 31 = .ok (.if_icmp .eq 5, 3) := by decide +kernel
theorem dX12_cameFrom_34 : decode cX12_cameFrom 34 = .ok (.iconst 0, 1) := by decide +kernel
theorem dX12_cameFrom_35 : decode cX12_cameFrom 35 = .ok (.ireturn, 1) := by decide +kernel
theorem dX12_cameFrom_36 : decode cX12_cameFrom 36 = .ok (.iinc 3 2, 3) := by decide +kernel
theorem dX12_cameFrom_39 : decode cX12_cameFrom 39 = .ok (.goto (-37), 3) := by decide +kernel
theorem dX12_cameFrom_42 : decode cX12_cameFrom 42 = .ok (.iconst 1, 1) := by decide +kernel
theorem dX12_cameFrom_43 : decode cX12_cameFrom 43 = .ok (.ireturn, 1) := by decide +kernel
def f_X12_cameFrom_2 (v0 : XM) (k2 : Int32 → Int32 → Int32 → Option (Int32)) (l1 : Int32) (l2 : Int32) (l3 : Int32) : Option (Int32) :=
  if (l2 : Int32) ≤ l3 then
  (some ((1 : Int32) : Int32))
  else (x_ck l3 940 (
  x_ck (((8 : Int32) * l1) + (x_ga v0 1 l3)) 64 (
  x_ck (l3 + (1 : Int32)) 940 (
  if ((x_ga v0 13 (((8 : Int32) * l1) + (x_ga v0 1 l3))) : Int32) = (x_ga v0 1 (l3 + (1 : Int32))) then
  (k2 l1 l2 (l3 + 2))
  else (some ((0 : Int32) : Int32))))))
def f_X12_cameFrom (v0 : XM) (x0 : Int32) (x1 : Int32) : Option (Int32) :=
  x_lp (φ := Int32 → Int32 → Int32 → Option (Int32)) (fun _ _ _ => none) (f_X12_cameFrom_2 v0 ) x_NN x0 x1 (0 : Int32)
set_option maxRecDepth 100000 in
set_option maxHeartbeats 4000000 in
theorem w_X12_cameFrom_2 {p : Program} {l : Launch} {e : Env} {s : State} {m : MethodId} {args : Array Value} {below : List Frame} {meth : Method} {c : Code} {D : va_G} {tc : Nat → ClassId} {aK aV : Nat → Nat} {A : Nat → Prop} {ad0 : Nat → Nat} {v0 : XM} (X : Cx p s m args meth c cX12_cameFrom 4 (some .boolean) RX12 D tc aK aV A [(shModel, ad0)])  {o : Int32}  : ∀ (n : Nat), ∀ (l1 : Int32) (l2 : Int32) (l3 : Int32), x_lp (φ := Int32 → Int32 → Int32 → Option (Int32)) (fun _ _ _ => none) (f_X12_cameFrom_2 v0 ) n l1 l2 l3 = some o → aW p l e (x_Rm 0) s m args below meth c D tc A 4 [(shModel, ad0)] (some (.int o)) (x_Z o) [v0] 2 [(0, .ref (ad0 0)), (1, .int l1), (2, .int l2), (3, .int l3)] [] [v0] := by
  intro n
  induction n with
  | zero => intro l1 l2 l3 h; exact absurd h (fun q => by cases q)
  | succ n ih =>
    intro l1 l2 l3 h
    have h : f_X12_cameFrom_2 v0  (x_lp (φ := Int32 → Int32 → Int32 → Option (Int32)) (fun _ _ _ => none) (f_X12_cameFrom_2 v0 ) n) l1 l2 l3 = some o := h
    generalize x_lp (φ := Int32 → Int32 → Int32 → Option (Int32)) (fun _ _ _ => none) (f_X12_cameFrom_2 v0 ) n = k2 at h ih
    have hk2 := ih
    unfold f_X12_cameFrom_2 at h
    refine a_iload_n (pc := 2) X 3 dX12_cameFrom_2 rfl rfl ?_
    refine a_iload_n (pc := 3) X 2 dX12_cameFrom_3 rfl rfl ?_
    refine a_icmp_ge (pc := 4) X 42 dX12_cameFrom_4 rfl (fun c_4 => ?_) (fun c_4 => ?_)
    · have h := x_ifp c_4 h
      refine a_iconst (pc := 42) X dX12_cameFrom_42 q_ic_1 ?_
      have h := Option.some.inj h; subst h
      exact a_zret (pc := 43) X x_Z1 x_Z1 dX12_cameFrom_43
    · have h := x_ifn c_4 h
      refine a_aload_n (pc := 7) X 0 dX12_cameFrom_7 rfl rfl ?_
      refine a_getR (pc := 8) X 0 13 13 fl_RX12_133 rfl rfl rfl rfl rfl dX12_cameFrom_8 ?_
      refine a_bipush (pc := 11) X dX12_cameFrom_11 q_bp_8 ?_
      refine a_iload_n (pc := 13) X 1 dX12_cameFrom_13 rfl rfl ?_
      refine a_imul (pc := 14) X dX12_cameFrom_14 ?_
      refine a_aload_n (pc := 15) X 0 dX12_cameFrom_15 rfl rfl ?_
      refine a_getR (pc := 16) X 0 1 1 fl_RX12_7 rfl rfl rfl rfl rfl dX12_cameFrom_16 ?_
      refine a_iload_n (pc := 19) X 3 dX12_cameFrom_19 rfl rfl ?_
      obtain ⟨c_20, h⟩ := x_ck_elim h
      refine a_iald (pc := 20) X 0 rfl rfl rfl c_20 dX12_cameFrom_20 ?_
      refine a_iadd (pc := 21) X dX12_cameFrom_21 ?_
      obtain ⟨c_22, h⟩ := x_ck_elim h
      refine a_iald (pc := 22) X 0 rfl rfl rfl c_22 dX12_cameFrom_22 ?_
      refine a_aload_n (pc := 23) X 0 dX12_cameFrom_23 rfl rfl ?_
      refine a_getR (pc := 24) X 0 1 1 fl_RX12_7 rfl rfl rfl rfl rfl dX12_cameFrom_24 ?_
      refine a_iload_n (pc := 27) X 3 dX12_cameFrom_27 rfl rfl ?_
      refine a_iconst (pc := 28) X dX12_cameFrom_28 q_ic_1 ?_
      refine a_iadd (pc := 29) X dX12_cameFrom_29 ?_
      obtain ⟨c_30, h⟩ := x_ck_elim h
      refine a_iald (pc := 30) X 0 rfl rfl rfl c_30 dX12_cameFrom_30 ?_
      refine a_icmp_eq (pc := 31) X 36 dX12_cameFrom_31 rfl (fun c_31 => ?_) (fun c_31 => ?_)
      · have h := x_ifp c_31 h
        refine a_iinc (pc := 36) X 3 [(3, .int (l3 + 2)), (0, .ref (ad0 0)), (1, .int l1), (2, .int l2)] dX12_cameFrom_36 rfl (congrArg (HAdd.hAdd l3) q_ic_2) (by decide) rfl ?_
        refine a_goto (pc := 39) X 2 dX12_cameFrom_39 rfl ?_
        refine a_sub [1, 2, 3, 0] rfl ?_
        exact hk2 _ _ _ h
      · have h := x_ifn c_31 h
        refine a_iconst (pc := 34) X dX12_cameFrom_34 q_ic_0 ?_
        have h := Option.some.inj h; subst h
        exact a_zret (pc := 35) X x_Z0 x_Z0 dX12_cameFrom_35
set_option maxRecDepth 100000 in
set_option maxHeartbeats 4000000 in
theorem c_X12_cameFrom {l : Launch}  {ad0 : Nat → Nat} {v0 : XM} {x0 : Int32} {x1 : Int32}  {o : Int32} (h : f_X12_cameFrom v0 x0 x1 = some o) : CT l yX12_cameFrom cX12_cameFrom 4 (some .boolean) 0 [(shModel, ad0)] [v0] (fun aK => [.ref (ad0 0), .int x0, .int x1]) (some (.int o)) (x_Z o) [v0] := by
  refine CT_of (by decide) (fun _ => Nat.le_of_ble_eq_true rfl) ?_
  intro p e s m args below meth c D tc aK aV A X
  have X : Cx p s m args meth c cX12_cameFrom 4 (some .boolean) RX12 D tc aK aV A [(shModel, ad0)] := X
  show aW p l e (x_Rm 0) s m args below meth c D tc A 4 [(shModel, ad0)] (some (.int o)) (x_Z o) [v0] 0 [(0, .ref (ad0 0)), (1, .int x0), (2, .int x1)] [] [v0]
  unfold f_X12_cameFrom at h
  refine a_iconst (pc := 0) X dX12_cameFrom_0 q_ic_0 ?_
  refine a_istore_n (pc := 1) X [(3, .int (0 : Int32)), (0, .ref (ad0 0)), (1, .int x0), (2, .int x1)] dX12_cameFrom_1 rfl (by decide) rfl ?_
  refine a_sub [1, 2, 3, 0] rfl ?_
  exact w_X12_cameFrom_2 X    x_NN _ _ _ h
theorem dX12_leftBy_0 : decode cX12_leftBy 0 = .ok (.iconst 0, 1) := by decide +kernel
theorem dX12_leftBy_1 : decode cX12_leftBy 1 = .ok (.istore_n 3, 1) := by decide +kernel
theorem dX12_leftBy_2 : decode cX12_leftBy 2 = .ok (.iconst 0, 1) := by decide +kernel
theorem dX12_leftBy_3 : decode cX12_leftBy 3 = .ok (.istore 4, 2) := by decide +kernel
theorem dX12_leftBy_5 : decode cX12_leftBy 5 = .ok (.iload 4, 2) := by decide +kernel
theorem dX12_leftBy_7 : decode cX12_leftBy 7 = .ok (.aload_n 0, 1) := by decide +kernel
theorem dX12_leftBy_8 : decode cX12_leftBy 8 = .ok (.getfield 98, 3) := by decide +kernel
theorem dX12_leftBy_11 : decode cX12_leftBy 11 = .ok (.iconst 0, 1) := by decide +kernel
theorem dX12_leftBy_12 : decode cX12_leftBy 12 = .ok (.iaload, 1) := by decide +kernel
theorem dX12_leftBy_13 : decode cX12_leftBy 13 = .ok (.if_icmp .ge 80, 3) := by decide +kernel
theorem dX12_leftBy_16 : decode cX12_leftBy 16 = .ok (.iconst 0, 1) := by decide +kernel
theorem dX12_leftBy_17 : decode cX12_leftBy 17 = .ok (.istore 5, 2) := by decide +kernel
theorem dX12_leftBy_19 : decode cX12_leftBy 19 = .ok (.iconst 0, 1) := by decide +kernel
theorem dX12_leftBy_20 : decode cX12_leftBy 20 = .ok (.istore 6, 2) := by decide +kernel
theorem dX12_leftBy_22 : decode cX12_leftBy 22 = .ok (.iload 6, 2) := by decide +kernel
theorem dX12_leftBy_24 : decode cX12_leftBy 24 = .ok (.aload_n 0, 1) := by decide +kernel
theorem dX12_leftBy_25 : decode cX12_leftBy 25 = .ok (.getfield 98, 3) := by decide +kernel
theorem dX12_leftBy_28 : decode cX12_leftBy 28 = .ok (.iconst 0, 1) := by decide +kernel
theorem dX12_leftBy_29 : decode cX12_leftBy 29 = .ok (.iaload, 1) := by decide +kernel
theorem dX12_leftBy_30 : decode cX12_leftBy 30 = .ok (.if_icmp .ge 48, 3) := by decide +kernel
theorem dX12_leftBy_33 : decode cX12_leftBy 33 = .ok (.iload_n 1, 1) := by decide +kernel
theorem dX12_leftBy_34 : decode cX12_leftBy 34 = .ok (.iload 6, 2) := by decide +kernel
theorem dX12_leftBy_36 : decode cX12_leftBy 36 = .ok (.invokestatic 243, 3) := by decide +kernel
theorem dX12_leftBy_39 : decode cX12_leftBy 39 = .ok (.ifCond .eq 33, 3) := by decide +kernel
theorem dX12_leftBy_42 : decode cX12_leftBy 42 = .ok (.aload_n 0, 1) := by decide +kernel
theorem dX12_leftBy_43 : decode cX12_leftBy 43 = .ok (.getfield 133, 3) := by decide +kernel
theorem dX12_leftBy_46 : decode cX12_leftBy 46 = .ok (.bipush 8, 2) := by decide +kernel
theorem dX12_leftBy_48 : decode cX12_leftBy 48 = .ok (.iload 6, 2) := by decide +kernel
theorem dX12_leftBy_50 : decode cX12_leftBy 50 = .ok (.imul, 1) := by decide +kernel
theorem dX12_leftBy_51 : decode cX12_leftBy 51 = .ok (.iload_n 2, 1) := by decide +kernel
theorem dX12_leftBy_52 : decode cX12_leftBy 52 = .ok (.iadd, 1) := by decide +kernel
theorem dX12_leftBy_53 : decode cX12_leftBy 53 = .ok (.iaload, 1) := by decide +kernel
theorem dX12_leftBy_54 : decode cX12_leftBy 54 = .ok (.aload_n 0, 1) := by decide +kernel
theorem dX12_leftBy_55 : decode cX12_leftBy 55 = .ok (.getfield 133, 3) := by decide +kernel
theorem dX12_leftBy_58 : decode cX12_leftBy 58 = .ok (.bipush 8, 2) := by decide +kernel
theorem dX12_leftBy_60 : decode cX12_leftBy 60 = .ok (.iload 4, 2) := by decide +kernel
theorem dX12_leftBy_62 : decode cX12_leftBy 62 = .ok (.imul, 1) := by decide +kernel
theorem dX12_leftBy_63 : decode cX12_leftBy 63 = .ok (.iload_n 2, 1) := by decide +kernel
theorem dX12_leftBy_64 : decode cX12_leftBy 64 = .ok (.iadd, 1) := by decide +kernel
theorem dX12_leftBy_65 : decode cX12_leftBy 65 = .ok (.iaload, 1) := by decide +kernel
theorem dX12_leftBy_66 : decode cX12_leftBy 66 = .ok (.if_icmp .ne 6, 3) := by decide +kernel
theorem dX12_leftBy_69 : decode cX12_leftBy 69 = .ok (.iinc 5 1, 3) := by decide +kernel
theorem dX12_leftBy_72 : decode cX12_leftBy 72 = .ok (.iinc 6 1, 3) := by decide +kernel
theorem dX12_leftBy_75 : decode cX12_leftBy 75 = .ok (.goto (-53), 3) := by decide +kernel
theorem dX12_leftBy_78 : decode cX12_leftBy 78 = .ok (.iload 5, 2) := by decide +kernel
theorem dX12_leftBy_80 : decode cX12_leftBy 80 = .ok (.iload_n 3, 1) := by decide +kernel
theorem dX12_leftBy_81 : decode cX12_leftBy 81 = .ok (.if_icmp .le 6, 3) := by decide +kernel
theorem dX12_leftBy_84 : decode cX12_leftBy 84 = .ok (.iload 5, 2) := by decide +kernel
theorem dX12_leftBy_86 : decode cX12_leftBy 86 = .ok (.istore_n 3, 1) := by decide +kernel
theorem dX12_leftBy_87 : decode cX12_leftBy 87 = .ok (.iinc 4 1, 3) := by decide +kernel
theorem dX12_leftBy_90 : decode cX12_leftBy 90 = .ok (.goto (-85), 3) := by decide +kernel
theorem dX12_leftBy_93 : decode cX12_leftBy 93 = .ok (.iload_n 3, 1) := by decide +kernel
theorem dX12_leftBy_94 : decode cX12_leftBy 94 = .ok (.ireturn, 1) := by decide +kernel
def f_X12_leftBy_72 (v0 : XM) (k5 : Int32 → Int32 → Int32 → Int32 → Option (Int32)) (k22 : Int32 → Int32 → Int32 → Int32 → Int32 → Int32 → Option (Int32)) (l1 : Int32) (l2 : Int32) (l3 : Int32) (l4 : Int32) (l5 : Int32) (l6 : Int32) : Option (Int32) :=
  k22 l1 l2 l3 l4 l5 (l6 + 1)
def f_X12_leftBy_87 (v0 : XM) (k5 : Int32 → Int32 → Int32 → Int32 → Option (Int32)) (l1 : Int32) (l2 : Int32) (l3 : Int32) (l4 : Int32) : Option (Int32) :=
  k5 l1 l2 l3 (l4 + 1)
def f_X12_leftBy_22 (v0 : XM) (k5 : Int32 → Int32 → Int32 → Int32 → Option (Int32)) (k22 : Int32 → Int32 → Int32 → Int32 → Int32 → Int32 → Option (Int32)) (l1 : Int32) (l2 : Int32) (l3 : Int32) (l4 : Int32) (l5 : Int32) (l6 : Int32) : Option (Int32) :=
  if ((x_ga v0 2 (0 : Int32)) : Int32) ≤ l6 then
  (if (l5 : Int32) ≤ l3 then
  (f_X12_leftBy_87 v0 k5 l1 l2 l3 l4)
  else (f_X12_leftBy_87 v0 k5 l1 l2 l5 l4))
  else (x_lt (f_X12_has l1 l6) (fun y1 =>
  if y1 = (0 : Int32) then
  (f_X12_leftBy_72 v0 k5 k22 l1 l2 l3 l4 l5 l6)
  else (x_ck (((8 : Int32) * l6) + l2) 64 (
  x_ck (((8 : Int32) * l4) + l2) 64 (
  if ((x_ga v0 13 (((8 : Int32) * l6) + l2)) : Int32) = (x_ga v0 13 (((8 : Int32) * l4) + l2)) then
  (f_X12_leftBy_72 v0 k5 k22 l1 l2 l3 l4 (l5 + 1) l6)
  else (f_X12_leftBy_72 v0 k5 k22 l1 l2 l3 l4 l5 l6))))))
def f_X12_leftBy_5 (v0 : XM) (k5 : Int32 → Int32 → Int32 → Int32 → Option (Int32)) (l1 : Int32) (l2 : Int32) (l3 : Int32) (l4 : Int32) : Option (Int32) :=
  if ((x_ga v0 2 (0 : Int32)) : Int32) ≤ l4 then
  (some (l3 : Int32))
  else (x_lp (φ := Int32 → Int32 → Int32 → Int32 → Int32 → Int32 → Option (Int32)) (fun _ _ _ _ _ _ => none) (f_X12_leftBy_22 v0 k5) x_NN l1 l2 l3 l4 (0 : Int32) (0 : Int32))
def f_X12_leftBy (v0 : XM) (x0 : Int32) (x1 : Int32) : Option (Int32) :=
  x_lp (φ := Int32 → Int32 → Int32 → Int32 → Option (Int32)) (fun _ _ _ _ => none) (f_X12_leftBy_5 v0 ) x_NN x0 x1 (0 : Int32) (0 : Int32)
set_option maxRecDepth 100000 in
set_option maxHeartbeats 4000000 in
theorem w_X12_leftBy_72 {p : Program} {l : Launch} {e : Env} {s : State} {m : MethodId} {args : Array Value} {below : List Frame} {meth : Method} {c : Code} {D : va_G} {tc : Nat → ClassId} {aK aV : Nat → Nat} {A : Nat → Prop} {ad0 : Nat → Nat} {v0 : XM} (X : Cx p s m args meth c cX12_leftBy 7 (some .int) RX12 D tc aK aV A [(shModel, ad0)])  {o : Int32} {k5 : Int32 → Int32 → Int32 → Int32 → Option (Int32)} {k22 : Int32 → Int32 → Int32 → Int32 → Int32 → Int32 → Option (Int32)} (hk5 : ∀ (l1 : Int32) (l2 : Int32) (l3 : Int32) (l4 : Int32), k5 l1 l2 l3 l4 = some o → aW p l e (x_Rm 1) s m args below meth c D tc A 7 [(shModel, ad0)] (some (.int o)) True [v0] 5 [(0, .ref (ad0 0)), (1, .int l1), (2, .int l2), (3, .int l3), (4, .int l4)] [] [v0]) (hk22 : ∀ (l1 : Int32) (l2 : Int32) (l3 : Int32) (l4 : Int32) (l5 : Int32) (l6 : Int32), k22 l1 l2 l3 l4 l5 l6 = some o → aW p l e (x_Rm 1) s m args below meth c D tc A 7 [(shModel, ad0)] (some (.int o)) True [v0] 22 [(0, .ref (ad0 0)), (1, .int l1), (2, .int l2), (3, .int l3), (4, .int l4), (5, .int l5), (6, .int l6)] [] [v0]) {l1 : Int32} {l2 : Int32} {l3 : Int32} {l4 : Int32} {l5 : Int32} {l6 : Int32}  (h : f_X12_leftBy_72 v0 k5 k22 l1 l2 l3 l4 l5 l6 = some o) : aW p l e (x_Rm 1) s m args below meth c D tc A 7 [(shModel, ad0)] (some (.int o)) True [v0] 72 [(0, .ref (ad0 0)), (1, .int l1), (2, .int l2), (3, .int l3), (4, .int l4), (5, .int l5), (6, .int l6)] [] [v0] := by
  unfold f_X12_leftBy_72 at h
  refine a_iinc (pc := 72) X 6 [(6, .int (l6 + 1)), (0, .ref (ad0 0)), (1, .int l1), (2, .int l2), (3, .int l3), (4, .int l4), (5, .int l5)] dX12_leftBy_72 rfl (congrArg (HAdd.hAdd l6) q_ic_1) (by decide) rfl ?_
  refine a_goto (pc := 75) X 22 dX12_leftBy_75 rfl ?_
  refine a_sub [1, 2, 3, 4, 5, 6, 0] rfl ?_
  exact hk22 _ _ _ _ _ _ h
set_option maxRecDepth 100000 in
set_option maxHeartbeats 4000000 in
theorem w_X12_leftBy_87 {p : Program} {l : Launch} {e : Env} {s : State} {m : MethodId} {args : Array Value} {below : List Frame} {meth : Method} {c : Code} {D : va_G} {tc : Nat → ClassId} {aK aV : Nat → Nat} {A : Nat → Prop} {ad0 : Nat → Nat} {v0 : XM} (X : Cx p s m args meth c cX12_leftBy 7 (some .int) RX12 D tc aK aV A [(shModel, ad0)])  {o : Int32} {k5 : Int32 → Int32 → Int32 → Int32 → Option (Int32)} (hk5 : ∀ (l1 : Int32) (l2 : Int32) (l3 : Int32) (l4 : Int32), k5 l1 l2 l3 l4 = some o → aW p l e (x_Rm 1) s m args below meth c D tc A 7 [(shModel, ad0)] (some (.int o)) True [v0] 5 [(0, .ref (ad0 0)), (1, .int l1), (2, .int l2), (3, .int l3), (4, .int l4)] [] [v0]) {l1 : Int32} {l2 : Int32} {l3 : Int32} {l4 : Int32}  (h : f_X12_leftBy_87 v0 k5 l1 l2 l3 l4 = some o) : aW p l e (x_Rm 1) s m args below meth c D tc A 7 [(shModel, ad0)] (some (.int o)) True [v0] 87 [(0, .ref (ad0 0)), (1, .int l1), (2, .int l2), (3, .int l3), (4, .int l4)] [] [v0] := by
  unfold f_X12_leftBy_87 at h
  refine a_iinc (pc := 87) X 4 [(4, .int (l4 + 1)), (0, .ref (ad0 0)), (1, .int l1), (2, .int l2), (3, .int l3)] dX12_leftBy_87 rfl (congrArg (HAdd.hAdd l4) q_ic_1) (by decide) rfl ?_
  refine a_goto (pc := 90) X 5 dX12_leftBy_90 rfl ?_
  refine a_sub [1, 2, 3, 4, 0] rfl ?_
  exact hk5 _ _ _ _ h
set_option maxRecDepth 100000 in
set_option maxHeartbeats 4000000 in
theorem w_X12_leftBy_22 {p : Program} {l : Launch} {e : Env} {s : State} {m : MethodId} {args : Array Value} {below : List Frame} {meth : Method} {c : Code} {D : va_G} {tc : Nat → ClassId} {aK aV : Nat → Nat} {A : Nat → Prop} {ad0 : Nat → Nat} {v0 : XM} (X : Cx p s m args meth c cX12_leftBy 7 (some .int) RX12 D tc aK aV A [(shModel, ad0)])  {o : Int32} {k5 : Int32 → Int32 → Int32 → Int32 → Option (Int32)} (hk5 : ∀ (l1 : Int32) (l2 : Int32) (l3 : Int32) (l4 : Int32), k5 l1 l2 l3 l4 = some o → aW p l e (x_Rm 1) s m args below meth c D tc A 7 [(shModel, ad0)] (some (.int o)) True [v0] 5 [(0, .ref (ad0 0)), (1, .int l1), (2, .int l2), (3, .int l3), (4, .int l4)] [] [v0]) : ∀ (n : Nat), ∀ (l1 : Int32) (l2 : Int32) (l3 : Int32) (l4 : Int32) (l5 : Int32) (l6 : Int32), x_lp (φ := Int32 → Int32 → Int32 → Int32 → Int32 → Int32 → Option (Int32)) (fun _ _ _ _ _ _ => none) (f_X12_leftBy_22 v0 k5) n l1 l2 l3 l4 l5 l6 = some o → aW p l e (x_Rm 1) s m args below meth c D tc A 7 [(shModel, ad0)] (some (.int o)) True [v0] 22 [(0, .ref (ad0 0)), (1, .int l1), (2, .int l2), (3, .int l3), (4, .int l4), (5, .int l5), (6, .int l6)] [] [v0] := by
  intro n
  induction n with
  | zero => intro l1 l2 l3 l4 l5 l6 h; exact absurd h (fun q => by cases q)
  | succ n ih =>
    intro l1 l2 l3 l4 l5 l6 h
    have h : f_X12_leftBy_22 v0 k5 (x_lp (φ := Int32 → Int32 → Int32 → Int32 → Int32 → Int32 → Option (Int32)) (fun _ _ _ _ _ _ => none) (f_X12_leftBy_22 v0 k5) n) l1 l2 l3 l4 l5 l6 = some o := h
    generalize x_lp (φ := Int32 → Int32 → Int32 → Int32 → Int32 → Int32 → Option (Int32)) (fun _ _ _ _ _ _ => none) (f_X12_leftBy_22 v0 k5) n = k22 at h ih
    have hk22 := ih
    unfold f_X12_leftBy_22 at h
    refine a_iload (pc := 22) X 6 dX12_leftBy_22 rfl ?_
    refine a_aload_n (pc := 24) X 0 dX12_leftBy_24 rfl rfl ?_
    refine a_getR (pc := 25) X 0 2 2 fl_RX12_98 rfl rfl rfl rfl rfl dX12_leftBy_25 ?_
    refine a_iconst (pc := 28) X dX12_leftBy_28 q_ic_0 ?_
    refine a_iald (pc := 29) X 0 rfl rfl rfl (x_inl (by decide)) dX12_leftBy_29 ?_
    refine a_icmp_ge (pc := 30) X 78 dX12_leftBy_30 rfl (fun c_30 => ?_) (fun c_30 => ?_)
    · have h := x_ifp c_30 h
      refine a_iload (pc := 78) X 5 dX12_leftBy_78 rfl ?_
      refine a_iload_n (pc := 80) X 3 dX12_leftBy_80 rfl rfl ?_
      refine a_icmp_le (pc := 81) X 87 dX12_leftBy_81 rfl (fun c_81 => ?_) (fun c_81 => ?_)
      · have h := x_ifp c_81 h
        refine a_sub [0, 1, 2, 3, 4] rfl ?_
        exact w_X12_leftBy_87 X   hk5  h
      · have h := x_ifn c_81 h
        refine a_iload (pc := 84) X 5 dX12_leftBy_84 rfl ?_
        refine a_istore_n (pc := 86) X [(3, .int l5), (0, .ref (ad0 0)), (1, .int l1), (2, .int l2), (4, .int l4), (5, .int l5), (6, .int l6)] dX12_leftBy_86 rfl (by decide) rfl ?_
        refine a_sub [1, 2, 3, 0, 4] rfl ?_
        exact w_X12_leftBy_87 X   hk5  h
    · have h := x_ifn c_30 h
      refine a_iload_n (pc := 33) X 1 dX12_leftBy_33 rfl rfl ?_
      refine a_iload (pc := 34) X 6 dX12_leftBy_34 rfl ?_
      obtain ⟨y1, e_y1, h⟩ := x_lt_elim h
      refine a_callS (pc := 36) (st2 := [.int y1]) (vs2 := [v0]) X [] [] [.int l1, .int l6] [] cv_RX12_243 (c_X12_has   e_y1) rfl rfl rfl rfl rfl rfl rfl rfl rfl rfl rfl (Nat.le_of_ble_eq_true rfl) ⟨Nat.le_of_ble_eq_true rfl, Nat.le_of_ble_eq_true rfl⟩ dX12_leftBy_36 (fun z_36 => ?_)
      refine a_if_eq (pc := 39) X 72 dX12_leftBy_39 rfl (fun c_39 => ?_) (fun c_39 => ?_)
      · have h := x_ifp c_39 h
        exact w_X12_leftBy_72 X   hk5 hk22  h
      · have h := x_ifn c_39 h
        refine a_aload_n (pc := 42) X 0 dX12_leftBy_42 rfl rfl ?_
        refine a_getR (pc := 43) X 0 13 13 fl_RX12_133 rfl rfl rfl rfl rfl dX12_leftBy_43 ?_
        refine a_bipush (pc := 46) X dX12_leftBy_46 q_bp_8 ?_
        refine a_iload (pc := 48) X 6 dX12_leftBy_48 rfl ?_
        refine a_imul (pc := 50) X dX12_leftBy_50 ?_
        refine a_iload_n (pc := 51) X 2 dX12_leftBy_51 rfl rfl ?_
        refine a_iadd (pc := 52) X dX12_leftBy_52 ?_
        obtain ⟨c_53, h⟩ := x_ck_elim h
        refine a_iald (pc := 53) X 0 rfl rfl rfl c_53 dX12_leftBy_53 ?_
        refine a_aload_n (pc := 54) X 0 dX12_leftBy_54 rfl rfl ?_
        refine a_getR (pc := 55) X 0 13 13 fl_RX12_133 rfl rfl rfl rfl rfl dX12_leftBy_55 ?_
        refine a_bipush (pc := 58) X dX12_leftBy_58 q_bp_8 ?_
        refine a_iload (pc := 60) X 4 dX12_leftBy_60 rfl ?_
        refine a_imul (pc := 62) X dX12_leftBy_62 ?_
        refine a_iload_n (pc := 63) X 2 dX12_leftBy_63 rfl rfl ?_
        refine a_iadd (pc := 64) X dX12_leftBy_64 ?_
        obtain ⟨c_65, h⟩ := x_ck_elim h
        refine a_iald (pc := 65) X 0 rfl rfl rfl c_65 dX12_leftBy_65 ?_
        refine a_icmp_ne (pc := 66) X 72 dX12_leftBy_66 rfl (fun c_66 => ?_) (fun c_66 => ?_)
        · have h := x_ifn c_66 h
          exact w_X12_leftBy_72 X   hk5 hk22  h
        · have h := x_ifp c_66 h
          refine a_iinc (pc := 69) X 5 [(5, .int (l5 + 1)), (0, .ref (ad0 0)), (1, .int l1), (2, .int l2), (3, .int l3), (4, .int l4), (6, .int l6)] dX12_leftBy_69 rfl (congrArg (HAdd.hAdd l5) q_ic_1) (by decide) rfl ?_
          refine a_sub [1, 2, 3, 4, 5, 0, 6] rfl ?_
          exact w_X12_leftBy_72 X   hk5 hk22  h
set_option maxRecDepth 100000 in
set_option maxHeartbeats 4000000 in
theorem w_X12_leftBy_5 {p : Program} {l : Launch} {e : Env} {s : State} {m : MethodId} {args : Array Value} {below : List Frame} {meth : Method} {c : Code} {D : va_G} {tc : Nat → ClassId} {aK aV : Nat → Nat} {A : Nat → Prop} {ad0 : Nat → Nat} {v0 : XM} (X : Cx p s m args meth c cX12_leftBy 7 (some .int) RX12 D tc aK aV A [(shModel, ad0)])  {o : Int32}  : ∀ (n : Nat), ∀ (l1 : Int32) (l2 : Int32) (l3 : Int32) (l4 : Int32), x_lp (φ := Int32 → Int32 → Int32 → Int32 → Option (Int32)) (fun _ _ _ _ => none) (f_X12_leftBy_5 v0 ) n l1 l2 l3 l4 = some o → aW p l e (x_Rm 1) s m args below meth c D tc A 7 [(shModel, ad0)] (some (.int o)) True [v0] 5 [(0, .ref (ad0 0)), (1, .int l1), (2, .int l2), (3, .int l3), (4, .int l4)] [] [v0] := by
  intro n
  induction n with
  | zero => intro l1 l2 l3 l4 h; exact absurd h (fun q => by cases q)
  | succ n ih =>
    intro l1 l2 l3 l4 h
    have h : f_X12_leftBy_5 v0  (x_lp (φ := Int32 → Int32 → Int32 → Int32 → Option (Int32)) (fun _ _ _ _ => none) (f_X12_leftBy_5 v0 ) n) l1 l2 l3 l4 = some o := h
    generalize x_lp (φ := Int32 → Int32 → Int32 → Int32 → Option (Int32)) (fun _ _ _ _ => none) (f_X12_leftBy_5 v0 ) n = k5 at h ih
    have hk5 := ih
    unfold f_X12_leftBy_5 at h
    refine a_iload (pc := 5) X 4 dX12_leftBy_5 rfl ?_
    refine a_aload_n (pc := 7) X 0 dX12_leftBy_7 rfl rfl ?_
    refine a_getR (pc := 8) X 0 2 2 fl_RX12_98 rfl rfl rfl rfl rfl dX12_leftBy_8 ?_
    refine a_iconst (pc := 11) X dX12_leftBy_11 q_ic_0 ?_
    refine a_iald (pc := 12) X 0 rfl rfl rfl (x_inl (by decide)) dX12_leftBy_12 ?_
    refine a_icmp_ge (pc := 13) X 93 dX12_leftBy_13 rfl (fun c_13 => ?_) (fun c_13 => ?_)
    · have h := x_ifp c_13 h
      refine a_iload_n (pc := 93) X 3 dX12_leftBy_93 rfl rfl ?_
      have h := Option.some.inj h; subst h
      exact a_iret (pc := 94) X trivial dX12_leftBy_94
    · have h := x_ifn c_13 h
      refine a_iconst (pc := 16) X dX12_leftBy_16 q_ic_0 ?_
      refine a_istore (pc := 17) X [(5, .int (0 : Int32)), (0, .ref (ad0 0)), (1, .int l1), (2, .int l2), (3, .int l3), (4, .int l4)] dX12_leftBy_17 (by decide) rfl ?_
      refine a_iconst (pc := 19) X dX12_leftBy_19 q_ic_0 ?_
      refine a_istore (pc := 20) X [(6, .int (0 : Int32)), (5, .int (0 : Int32)), (0, .ref (ad0 0)), (1, .int l1), (2, .int l2), (3, .int l3), (4, .int l4)] dX12_leftBy_20 (by decide) rfl ?_
      refine a_sub [2, 3, 4, 5, 6, 1, 0] rfl ?_
      exact w_X12_leftBy_22 X   hk5 x_NN _ _ _ _ _ _ h
set_option maxRecDepth 100000 in
set_option maxHeartbeats 4000000 in
theorem c_X12_leftBy {l : Launch}  {ad0 : Nat → Nat} {v0 : XM} {x0 : Int32} {x1 : Int32}  {o : Int32} (h : f_X12_leftBy v0 x0 x1 = some o) : CT l yX12_leftBy cX12_leftBy 7 (some .int) 1 [(shModel, ad0)] [v0] (fun aK => [.ref (ad0 0), .int x0, .int x1]) (some (.int o)) True [v0] := by
  refine CT_of (by decide) (fun _ => Nat.le_of_ble_eq_true rfl) ?_
  intro p e s m args below meth c D tc aK aV A X
  have X : Cx p s m args meth c cX12_leftBy 7 (some .int) RX12 D tc aK aV A [(shModel, ad0)] := X
  show aW p l e (x_Rm 1) s m args below meth c D tc A 7 [(shModel, ad0)] (some (.int o)) True [v0] 0 [(0, .ref (ad0 0)), (1, .int x0), (2, .int x1)] [] [v0]
  unfold f_X12_leftBy at h
  refine a_iconst (pc := 0) X dX12_leftBy_0 q_ic_0 ?_
  refine a_istore_n (pc := 1) X [(3, .int (0 : Int32)), (0, .ref (ad0 0)), (1, .int x0), (2, .int x1)] dX12_leftBy_1 rfl (by decide) rfl ?_
  refine a_iconst (pc := 2) X dX12_leftBy_2 q_ic_0 ?_
  refine a_istore (pc := 3) X [(4, .int (0 : Int32)), (3, .int (0 : Int32)), (0, .ref (ad0 0)), (1, .int x0), (2, .int x1)] dX12_leftBy_3 (by decide) rfl ?_
  refine a_sub [2, 3, 4, 1, 0] rfl ?_
  exact w_X12_leftBy_5 X    x_NN _ _ _ _ h
theorem dX12_came_0 : decode cX12_came 0 = .ok (.aload_n 0, 1) := by decide +kernel
theorem dX12_came_1 : decode cX12_came 1 = .ok (.iconst 0, 1) := by decide +kernel
theorem dX12_came_2 : decode cX12_came 2 = .ok (.putfield 1, 3) := by decide +kernel
theorem dX12_came_5 : decode cX12_came 5 = .ok (.aload_n 0, 1) := by decide +kernel
theorem dX12_came_6 : decode cX12_came 6 = .ok (.invokevirtual 89, 3) := by decide +kernel
theorem dX12_came_9 : decode cX12_came 9 = .ok (.istore_n 1, 1) := by decide +kernel
theorem dX12_came_10 : decode cX12_came 10 = .ok (.iload_n 1, 1) := by decide +kernel
theorem dX12_came_11 : decode cX12_came 11 = .ok (.iconst 2, 1) := by decide +kernel
theorem dX12_came_12 : decode cX12_came 12 = .ok (.irem, 1) := by decide +kernel
theorem dX12_came_13 : decode cX12_came 13 = .ok (.ifCond .ne 15, 3) := by decide +kernel
theorem dX12_came_16 : decode cX12_came 16 = .ok (.iload_n 1, 1) := by decide +kernel
theorem dX12_came_17 : decode cX12_came 17 = .ok (.iconst 2, 1) := by decide +kernel
theorem dX12_came_18 : decode cX12_came 18 = .ok (.idiv, 1) := by decide +kernel
theorem dX12_came_19 : decode cX12_came 19 = .ok (.iconst 1, 1) := by decide +kernel
theorem dX12_came_20 : decode cX12_came 20 = .ok (.bipush 6, 2) := by decide +kernel
theorem dX12_came_22 : decode cX12_came 22 = .ok (.invokestatic 75, 3) := by decide +kernel
theorem dX12_came_25 : decode cX12_came 25 = .ok (.ifCond .ne 5, 3) := by decide +kernel
theorem dX12_came_28 : decode cX12_came 28 = .ok (.iconst (-1), 1) := by decide +kernel
theorem dX12_came_29 : decode cX12_came 29 = .ok (.ireturn, 1) := by decide +kernel
theorem dX12_came_30 : decode cX12_came 30 = .ok (.iconst 0, 1) := by decide +kernel
theorem dX12_came_31 : decode cX12_came 31 = .ok (.istore_n 2, 1) := by decide +kernel
theorem dX12_came_32 : decode cX12_came 32 = .ok (.iload_n 2, 1) := by decide +kernel
theorem dX12_came_33 : decode cX12_came 33 = .ok (.iload_n 1, 1) := by decide +kernel
theorem dX12_came_34 : decode cX12_came 34 = .ok (.if_icmp .ge 24, 3) := by decide +kernel
theorem dX12_came_37 : decode cX12_came 37 = .ok (.aload_n 0, 1) := by decide +kernel
theorem dX12_came_38 : decode cX12_came 38 = .ok (.aload_n 0, 1) := by decide +kernel
theorem dX12_came_39 : decode cX12_came 39 = .ok (.getfield 7, 3) := by decide +kernel
theorem dX12_came_42 : decode cX12_came 42 = .ok (.iload_n 2, 1) := by decide +kernel
theorem dX12_came_43 : decode cX12_came 43 = .ok (.iaload, 1) := by decide +kernel
theorem dX12_came_44 : decode cX12_came 44 = .ok (.invokevirtual 286, 3) := by decide +kernel
theorem dX12_came_47 : decode cX12_came 47 = .ok (.ifCond .ne 5, 3) := by decide +kernel
theorem dX12_came_50 : decode cX12_came 50 = .ok (.iconst (-1), 1) := by decide +kernel
theorem dX12_came_51 : decode cX12_came 51 = .ok (.ireturn, 1) := by decide +kernel
theorem dX12_came_52 : decode cX12_came 52 = .ok (.iinc 2 2, 3) := by decide +kernel
theorem dX12_came_55 : decode cX12_came 55 = .ok (.goto (-23), 3) := by decide +kernel
theorem dX12_came_58 : decode cX12_came 58 = .ok (.aload_n 0, 1) := by decide +kernel
theorem dX12_came_59 : decode cX12_came 59 = .ok (.iconst 1, 1) := by decide +kernel
theorem dX12_came_60 : decode cX12_came 60 = .ok (.invokevirtual 336, 3) := by decide +kernel
theorem dX12_came_63 : decode cX12_came 63 = .ok (.iconst 0, 1) := by decide +kernel
theorem dX12_came_64 : decode cX12_came 64 = .ok (.istore_n 2, 1) := by decide +kernel
theorem dX12_came_65 : decode cX12_came 65 = .ok (.iconst 0, 1) := by decide +kernel
theorem dX12_came_66 : decode cX12_came 66 = .ok (.istore_n 3, 1) := by decide +kernel
theorem dX12_came_67 : decode cX12_came 67 = .ok (.iload_n 3, 1) := by decide +kernel
theorem dX12_came_68 : decode cX12_came 68 = .ok (.aload_n 0, 1) := by decide +kernel
theorem dX12_came_69 : decode cX12_came 69 = .ok (.getfield 98, 3) := by decide +kernel
theorem dX12_came_72 : decode cX12_came 72 = .ok (.iconst 0, 1) := by decide +kernel
theorem dX12_came_73 : decode cX12_came 73 = .ok (.iaload, 1) := by decide +kernel
theorem dX12_came_74 : decode cX12_came 74 = .ok (.if_icmp .ge 24, 3) := by decide +kernel
theorem dX12_came_77 : decode cX12_came 77 = .ok (.aload_n 0, 1) := by decide +kernel
theorem dX12_came_78 : decode cX12_came 78 = .ok (.iload_n 3, 1) := by decide +kernel
theorem dX12_came_79 : decode cX12_came 79 = .ok (.iload_n 1, 1) := by decide +kernel
theorem dX12_came_80 : decode cX12_came 80 = .ok (.invokevirtual 351, 3) := by decide +kernel
theorem dX12_came_83 : decode cX12_came 83 = .ok (.ifCond .eq 9, 3) := by decide +kernel
theorem dX12_came_86 : decode cX12_came 86 = .ok (.iload_n 2, 1) := by decide +kernel
theorem dX12_came_87 : decode cX12_came 87 = .ok (.iconst 1, 1) := by decide +kernel
theorem dX12_came_88 : decode cX12_came 88 = .ok (.iload_n 3, 1) := by decide +kernel
theorem dX12_came_89 : decode cX12_came 89 = .ok (.ishl, 1) := by decide +kernel
theorem dX12_came_90 : decode cX12_came 90 = .ok (.ior, 1) := by decide +kernel
theorem dX12_came_91 : decode cX12_came 91 = .ok (.istore_n 2, 1) := by decide +kernel
theorem dX12_came_92 : decode cX12_came 92 = .ok (.iinc 3 1, 3) := by decide +kernel
theorem dX12_came_95 : decode cX12_came 95 = .ok (.goto (-28), 3) := by decide +kernel
theorem dX12_came_98 : decode cX12_came 98 = .ok (.iload_n 2, 1) := by decide +kernel
theorem dX12_came_99 : decode cX12_came 99 = .ok (.ifCond .ne 5, 3) := by decide +kernel
theorem dX12_came_102 : decode cX12_came 102 = .ok (.iconst 0, 1) := by decide +kernel
theorem dX12_came_103 : decode cX12_came 103 = .ok (.ireturn, 1) := by decide +kernel
theorem dX12_came_104 : decode cX12_came 104 = .ok (.aload_n 0, 1) := by decide +kernel
theorem dX12_came_105 : decode cX12_came 105 = .ok (.iconst 0, 1) := by decide +kernel
theorem dX12_came_106 : decode cX12_came 106 = .ok (.putfield 148, 3) := by decide +kernel
theorem dX12_came_109 : decode cX12_came 109 = .ok (.iconst 1, 1) := by decide +kernel
theorem dX12_came_110 : decode cX12_came 110 = .ok (.istore_n 3, 1) := by decide +kernel
theorem dX12_came_111 : decode cX12_came 111 = .ok (.iload_n 3, 1) := by decide +kernel
theorem dX12_came_112 : decode cX12_came 112 = .ok (.aload_n 0, 1) := by decide +kernel
theorem dX12_came_113 : decode cX12_came 113 = .ok (.getfield 98, 3) := by decide +kernel
theorem dX12_came_116 : decode cX12_came 116 = .ok (.iconst 0, 1) := by decide +kernel
theorem dX12_came_117 : decode cX12_came 117 = .ok (.iaload, 1) := by decide +kernel
theorem dX12_came_118 : decode cX12_came 118 = .ok (.if_icmp .ge 32, 3) := by decide +kernel
theorem dX12_came_121 : decode cX12_came 121 = .ok (.aload_n 0, 1) := by decide +kernel
theorem dX12_came_122 : decode cX12_came 122 = .ok (.iload_n 2, 1) := by decide +kernel
theorem dX12_came_123 : decode cX12_came 123 = .ok (.iload_n 3, 1) := by decide +kernel
theorem dX12_came_124 : decode cX12_came 124 = .ok (.invokevirtual 354, 3) := by decide +kernel
theorem dX12_came_127 : decode cX12_came 127 = .ok (.aload_n 0, 1) := by decide +kernel
theorem dX12_came_128 : decode cX12_came 128 = .ok (.iload_n 2, 1) := by decide +kernel
theorem dX12_came_129 : decode cX12_came 129 = .ok (.aload_n 0, 1) := by decide +kernel
theorem dX12_came_130 : decode cX12_came 130 = .ok (.getfield 148, 3) := by decide +kernel
theorem dX12_came_133 : decode cX12_came 133 = .ok (.invokevirtual 354, 3) := by decide +kernel
theorem dX12_came_136 : decode cX12_came 136 = .ok (.if_icmp .ge 8, 3) := by decide +kernel
theorem dX12_came_139 : decode cX12_came 139 = .ok (.aload_n 0, 1) := by decide +kernel
theorem dX12_came_140 : decode cX12_came 140 = .ok (.iload_n 3, 1) := by decide +kernel
theorem dX12_came_141 : decode cX12_came 141 = .ok (.putfield 148, 3) := by decide +kernel
theorem dX12_came_144 : decode cX12_came 144 = .ok (.iinc 3 1, 3) := by decide +kernel
theorem dX12_came_147 : decode cX12_came 147 = .ok (.goto (-36), 3) := by decide +kernel
theorem dX12_came_150 : decode cX12_came 150 = .ok (.iload_n 2, 1) := by decide +kernel
theorem dX12_came_151 : decode cX12_came 151 = .ok (.ireturn, 1) := by decide +kernel
def f_X12_came_92 (k67 : XM → Int32 → Int32 → Int32 → Option (Int32 × XM)) (w0 : XM) (l1 : Int32) (l2 : Int32) (l3 : Int32) : Option (Int32 × XM) :=
  k67 w0 l1 l2 (l3 + 1)
def f_X12_came_144 (k111 : XM → Int32 → Int32 → Option (Int32 × XM)) (w0 : XM) (l2 : Int32) (l3 : Int32) : Option (Int32 × XM) :=
  k111 w0 l2 (l3 + 1)
def f_X12_came_111 (k111 : XM → Int32 → Int32 → Option (Int32 × XM)) (w0 : XM) (l2 : Int32) (l3 : Int32) : Option (Int32 × XM) :=
  if ((x_ga w0 2 (0 : Int32)) : Int32) ≤ l3 then
  (some (l2, w0))
  else (x_bo (f_X12_leftBy w0 l2 l3) (fun y1 =>
  x_bo (f_X12_leftBy w0 l2 (w0.1 0 34)) (fun y2 =>
  if (y2 : Int32) ≤ y1 then
  (f_X12_came_144  k111 w0 l2 l3)
  else (x_lt (x_si w0 0 34 l3) (fun m3 =>
  f_X12_came_144  k111 m3 l2 l3)))))
def f_X12_came_67 (k67 : XM → Int32 → Int32 → Int32 → Option (Int32 × XM)) (w0 : XM) (l1 : Int32) (l2 : Int32) (l3 : Int32) : Option (Int32 × XM) :=
  if ((x_ga w0 2 (0 : Int32)) : Int32) ≤ l3 then
  (if l2 = (0 : Int32) then
  (some ((0 : Int32), w0))
  else (x_lt (x_si w0 0 34 (0 : Int32)) (fun m4 =>
  x_lp (φ := XM → Int32 → Int32 → Option (Int32 × XM)) (fun _ _ _ => none) (f_X12_came_111  ) x_NN m4 l2 (1 : Int32))))
  else (x_bo (f_X12_cameFrom w0 l3 l1) (fun y5 =>
  if y5 = (0 : Int32) then
  (f_X12_came_92  k67 w0 l1 l2 l3)
  else (x_lt (l2 ||| ((1 : Int32) <<< (l3 &&& 31))) (fun y6 =>
  f_X12_came_92  k67 w0 l1 y6 l3))))
def f_X12_came_32 (k32 : XM → Int32 → Int32 → Option (Int32 × XM)) (w0 : XM) (l1 : Int32) (l2 : Int32) : Option (Int32 × XM) :=
  if (l1 : Int32) ≤ l2 then
  (x_bo (f_X12_layApart w0 (1 : Int32)) (fun y7 =>
  x_lp (φ := XM → Int32 → Int32 → Int32 → Option (Int32 × XM)) (fun _ _ _ _ => none) (f_X12_came_67  ) x_NN y7 l1 (0 : Int32) (0 : Int32)))
  else (x_ck l2 940 (
  x_lt (f_X12_isSpot w0 (x_ga w0 1 l2)) (fun y8 =>
  if y8 = (0 : Int32) then
  (some ((-1 : Int32), w0))
  else (k32 w0 l1 (l2 + 2)))))
def f_X12_came (v0 : XM) : Option (Int32 × XM) :=
  x_lt (x_si v0 0 0 (0 : Int32)) (fun m9 =>
  x_lt (f_X12_take m9) (fun y10 =>
  x_lt (y10.1 - y10.1 / (2 : Int32) * (2 : Int32)) (fun y11 =>
  if y11 = (0 : Int32) then
  (x_lt (f_X12_isIn (y10.1 / (2 : Int32)) (1 : Int32) (6 : Int32)) (fun y12 =>
  if y12 = (0 : Int32) then
  (some ((-1 : Int32), y10.2))
  else (x_lp (φ := XM → Int32 → Int32 → Option (Int32 × XM)) (fun _ _ _ => none) (f_X12_came_32  ) x_NN y10.2 y10.1 (0 : Int32))))
  else (some ((-1 : Int32), y10.2)))))
set_option maxRecDepth 100000 in
set_option maxHeartbeats 4000000 in
theorem w_X12_came_92 {p : Program} {l : Launch} {e : Env} {s : State} {m : MethodId} {args : Array Value} {below : List Frame} {meth : Method} {c : Code} {D : va_G} {tc : Nat → ClassId} {aK aV : Nat → Nat} {A : Nat → Prop} {ad0 : Nat → Nat}  (X : Cx p s m args meth c cX12_came 4 (some .int) RX12 D tc aK aV A [(shModel, ad0)])  {o : Int32 × XM} {k67 : XM → Int32 → Int32 → Int32 → Option (Int32 × XM)} (hk67 : ∀ (w0 : XM) (l1 : Int32) (l2 : Int32) (l3 : Int32), k67 w0 l1 l2 l3 = some o → aW p l e (x_Rm 7) s m args below meth c D tc A 4 [(shModel, ad0)] (some (.int o.1)) True [o.2] 67 [(0, .ref (ad0 0)), (1, .int l1), (2, .int l2), (3, .int l3)] [] [w0]) {w0 : XM} {l1 : Int32} {l2 : Int32} {l3 : Int32}  (h : f_X12_came_92  k67 w0 l1 l2 l3 = some o) : aW p l e (x_Rm 7) s m args below meth c D tc A 4 [(shModel, ad0)] (some (.int o.1)) True [o.2] 92 [(0, .ref (ad0 0)), (1, .int l1), (2, .int l2), (3, .int l3)] [] [w0] := by
  unfold f_X12_came_92 at h
  refine a_iinc (pc := 92) X 3 [(3, .int (l3 + 1)), (0, .ref (ad0 0)), (1, .int l1), (2, .int l2)] dX12_came_92 rfl (congrArg (HAdd.hAdd l3) q_ic_1) (by decide) rfl ?_
  refine a_goto (pc := 95) X 67 dX12_came_95 rfl ?_
  refine a_sub [1, 2, 3, 0] rfl ?_
  exact hk67 _ _ _ _ h
set_option maxRecDepth 100000 in
set_option maxHeartbeats 4000000 in
theorem w_X12_came_144 {p : Program} {l : Launch} {e : Env} {s : State} {m : MethodId} {args : Array Value} {below : List Frame} {meth : Method} {c : Code} {D : va_G} {tc : Nat → ClassId} {aK aV : Nat → Nat} {A : Nat → Prop} {ad0 : Nat → Nat}  (X : Cx p s m args meth c cX12_came 4 (some .int) RX12 D tc aK aV A [(shModel, ad0)])  {o : Int32 × XM} {k111 : XM → Int32 → Int32 → Option (Int32 × XM)} (hk111 : ∀ (w0 : XM) (l2 : Int32) (l3 : Int32), k111 w0 l2 l3 = some o → aW p l e (x_Rm 7) s m args below meth c D tc A 4 [(shModel, ad0)] (some (.int o.1)) True [o.2] 111 [(0, .ref (ad0 0)), (2, .int l2), (3, .int l3)] [] [w0]) {w0 : XM} {l2 : Int32} {l3 : Int32}  (h : f_X12_came_144  k111 w0 l2 l3 = some o) : aW p l e (x_Rm 7) s m args below meth c D tc A 4 [(shModel, ad0)] (some (.int o.1)) True [o.2] 144 [(0, .ref (ad0 0)), (2, .int l2), (3, .int l3)] [] [w0] := by
  unfold f_X12_came_144 at h
  refine a_iinc (pc := 144) X 2 [(3, .int (l3 + 1)), (0, .ref (ad0 0)), (2, .int l2)] dX12_came_144 rfl (congrArg (HAdd.hAdd l3) q_ic_1) (by decide) rfl ?_
  refine a_goto (pc := 147) X 111 dX12_came_147 rfl ?_
  refine a_sub [1, 2, 0] rfl ?_
  exact hk111 _ _ _ h
set_option maxRecDepth 100000 in
set_option maxHeartbeats 4000000 in
theorem w_X12_came_111 {p : Program} {l : Launch} {e : Env} {s : State} {m : MethodId} {args : Array Value} {below : List Frame} {meth : Method} {c : Code} {D : va_G} {tc : Nat → ClassId} {aK aV : Nat → Nat} {A : Nat → Prop} {ad0 : Nat → Nat}  (X : Cx p s m args meth c cX12_came 4 (some .int) RX12 D tc aK aV A [(shModel, ad0)])  {o : Int32 × XM}  : ∀ (n : Nat), ∀ (w0 : XM) (l2 : Int32) (l3 : Int32), x_lp (φ := XM → Int32 → Int32 → Option (Int32 × XM)) (fun _ _ _ => none) (f_X12_came_111  ) n w0 l2 l3 = some o → aW p l e (x_Rm 7) s m args below meth c D tc A 4 [(shModel, ad0)] (some (.int o.1)) True [o.2] 111 [(0, .ref (ad0 0)), (2, .int l2), (3, .int l3)] [] [w0] := by
  intro n
  induction n with
  | zero => intro w0 l2 l3 h; exact absurd h (fun q => by cases q)
  | succ n ih =>
    intro w0 l2 l3 h
    have h : f_X12_came_111   (x_lp (φ := XM → Int32 → Int32 → Option (Int32 × XM)) (fun _ _ _ => none) (f_X12_came_111  ) n) w0 l2 l3 = some o := h
    generalize x_lp (φ := XM → Int32 → Int32 → Option (Int32 × XM)) (fun _ _ _ => none) (f_X12_came_111  ) n = k111 at h ih
    have hk111 := ih
    unfold f_X12_came_111 at h
    refine a_iload_n (pc := 111) X 2 dX12_came_111 rfl rfl ?_
    refine a_aload_n (pc := 112) X 0 dX12_came_112 rfl rfl ?_
    refine a_getR (pc := 113) X 0 2 2 fl_RX12_98 rfl rfl rfl rfl rfl dX12_came_113 ?_
    refine a_iconst (pc := 116) X dX12_came_116 q_ic_0 ?_
    refine a_iald (pc := 117) X 0 rfl rfl rfl (x_inl (by decide)) dX12_came_117 ?_
    refine a_icmp_ge (pc := 118) X 150 dX12_came_118 rfl (fun c_118 => ?_) (fun c_118 => ?_)
    · have h := x_ifp c_118 h
      refine a_iload_n (pc := 150) X 1 dX12_came_150 rfl rfl ?_
      have h := Option.some.inj h; subst h
      exact a_iret (pc := 151) X trivial dX12_came_151
    · have h := x_ifn c_118 h
      refine a_aload_n (pc := 121) X 0 dX12_came_121 rfl rfl ?_
      refine a_iload_n (pc := 122) X 1 dX12_came_122 rfl rfl ?_
      refine a_iload_n (pc := 123) X 2 dX12_came_123 rfl rfl ?_
      obtain ⟨y1, e_y1, h⟩ := x_bo_elim h
      refine a_callV (pc := 124) (st2 := [.int y1]) (vs2 := [w0]) X [(0, 0, 20)] [none] 0 0 12 [.int l2, .int l3] [] cv_RX12_354 (c_X12_leftBy (ad0 := ad0)  e_y1) rfl rfl rfl rfl rfl rfl rfl rfl rfl rfl rfl rfl rfl rfl rfl (Nat.le_of_ble_eq_true rfl) ⟨Nat.le_of_ble_eq_true rfl, Nat.le_of_ble_eq_true rfl⟩ dX12_came_124 (fun _ => ?_)
      refine a_aload_n (pc := 127) X 0 dX12_came_127 rfl rfl ?_
      refine a_iload_n (pc := 128) X 1 dX12_came_128 rfl rfl ?_
      refine a_aload_n (pc := 129) X 0 dX12_came_129 rfl rfl ?_
      refine a_getI (pc := 130) X 0 fl_RX12_148 rfl rfl rfl rfl dX12_came_130 ?_
      obtain ⟨y2, e_y2, h⟩ := x_bo_elim h
      refine a_callV (pc := 133) (st2 := [.int y2, .int y1]) (vs2 := [w0]) X [(0, 0, 20)] [none] 0 0 12 [.int l2, .int (w0.1 0 34)] [.int y1] cv_RX12_354 (c_X12_leftBy (ad0 := ad0)  e_y2) rfl rfl rfl rfl rfl rfl rfl rfl rfl rfl rfl rfl rfl rfl rfl (Nat.le_of_ble_eq_true rfl) ⟨Nat.le_of_ble_eq_true rfl, Nat.le_of_ble_eq_true rfl⟩ dX12_came_133 (fun _ => ?_)
      refine a_icmp_ge (pc := 136) X 144 dX12_came_136 rfl (fun c_136 => ?_) (fun c_136 => ?_)
      · have h := x_ifp c_136 h
        exact w_X12_came_144 X   hk111  h
      · have h := x_ifn c_136 h
        refine a_aload_n (pc := 139) X 0 dX12_came_139 rfl rfl ?_
        refine a_iload_n (pc := 140) X 2 dX12_came_140 rfl rfl ?_
        refine a_putI (pc := 141) X 0 fl_RX12_148 rfl rfl rfl rfl dX12_came_141 ?_
        obtain ⟨m3, e_m3, h⟩ := x_lt_elim h
        refine a_nm (vs2 := [m3]) (congrArg (fun q : XM => [q]) e_m3) ?_
        exact w_X12_came_144 X   hk111  h
set_option maxRecDepth 100000 in
set_option maxHeartbeats 4000000 in
theorem w_X12_came_67 {p : Program} {l : Launch} {e : Env} {s : State} {m : MethodId} {args : Array Value} {below : List Frame} {meth : Method} {c : Code} {D : va_G} {tc : Nat → ClassId} {aK aV : Nat → Nat} {A : Nat → Prop} {ad0 : Nat → Nat}  (X : Cx p s m args meth c cX12_came 4 (some .int) RX12 D tc aK aV A [(shModel, ad0)])  {o : Int32 × XM}  : ∀ (n : Nat), ∀ (w0 : XM) (l1 : Int32) (l2 : Int32) (l3 : Int32), x_lp (φ := XM → Int32 → Int32 → Int32 → Option (Int32 × XM)) (fun _ _ _ _ => none) (f_X12_came_67  ) n w0 l1 l2 l3 = some o → aW p l e (x_Rm 7) s m args below meth c D tc A 4 [(shModel, ad0)] (some (.int o.1)) True [o.2] 67 [(0, .ref (ad0 0)), (1, .int l1), (2, .int l2), (3, .int l3)] [] [w0] := by
  intro n
  induction n with
  | zero => intro w0 l1 l2 l3 h; exact absurd h (fun q => by cases q)
  | succ n ih =>
    intro w0 l1 l2 l3 h
    have h : f_X12_came_67   (x_lp (φ := XM → Int32 → Int32 → Int32 → Option (Int32 × XM)) (fun _ _ _ _ => none) (f_X12_came_67  ) n) w0 l1 l2 l3 = some o := h
    generalize x_lp (φ := XM → Int32 → Int32 → Int32 → Option (Int32 × XM)) (fun _ _ _ _ => none) (f_X12_came_67  ) n = k67 at h ih
    have hk67 := ih
    unfold f_X12_came_67 at h
    refine a_iload_n (pc := 67) X 3 dX12_came_67 rfl rfl ?_
    refine a_aload_n (pc := 68) X 0 dX12_came_68 rfl rfl ?_
    refine a_getR (pc := 69) X 0 2 2 fl_RX12_98 rfl rfl rfl rfl rfl dX12_came_69 ?_
    refine a_iconst (pc := 72) X dX12_came_72 q_ic_0 ?_
    refine a_iald (pc := 73) X 0 rfl rfl rfl (x_inl (by decide)) dX12_came_73 ?_
    refine a_icmp_ge (pc := 74) X 98 dX12_came_74 rfl (fun c_74 => ?_) (fun c_74 => ?_)
    · have h := x_ifp c_74 h
      refine a_iload_n (pc := 98) X 2 dX12_came_98 rfl rfl ?_
      refine a_if_ne (pc := 99) X 104 dX12_came_99 rfl (fun c_99 => ?_) (fun c_99 => ?_)
      · have h := x_ifn c_99 h
        refine a_aload_n (pc := 104) X 0 dX12_came_104 rfl rfl ?_
        refine a_iconst (pc := 105) X dX12_came_105 q_ic_0 ?_
        refine a_putI (pc := 106) X 0 fl_RX12_148 rfl rfl rfl rfl dX12_came_106 ?_
        obtain ⟨m4, e_m4, h⟩ := x_lt_elim h
        refine a_nm (vs2 := [m4]) (congrArg (fun q : XM => [q]) e_m4) ?_
        refine a_iconst (pc := 109) X dX12_came_109 q_ic_1 ?_
        refine a_istore_n (pc := 110) X [(3, .int (1 : Int32)), (0, .ref (ad0 0)), (1, .int l1), (2, .int l2)] dX12_came_110 rfl (by decide) rfl ?_
        refine a_sub [1, 3, 0] rfl ?_
        exact w_X12_came_111 X    x_NN _ _ _ h
      · have h := x_ifp c_99 h
        refine a_iconst (pc := 102) X dX12_came_102 q_ic_0 ?_
        have h := Option.some.inj h; subst h
        exact a_iret (pc := 103) X trivial dX12_came_103
    · have h := x_ifn c_74 h
      refine a_aload_n (pc := 77) X 0 dX12_came_77 rfl rfl ?_
      refine a_iload_n (pc := 78) X 3 dX12_came_78 rfl rfl ?_
      refine a_iload_n (pc := 79) X 1 dX12_came_79 rfl rfl ?_
      obtain ⟨y5, e_y5, h⟩ := x_bo_elim h
      refine a_callV (pc := 80) (st2 := [.int y5]) (vs2 := [w0]) X [(0, 0, 20)] [none] 0 0 12 [.int l3, .int l1] [] cv_RX12_351 (c_X12_cameFrom (ad0 := ad0)  e_y5) rfl rfl rfl rfl rfl rfl rfl rfl rfl rfl rfl rfl rfl rfl rfl (Nat.le_of_ble_eq_true rfl) ⟨Nat.le_of_ble_eq_true rfl, Nat.le_of_ble_eq_true rfl⟩ dX12_came_80 (fun z_80 => ?_)
      refine a_if_eq (pc := 83) X 92 dX12_came_83 rfl (fun c_83 => ?_) (fun c_83 => ?_)
      · have h := x_ifp c_83 h
        exact w_X12_came_92 X   hk67  h
      · have h := x_ifn c_83 h
        refine a_iload_n (pc := 86) X 2 dX12_came_86 rfl rfl ?_
        refine a_iconst (pc := 87) X dX12_came_87 q_ic_1 ?_
        refine a_iload_n (pc := 88) X 3 dX12_came_88 rfl rfl ?_
        refine a_ishl (pc := 89) X dX12_came_89 ?_
        refine a_ior (pc := 90) X dX12_came_90 ?_
        obtain ⟨y6, e_y6, h⟩ := x_lt_elim h
        refine a_ni e_y6 ?_
        refine a_istore_n (pc := 91) X [(2, .int y6), (0, .ref (ad0 0)), (1, .int l1), (3, .int l3)] dX12_came_91 rfl (by decide) rfl ?_
        refine a_sub [1, 2, 0, 3] rfl ?_
        exact w_X12_came_92 X   hk67  h
set_option maxRecDepth 100000 in
set_option maxHeartbeats 4000000 in
theorem w_X12_came_32 {p : Program} {l : Launch} {e : Env} {s : State} {m : MethodId} {args : Array Value} {below : List Frame} {meth : Method} {c : Code} {D : va_G} {tc : Nat → ClassId} {aK aV : Nat → Nat} {A : Nat → Prop} {ad0 : Nat → Nat}  (X : Cx p s m args meth c cX12_came 4 (some .int) RX12 D tc aK aV A [(shModel, ad0)])  {o : Int32 × XM}  : ∀ (n : Nat), ∀ (w0 : XM) (l1 : Int32) (l2 : Int32), x_lp (φ := XM → Int32 → Int32 → Option (Int32 × XM)) (fun _ _ _ => none) (f_X12_came_32  ) n w0 l1 l2 = some o → aW p l e (x_Rm 7) s m args below meth c D tc A 4 [(shModel, ad0)] (some (.int o.1)) True [o.2] 32 [(0, .ref (ad0 0)), (1, .int l1), (2, .int l2)] [] [w0] := by
  intro n
  induction n with
  | zero => intro w0 l1 l2 h; exact absurd h (fun q => by cases q)
  | succ n ih =>
    intro w0 l1 l2 h
    have h : f_X12_came_32   (x_lp (φ := XM → Int32 → Int32 → Option (Int32 × XM)) (fun _ _ _ => none) (f_X12_came_32  ) n) w0 l1 l2 = some o := h
    generalize x_lp (φ := XM → Int32 → Int32 → Option (Int32 × XM)) (fun _ _ _ => none) (f_X12_came_32  ) n = k32 at h ih
    have hk32 := ih
    unfold f_X12_came_32 at h
    refine a_iload_n (pc := 32) X 2 dX12_came_32 rfl rfl ?_
    refine a_iload_n (pc := 33) X 1 dX12_came_33 rfl rfl ?_
    refine a_icmp_ge (pc := 34) X 58 dX12_came_34 rfl (fun c_34 => ?_) (fun c_34 => ?_)
    · have h := x_ifp c_34 h
      refine a_aload_n (pc := 58) X 0 dX12_came_58 rfl rfl ?_
      refine a_iconst (pc := 59) X dX12_came_59 q_ic_1 ?_
      obtain ⟨y7, e_y7, h⟩ := x_bo_elim h
      refine a_callV (pc := 60) (st2 := []) (vs2 := [y7]) X [(0, 0, 20)] [some y7] 0 0 12 [.int (1 : Int32)] [] cv_RX12_336 (c_X12_layApart (ad0 := ad0)  e_y7) rfl rfl rfl rfl rfl rfl rfl rfl rfl rfl rfl rfl rfl rfl rfl (Nat.le_of_ble_eq_true rfl) ⟨Nat.le_of_ble_eq_true rfl, Nat.le_of_ble_eq_true rfl⟩ dX12_came_60 (fun _ => ?_)
      refine a_iconst (pc := 63) X dX12_came_63 q_ic_0 ?_
      refine a_istore_n (pc := 64) X [(2, .int (0 : Int32)), (0, .ref (ad0 0)), (1, .int l1)] dX12_came_64 rfl (by decide) rfl ?_
      refine a_iconst (pc := 65) X dX12_came_65 q_ic_0 ?_
      refine a_istore_n (pc := 66) X [(3, .int (0 : Int32)), (2, .int (0 : Int32)), (0, .ref (ad0 0)), (1, .int l1)] dX12_came_66 rfl (by decide) rfl ?_
      refine a_sub [2, 3, 1, 0] rfl ?_
      exact w_X12_came_67 X    x_NN _ _ _ _ h
    · have h := x_ifn c_34 h
      refine a_aload_n (pc := 37) X 0 dX12_came_37 rfl rfl ?_
      refine a_aload_n (pc := 38) X 0 dX12_came_38 rfl rfl ?_
      refine a_getR (pc := 39) X 0 1 1 fl_RX12_7 rfl rfl rfl rfl rfl dX12_came_39 ?_
      refine a_iload_n (pc := 42) X 2 dX12_came_42 rfl rfl ?_
      obtain ⟨c_43, h⟩ := x_ck_elim h
      refine a_iald (pc := 43) X 0 rfl rfl rfl c_43 dX12_came_43 ?_
      obtain ⟨y8, e_y8, h⟩ := x_lt_elim h
      refine a_callV (pc := 44) (st2 := [.int y8]) (vs2 := [w0]) X [(0, 0, 20)] [none] 0 0 12 [.int (x_ga w0 1 l2)] [] cv_RX12_286 (c_X12_isSpot (ad0 := ad0)  e_y8) rfl rfl rfl rfl rfl rfl rfl rfl rfl rfl rfl rfl rfl rfl rfl (Nat.le_of_ble_eq_true rfl) ⟨Nat.le_of_ble_eq_true rfl, Nat.le_of_ble_eq_true rfl⟩ dX12_came_44 (fun z_44 => ?_)
      refine a_if_ne (pc := 47) X 52 dX12_came_47 rfl (fun c_47 => ?_) (fun c_47 => ?_)
      · have h := x_ifn c_47 h
        refine a_iinc (pc := 52) X 2 [(2, .int (l2 + 2)), (0, .ref (ad0 0)), (1, .int l1)] dX12_came_52 rfl (congrArg (HAdd.hAdd l2) q_ic_2) (by decide) rfl ?_
        refine a_goto (pc := 55) X 32 dX12_came_55 rfl ?_
        refine a_sub [1, 2, 0] rfl ?_
        exact hk32 _ _ _ h
      · have h := x_ifp c_47 h
        refine a_iconst (pc := 50) X dX12_came_50 q_ic_m1 ?_
        have h := Option.some.inj h; subst h
        exact a_iret (pc := 51) X trivial dX12_came_51
set_option maxRecDepth 100000 in
set_option maxHeartbeats 4000000 in
theorem c_X12_came {l : Launch}  {ad0 : Nat → Nat} {v0 : XM}   {o : Int32 × XM} (h : f_X12_came v0 = some o) : CT l yX12_came cX12_came 4 (some .int) 7 [(shModel, ad0)] [v0] (fun aK => [.ref (ad0 0)]) (some (.int o.1)) True [o.2] := by
  refine CT_of (by decide) (fun _ => Nat.le_of_ble_eq_true rfl) ?_
  intro p e s m args below meth c D tc aK aV A X
  have X : Cx p s m args meth c cX12_came 4 (some .int) RX12 D tc aK aV A [(shModel, ad0)] := X
  show aW p l e (x_Rm 7) s m args below meth c D tc A 4 [(shModel, ad0)] (some (.int o.1)) True [o.2] 0 [(0, .ref (ad0 0))] [] [v0]
  unfold f_X12_came at h
  refine a_aload_n (pc := 0) X 0 dX12_came_0 rfl rfl ?_
  refine a_iconst (pc := 1) X dX12_came_1 q_ic_0 ?_
  refine a_putI (pc := 2) X 0 fl_RX12_1 rfl rfl rfl rfl dX12_came_2 ?_
  obtain ⟨m9, e_m9, h⟩ := x_lt_elim h
  refine a_nm (vs2 := [m9]) (congrArg (fun q : XM => [q]) e_m9) ?_
  refine a_aload_n (pc := 5) X 0 dX12_came_5 rfl rfl ?_
  obtain ⟨y10, e_y10, h⟩ := x_lt_elim h
  refine a_callV (pc := 6) (st2 := [.int y10.1]) (vs2 := [y10.2]) X [(0, 0, 20)] [some y10.2] 0 0 12 [] [] cv_RX12_89 (c_X12_take (ad0 := ad0)  e_y10) rfl rfl rfl rfl rfl rfl rfl rfl rfl rfl rfl rfl rfl rfl rfl (Nat.le_of_ble_eq_true rfl) ⟨Nat.le_of_ble_eq_true rfl, Nat.le_of_ble_eq_true rfl⟩ dX12_came_6 (fun _ => ?_)
  refine a_istore_n (pc := 9) X [(1, .int y10.1), (0, .ref (ad0 0))] dX12_came_9 rfl (by decide) rfl ?_
  refine a_iload_n (pc := 10) X 0 dX12_came_10 rfl rfl ?_
  refine a_iconst (pc := 11) X dX12_came_11 q_ic_2 ?_
  refine a_irem (pc := 12) X (by decide) dX12_came_12 ?_
  obtain ⟨y11, e_y11, h⟩ := x_lt_elim h
  refine a_ni e_y11 ?_
  refine a_if_ne (pc := 13) X 28 dX12_came_13 rfl (fun c_13 => ?_) (fun c_13 => ?_)
  · have h := x_ifn c_13 h
    refine a_iconst (pc := 28) X dX12_came_28 q_ic_m1 ?_
    have h := Option.some.inj h; subst h
    exact a_iret (pc := 29) X trivial dX12_came_29
  · have h := x_ifp c_13 h
    refine a_iload_n (pc := 16) X 0 dX12_came_16 rfl rfl ?_
    refine a_iconst (pc := 17) X dX12_came_17 q_ic_2 ?_
    refine a_idiv (pc := 18) X (by decide) dX12_came_18 ?_
    refine a_iconst (pc := 19) X dX12_came_19 q_ic_1 ?_
    refine a_bipush (pc := 20) X dX12_came_20 q_bp_6 ?_
    obtain ⟨y12, e_y12, h⟩ := x_lt_elim h
    refine a_callS (pc := 22) (st2 := [.int y12]) (vs2 := [y10.2]) X [] [] [.int (y10.1 / (2 : Int32)), .int (1 : Int32), .int (6 : Int32)] [] cv_RX12_75 (c_X12_isIn   e_y12) rfl rfl rfl rfl rfl rfl rfl rfl rfl rfl rfl (Nat.le_of_ble_eq_true rfl) ⟨Nat.le_of_ble_eq_true rfl, Nat.le_of_ble_eq_true rfl⟩ dX12_came_22 (fun z_22 => ?_)
    refine a_if_ne (pc := 25) X 30 dX12_came_25 rfl (fun c_25 => ?_) (fun c_25 => ?_)
    · have h := x_ifn c_25 h
      refine a_iconst (pc := 30) X dX12_came_30 q_ic_0 ?_
      refine a_istore_n (pc := 31) X [(2, .int (0 : Int32)), (1, .int y10.1), (0, .ref (ad0 0))] dX12_came_31 rfl (by decide) rfl ?_
      refine a_sub [2, 1, 0] rfl ?_
      exact w_X12_came_32 X    x_NN _ _ _ h
    · have h := x_ifp c_25 h
      refine a_iconst (pc := 28) X dX12_came_28 q_ic_m1 ?_
      have h := Option.some.inj h; subst h
      exact a_iret (pc := 29) X trivial dX12_came_29
theorem dX12_ask_0 : decode cX12_ask 0 = .ok (.aload_n 0, 1) := by decide +kernel
theorem dX12_ask_1 : decode cX12_ask 1 = .ok (.iconst 0, 1) := by decide +kernel
theorem dX12_ask_2 : decode cX12_ask 2 = .ok (.putfield 1, 3) := by decide +kernel
theorem dX12_ask_5 : decode cX12_ask 5 = .ok (.aload_n 0, 1) := by decide +kernel
theorem dX12_ask_6 : decode cX12_ask 6 = .ok (.getfield 148, 3) := by decide +kernel
theorem dX12_ask_9 : decode cX12_ask 9 = .ok (.ireturn, 1) := by decide +kernel
def f_X12_ask (v0 : XM) : Int32 × XM :=
  x_lt (x_si v0 0 0 (0 : Int32)) (fun m1 =>
  (m1.1 0 34, m1))
set_option maxRecDepth 100000 in
set_option maxHeartbeats 4000000 in
theorem c_X12_ask {l : Launch}  {ad0 : Nat → Nat} {v0 : XM}   {o : Int32 × XM} (h : f_X12_ask v0 = o) : CT l yX12_ask cX12_ask 1 (some .int) 0 [(shModel, ad0)] [v0] (fun aK => [.ref (ad0 0)]) (some (.int o.1)) True [o.2] := by
  refine CT_of (by decide) (fun _ => Nat.le_of_ble_eq_true rfl) ?_
  intro p e s m args below meth c D tc aK aV A X
  have X : Cx p s m args meth c cX12_ask 1 (some .int) RX12 D tc aK aV A [(shModel, ad0)] := X
  show aW p l e (x_Rm 0) s m args below meth c D tc A 1 [(shModel, ad0)] (some (.int o.1)) True [o.2] 0 [(0, .ref (ad0 0))] [] [v0]
  unfold f_X12_ask at h
  refine a_aload_n (pc := 0) X 0 dX12_ask_0 rfl rfl ?_
  refine a_iconst (pc := 1) X dX12_ask_1 q_ic_0 ?_
  refine a_putI (pc := 2) X 0 fl_RX12_1 rfl rfl rfl rfl dX12_ask_2 ?_
  obtain ⟨m1, e_m1, h⟩ := x_lt_elim h
  refine a_nm (vs2 := [m1]) (congrArg (fun q : XM => [q]) e_m1) ?_
  refine a_aload_n (pc := 5) X 0 dX12_ask_5 rfl rfl ?_
  refine a_getI (pc := 6) X 0 fl_RX12_148 rfl rfl rfl rfl dX12_ask_6 ?_
  subst h
  exact a_iret (pc := 9) X trivial dX12_ask_9
theorem dX12_mean_0 : decode cX12_mean 0 = .ok (.aload_n 0, 1) := by decide +kernel
theorem dX12_mean_1 : decode cX12_mean 1 = .ok (.iconst 0, 1) := by decide +kernel
theorem dX12_mean_2 : decode cX12_mean 2 = .ok (.putfield 1, 3) := by decide +kernel
theorem dX12_mean_5 : decode cX12_mean 5 = .ok (.aload_n 0, 1) := by decide +kernel
theorem dX12_mean_6 : decode cX12_mean 6 = .ok (.iload_n 1, 1) := by decide +kernel
theorem dX12_mean_7 : decode cX12_mean 7 = .ok (.invokevirtual 286, 3) := by decide +kernel
theorem dX12_mean_10 : decode cX12_mean 10 = .ok (.ifCond .eq 12, 3) := by decide +kernel
theorem dX12_mean_13 : decode cX12_mean 13 = .ok (.iload_n 2, 1) := by decide +kernel
theorem dX12_mean_14 : decode cX12_mean 14 = .ok (.iconst 0, 1) := by decide +kernel
theorem dX12_mean_15 : decode cX12_mean 15 = .ok (.iconst 1, 1) := by decide +kernel
theorem dX12_mean_16 : decode cX12_mean 16 = .ok (.invokestatic 75, 3) := by decide +kernel
theorem dX12_mean_19 : decode cX12_mean 19 = .ok (.ifCond .ne 8, 3) := by decide +kernel
theorem dX12_mean_22 : decode cX12_mean 22 = .ok (.aload_n 0, 1) := by decide +kernel
theorem dX12_mean_23 : decode cX12_mean 23 = .ok (.invokevirtual 274, 3) := by decide +kernel
theorem dX12_mean_26 : decode cX12_mean 26 = .ok (.ireturn, 1) := by decide +kernel
theorem dX12_mean_27 : decode cX12_mean 27 = .ok (.iconst 0, 1) := by decide +kernel
theorem dX12_mean_28 : decode cX12_mean 28 = .ok (.istore_n 3, 1) := by decide +kernel
theorem dX12_mean_29 : decode cX12_mean 29 = .ok (.iconst 0, 1) := by decide +kernel
theorem dX12_mean_30 : decode cX12_mean 30 = .ok (.istore 4, 2) := by decide +kernel
theorem dX12_mean_32 : decode cX12_mean 32 = .ok (.iconst 0, 1) := by decide +kernel
theorem dX12_mean_33 : decode cX12_mean 33 = .ok (.istore 5, 2) := by decide +kernel
theorem dX12_mean_35 : decode cX12_mean 35 = .ok (.iload 5, 2) := by decide +kernel
theorem dX12_mean_37 : decode cX12_mean 37 = .ok (.aload_n 0, 1) := by decide +kernel
theorem dX12_mean_38 : decode cX12_mean 38 = .ok (.getfield 98, 3) := by decide +kernel
theorem dX12_mean_41 : decode cX12_mean 41 = .ok (.iconst 1, 1) := by decide +kernel
theorem dX12_mean_42 : decode cX12_mean 42 = .ok (.iaload, 1) := by decide +kernel
theorem dX12_mean_43 : decode cX12_mean 43 = .ok (.if_icmp .ge 35, 3) := by decide +kernel
theorem dX12_mean_46 : decode cX12_mean 46 = .ok (.aload_n 0, 1) := by decide +kernel
theorem dX12_mean_47 : decode cX12_mean 47 = .ok (.iload 5, 2) := by decide +kernel
theorem dX12_mean_49 : decode cX12_mean 49 = .ok (.iload_n 1, 1) := by decide +kernel
theorem dX12_mean_50 : decode cX12_mean 50 = .ok (.invokevirtual 252, 3) := by decide +kernel
theorem dX12_mean_53 : decode cX12_mean 53 = .ok (.iconst (-1), 1) := by decide +kernel
theorem dX12_mean_54 : decode cX12_mean 54 = .ok (.if_icmp .ne 6, 3) := by decide +kernel
theorem dX12_mean_57 : decode cX12_mean 57 = .ok (.goto 15, 3) := by decide +kernel
theorem dX12_mean_60 : decode cX12_mean 60 = .ok (.iload_n 3, 1) := by decide +kernel
theorem dX12_mean_61 : decode cX12_mean 61 = .ok (.aload_n 0, 1) := by decide +kernel
theorem dX12_mean_62 : decode cX12_mean 62 = .ok (.iload 5, 2) := by decide +kernel
theorem dX12_mean_64 : decode cX12_mean 64 = .ok (.invokevirtual 249, 3) := by decide +kernel
theorem dX12_mean_67 : decode cX12_mean 67 = .ok (.iadd, 1) := by decide +kernel
theorem dX12_mean_68 : decode cX12_mean 68 = .ok (.istore_n 3, 1) := by decide +kernel
theorem dX12_mean_69 : decode cX12_mean 69 = .ok (.iinc 4 1, 3) := by decide +kernel
theorem dX12_mean_72 : decode cX12_mean 72 = .ok (.iinc 5 1, 3) := by decide +kernel
theorem dX12_mean_75 : decode cX12_mean 75 = .ok (.goto (-40), 3) := by decide +kernel
theorem dX12_mean_78 : decode cX12_mean 78 = .ok (.iload 4, 2) := by decide +kernel
theorem dX12_mean_80 : decode cX12_mean 80 = .ok (.ifCond .ne 10, 3) := by decide +kernel
theorem dX12_mean_83 : decode cX12_mean 83 = .ok (.aload_n 0, 1) := by decide +kernel
theorem dX12_mean_84 : decode cX12_mean 84 = .ok (.invokevirtual 274, 3) := by decide +kernel
theorem dX12_mean_87 : decode cX12_mean 87 = .ok (.goto 20, 3) := by decide +kernel
theorem dX12_mean_90 : decode cX12_mean 90 = .ok (.iload_n 2, 1) := by decide +kernel
theorem dX12_mean_91 : decode cX12_mean 91 = .ok (.ifCond .ne 7, 3) := by decide +kernel
theorem dX12_mean_94 : decode cX12_mean 94 = .ok (.iload_n 3, 1) := by decide +kernel
theorem dX12_mean_95 : decode cX12_mean 95 = .ok (.goto 5, 3) := by decide +kernel
theorem dX12_mean_98 : decode cX12_mean 98 = .ok (.iload 4, 2) := by decide +kernel
theorem dX12_mean_100 : decode cX12_mean 100 = .ok (.iload_n 3, 1) := by decide +kernel
theorem dX12_mean_101 : decode cX12_mean 101 = .ok (.iload 4, 2) := by decide +kernel
theorem dX12_mean_103 : decode cX12_mean 103 = .ok (.invokestatic 357, 3) := by decide +kernel
theorem dX12_mean_106 : decode cX12_mean 106 = .ok (.idiv, 1) := by decide +kernel
theorem dX12_mean_107 : decode cX12_mean 107 = .ok (.ireturn, 1) := by decide +kernel
def f_X12_mean_22 (w0 : XM) : Option (Int32 × XM) :=
  x_lt (f_X12_refuse w0) (fun y1 =>
  some (y1.1, y1.2))
def f_X12_mean_72 (k35 : XM → Int32 → Int32 → Int32 → Int32 → Int32 → Option (Int32 × XM)) (w0 : XM) (l1 : Int32) (l2 : Int32) (l3 : Int32) (l4 : Int32) (l5 : Int32) : Option (Int32 × XM) :=
  k35 w0 l1 l2 l3 l4 (l5 + 1)
def f_X12_mean_100 (w0 : XM) (l3 : Int32) (l4 : Int32) (s0 : Int32) : Option (Int32 × XM) :=
  x_bo (f_X12_common l3 l4) (fun y2 =>
  x_nz y2 (
  some (s0 / y2, w0)))
def f_X12_mean_35 (k35 : XM → Int32 → Int32 → Int32 → Int32 → Int32 → Option (Int32 × XM)) (w0 : XM) (l1 : Int32) (l2 : Int32) (l3 : Int32) (l4 : Int32) (l5 : Int32) : Option (Int32 × XM) :=
  if ((x_ga w0 2 (1 : Int32)) : Int32) ≤ l5 then
  (if l4 = (0 : Int32) then
  (x_lt (f_X12_refuse w0) (fun y3 =>
  some (y3.1, y3.2)))
  else (if l2 = (0 : Int32) then
  (f_X12_mean_100   w0 l3 l4 l3)
  else (f_X12_mean_100   w0 l3 l4 l4)))
  else (x_bo (f_X12_otherEnd w0 l5 l1) (fun y4 =>
  if (y4 : Int32) = (-1 : Int32) then
  (f_X12_mean_72  k35 w0 l1 l2 l3 l4 l5)
  else (x_bo (f_X12_depthOf w0 l5) (fun y5 =>
  f_X12_mean_72  k35 w0 l1 l2 (l3 + y5) (l4 + 1) l5))))
def f_X12_mean (v0 : XM) (x0 : Int32) (x1 : Int32) : Option (Int32 × XM) :=
  x_lt (x_si v0 0 0 (0 : Int32)) (fun m6 =>
  x_lt (f_X12_isSpot m6 x0) (fun y7 =>
  if y7 = (0 : Int32) then
  (f_X12_mean_22   m6)
  else (x_lt (f_X12_isIn x1 (0 : Int32) (1 : Int32)) (fun y8 =>
  if y8 = (0 : Int32) then
  (f_X12_mean_22   m6)
  else (x_lp (φ := XM → Int32 → Int32 → Int32 → Int32 → Int32 → Option (Int32 × XM)) (fun _ _ _ _ _ _ => none) (f_X12_mean_35  ) x_NN m6 x0 x1 (0 : Int32) (0 : Int32) (0 : Int32))))))
set_option maxRecDepth 100000 in
set_option maxHeartbeats 4000000 in
theorem w_X12_mean_22 {p : Program} {l : Launch} {e : Env} {s : State} {m : MethodId} {args : Array Value} {below : List Frame} {meth : Method} {c : Code} {D : va_G} {tc : Nat → ClassId} {aK aV : Nat → Nat} {A : Nat → Prop} {ad0 : Nat → Nat}  (X : Cx p s m args meth c cX12_mean 6 (some .int) RX12 D tc aK aV A [(shModel, ad0)])  {o : Int32 × XM}  {w0 : XM}  (h : f_X12_mean_22   w0 = some o) : aW p l e (x_Rm 3) s m args below meth c D tc A 6 [(shModel, ad0)] (some (.int o.1)) True [o.2] 22 [(0, .ref (ad0 0))] [] [w0] := by
  unfold f_X12_mean_22 at h
  refine a_aload_n (pc := 22) X 0 dX12_mean_22 rfl rfl ?_
  obtain ⟨y1, e_y1, h⟩ := x_lt_elim h
  refine a_callV (pc := 23) (st2 := [.int y1.1]) (vs2 := [y1.2]) X [(0, 0, 20)] [some y1.2] 0 0 12 [] [] cv_RX12_274 (c_X12_refuse (ad0 := ad0)  e_y1) rfl rfl rfl rfl rfl rfl rfl rfl rfl rfl rfl rfl rfl rfl rfl (Nat.le_of_ble_eq_true rfl) ⟨Nat.le_of_ble_eq_true rfl, Nat.le_of_ble_eq_true rfl⟩ dX12_mean_23 (fun _ => ?_)
  have h := Option.some.inj h; subst h
  exact a_iret (pc := 26) X trivial dX12_mean_26
set_option maxRecDepth 100000 in
set_option maxHeartbeats 4000000 in
theorem w_X12_mean_72 {p : Program} {l : Launch} {e : Env} {s : State} {m : MethodId} {args : Array Value} {below : List Frame} {meth : Method} {c : Code} {D : va_G} {tc : Nat → ClassId} {aK aV : Nat → Nat} {A : Nat → Prop} {ad0 : Nat → Nat}  (X : Cx p s m args meth c cX12_mean 6 (some .int) RX12 D tc aK aV A [(shModel, ad0)])  {o : Int32 × XM} {k35 : XM → Int32 → Int32 → Int32 → Int32 → Int32 → Option (Int32 × XM)} (hk35 : ∀ (w0 : XM) (l1 : Int32) (l2 : Int32) (l3 : Int32) (l4 : Int32) (l5 : Int32), k35 w0 l1 l2 l3 l4 l5 = some o → aW p l e (x_Rm 3) s m args below meth c D tc A 6 [(shModel, ad0)] (some (.int o.1)) True [o.2] 35 [(0, .ref (ad0 0)), (1, .int l1), (2, .int l2), (3, .int l3), (4, .int l4), (5, .int l5)] [] [w0]) {w0 : XM} {l1 : Int32} {l2 : Int32} {l3 : Int32} {l4 : Int32} {l5 : Int32}  (h : f_X12_mean_72  k35 w0 l1 l2 l3 l4 l5 = some o) : aW p l e (x_Rm 3) s m args below meth c D tc A 6 [(shModel, ad0)] (some (.int o.1)) True [o.2] 72 [(0, .ref (ad0 0)), (1, .int l1), (2, .int l2), (3, .int l3), (4, .int l4), (5, .int l5)] [] [w0] := by
  unfold f_X12_mean_72 at h
  refine a_iinc (pc := 72) X 5 [(5, .int (l5 + 1)), (0, .ref (ad0 0)), (1, .int l1), (2, .int l2), (3, .int l3), (4, .int l4)] dX12_mean_72 rfl (congrArg (HAdd.hAdd l5) q_ic_1) (by decide) rfl ?_
  refine a_goto (pc := 75) X 35 dX12_mean_75 rfl ?_
  refine a_sub [1, 2, 3, 4, 5, 0] rfl ?_
  exact hk35 _ _ _ _ _ _ h
set_option maxRecDepth 100000 in
set_option maxHeartbeats 4000000 in
theorem w_X12_mean_100 {p : Program} {l : Launch} {e : Env} {s : State} {m : MethodId} {args : Array Value} {below : List Frame} {meth : Method} {c : Code} {D : va_G} {tc : Nat → ClassId} {aK aV : Nat → Nat} {A : Nat → Prop} {ad0 : Nat → Nat}  (X : Cx p s m args meth c cX12_mean 6 (some .int) RX12 D tc aK aV A [(shModel, ad0)])  {o : Int32 × XM}  {w0 : XM} {l3 : Int32} {l4 : Int32} {s0 : Int32}  (h : f_X12_mean_100   w0 l3 l4 s0 = some o) : aW p l e (x_Rm 3) s m args below meth c D tc A 6 [(shModel, ad0)] (some (.int o.1)) True [o.2] 100 [(3, .int l3), (4, .int l4)] [.int s0] [w0] := by
  unfold f_X12_mean_100 at h
  refine a_iload_n (pc := 100) X 0 dX12_mean_100 rfl rfl ?_
  refine a_iload (pc := 101) X 1 dX12_mean_101 rfl ?_
  obtain ⟨y2, e_y2, h⟩ := x_bo_elim h
  refine a_callS (pc := 103) (st2 := [.int y2, .int s0]) (vs2 := [w0]) X [] [] [.int l3, .int l4] [.int s0] cv_RX12_357 (c_X12_common   e_y2) rfl rfl rfl rfl rfl rfl rfl rfl rfl rfl rfl (Nat.le_of_ble_eq_true rfl) ⟨Nat.le_of_ble_eq_true rfl, Nat.le_of_ble_eq_true rfl⟩ dX12_mean_103 (fun _ => ?_)
  obtain ⟨c_106, h⟩ := x_nz_elim h
  refine a_idiv (pc := 106) X c_106 dX12_mean_106 ?_
  have h := Option.some.inj h; subst h
  exact a_iret (pc := 107) X trivial dX12_mean_107
set_option maxRecDepth 100000 in
set_option maxHeartbeats 4000000 in
theorem w_X12_mean_35 {p : Program} {l : Launch} {e : Env} {s : State} {m : MethodId} {args : Array Value} {below : List Frame} {meth : Method} {c : Code} {D : va_G} {tc : Nat → ClassId} {aK aV : Nat → Nat} {A : Nat → Prop} {ad0 : Nat → Nat}  (X : Cx p s m args meth c cX12_mean 6 (some .int) RX12 D tc aK aV A [(shModel, ad0)])  {o : Int32 × XM}  : ∀ (n : Nat), ∀ (w0 : XM) (l1 : Int32) (l2 : Int32) (l3 : Int32) (l4 : Int32) (l5 : Int32), x_lp (φ := XM → Int32 → Int32 → Int32 → Int32 → Int32 → Option (Int32 × XM)) (fun _ _ _ _ _ _ => none) (f_X12_mean_35  ) n w0 l1 l2 l3 l4 l5 = some o → aW p l e (x_Rm 3) s m args below meth c D tc A 6 [(shModel, ad0)] (some (.int o.1)) True [o.2] 35 [(0, .ref (ad0 0)), (1, .int l1), (2, .int l2), (3, .int l3), (4, .int l4), (5, .int l5)] [] [w0] := by
  intro n
  induction n with
  | zero => intro w0 l1 l2 l3 l4 l5 h; exact absurd h (fun q => by cases q)
  | succ n ih =>
    intro w0 l1 l2 l3 l4 l5 h
    have h : f_X12_mean_35   (x_lp (φ := XM → Int32 → Int32 → Int32 → Int32 → Int32 → Option (Int32 × XM)) (fun _ _ _ _ _ _ => none) (f_X12_mean_35  ) n) w0 l1 l2 l3 l4 l5 = some o := h
    generalize x_lp (φ := XM → Int32 → Int32 → Int32 → Int32 → Int32 → Option (Int32 × XM)) (fun _ _ _ _ _ _ => none) (f_X12_mean_35  ) n = k35 at h ih
    have hk35 := ih
    unfold f_X12_mean_35 at h
    refine a_iload (pc := 35) X 5 dX12_mean_35 rfl ?_
    refine a_aload_n (pc := 37) X 0 dX12_mean_37 rfl rfl ?_
    refine a_getR (pc := 38) X 0 2 2 fl_RX12_98 rfl rfl rfl rfl rfl dX12_mean_38 ?_
    refine a_iconst (pc := 41) X dX12_mean_41 q_ic_1 ?_
    refine a_iald (pc := 42) X 0 rfl rfl rfl (x_inl (by decide)) dX12_mean_42 ?_
    refine a_icmp_ge (pc := 43) X 78 dX12_mean_43 rfl (fun c_43 => ?_) (fun c_43 => ?_)
    · have h := x_ifp c_43 h
      refine a_iload (pc := 78) X 4 dX12_mean_78 rfl ?_
      refine a_if_ne (pc := 80) X 90 dX12_mean_80 rfl (fun c_80 => ?_) (fun c_80 => ?_)
      · have h := x_ifn c_80 h
        refine a_iload_n (pc := 90) X 2 dX12_mean_90 rfl rfl ?_
        refine a_if_ne (pc := 91) X 98 dX12_mean_91 rfl (fun c_91 => ?_) (fun c_91 => ?_)
        · have h := x_ifn c_91 h
          refine a_iload (pc := 98) X 4 dX12_mean_98 rfl ?_
          refine a_sub [3, 4] rfl ?_
          exact w_X12_mean_100 X     h
        · have h := x_ifp c_91 h
          refine a_iload_n (pc := 94) X 3 dX12_mean_94 rfl rfl ?_
          refine a_goto (pc := 95) X 100 dX12_mean_95 rfl ?_
          refine a_sub [3, 4] rfl ?_
          exact w_X12_mean_100 X     h
      · have h := x_ifp c_80 h
        refine a_aload_n (pc := 83) X 0 dX12_mean_83 rfl rfl ?_
        obtain ⟨y3, e_y3, h⟩ := x_lt_elim h
        refine a_callV (pc := 84) (st2 := [.int y3.1]) (vs2 := [y3.2]) X [(0, 0, 20)] [some y3.2] 0 0 12 [] [] cv_RX12_274 (c_X12_refuse (ad0 := ad0)  e_y3) rfl rfl rfl rfl rfl rfl rfl rfl rfl rfl rfl rfl rfl rfl rfl (Nat.le_of_ble_eq_true rfl) ⟨Nat.le_of_ble_eq_true rfl, Nat.le_of_ble_eq_true rfl⟩ dX12_mean_84 (fun _ => ?_)
        refine a_goto (pc := 87) X 107 dX12_mean_87 rfl ?_
        have h := Option.some.inj h; subst h
        exact a_iret (pc := 107) X trivial dX12_mean_107
    · have h := x_ifn c_43 h
      refine a_aload_n (pc := 46) X 0 dX12_mean_46 rfl rfl ?_
      refine a_iload (pc := 47) X 5 dX12_mean_47 rfl ?_
      refine a_iload_n (pc := 49) X 1 dX12_mean_49 rfl rfl ?_
      obtain ⟨y4, e_y4, h⟩ := x_bo_elim h
      refine a_callV (pc := 50) (st2 := [.int y4]) (vs2 := [w0]) X [(0, 0, 20)] [none] 0 0 12 [.int l5, .int l1] [] cv_RX12_252 (c_X12_otherEnd (ad0 := ad0)  e_y4) rfl rfl rfl rfl rfl rfl rfl rfl rfl rfl rfl rfl rfl rfl rfl (Nat.le_of_ble_eq_true rfl) ⟨Nat.le_of_ble_eq_true rfl, Nat.le_of_ble_eq_true rfl⟩ dX12_mean_50 (fun _ => ?_)
      refine a_iconst (pc := 53) X dX12_mean_53 q_ic_m1 ?_
      refine a_icmp_ne (pc := 54) X 60 dX12_mean_54 rfl (fun c_54 => ?_) (fun c_54 => ?_)
      · have h := x_ifn c_54 h
        refine a_iload_n (pc := 60) X 3 dX12_mean_60 rfl rfl ?_
        refine a_aload_n (pc := 61) X 0 dX12_mean_61 rfl rfl ?_
        refine a_iload (pc := 62) X 5 dX12_mean_62 rfl ?_
        obtain ⟨y5, e_y5, h⟩ := x_bo_elim h
        refine a_callV (pc := 64) (st2 := [.int y5, .int l3]) (vs2 := [w0]) X [(0, 0, 20)] [none] 0 0 12 [.int l5] [.int l3] cv_RX12_249 (c_X12_depthOf (ad0 := ad0)  e_y5) rfl rfl rfl rfl rfl rfl rfl rfl rfl rfl rfl rfl rfl rfl rfl (Nat.le_of_ble_eq_true rfl) ⟨Nat.le_of_ble_eq_true rfl, Nat.le_of_ble_eq_true rfl⟩ dX12_mean_64 (fun _ => ?_)
        refine a_iadd (pc := 67) X dX12_mean_67 ?_
        refine a_istore_n (pc := 68) X [(3, .int (l3 + y5)), (0, .ref (ad0 0)), (1, .int l1), (2, .int l2), (4, .int l4), (5, .int l5)] dX12_mean_68 rfl (by decide) rfl ?_
        refine a_iinc (pc := 69) X 4 [(4, .int (l4 + 1)), (3, .int (l3 + y5)), (0, .ref (ad0 0)), (1, .int l1), (2, .int l2), (5, .int l5)] dX12_mean_69 rfl (congrArg (HAdd.hAdd l4) q_ic_1) (by decide) rfl ?_
        refine a_sub [2, 3, 4, 1, 0, 5] rfl ?_
        exact w_X12_mean_72 X   hk35  h
      · have h := x_ifp c_54 h
        refine a_goto (pc := 57) X 72 dX12_mean_57 rfl ?_
        exact w_X12_mean_72 X   hk35  h
set_option maxRecDepth 100000 in
set_option maxHeartbeats 4000000 in
theorem c_X12_mean {l : Launch}  {ad0 : Nat → Nat} {v0 : XM} {x0 : Int32} {x1 : Int32}  {o : Int32 × XM} (h : f_X12_mean v0 x0 x1 = some o) : CT l yX12_mean cX12_mean 6 (some .int) 3 [(shModel, ad0)] [v0] (fun aK => [.ref (ad0 0), .int x0, .int x1]) (some (.int o.1)) True [o.2] := by
  refine CT_of (by decide) (fun _ => Nat.le_of_ble_eq_true rfl) ?_
  intro p e s m args below meth c D tc aK aV A X
  have X : Cx p s m args meth c cX12_mean 6 (some .int) RX12 D tc aK aV A [(shModel, ad0)] := X
  show aW p l e (x_Rm 3) s m args below meth c D tc A 6 [(shModel, ad0)] (some (.int o.1)) True [o.2] 0 [(0, .ref (ad0 0)), (1, .int x0), (2, .int x1)] [] [v0]
  unfold f_X12_mean at h
  refine a_aload_n (pc := 0) X 0 dX12_mean_0 rfl rfl ?_
  refine a_iconst (pc := 1) X dX12_mean_1 q_ic_0 ?_
  refine a_putI (pc := 2) X 0 fl_RX12_1 rfl rfl rfl rfl dX12_mean_2 ?_
  obtain ⟨m6, e_m6, h⟩ := x_lt_elim h
  refine a_nm (vs2 := [m6]) (congrArg (fun q : XM => [q]) e_m6) ?_
  refine a_aload_n (pc := 5) X 0 dX12_mean_5 rfl rfl ?_
  refine a_iload_n (pc := 6) X 1 dX12_mean_6 rfl rfl ?_
  obtain ⟨y7, e_y7, h⟩ := x_lt_elim h
  refine a_callV (pc := 7) (st2 := [.int y7]) (vs2 := [m6]) X [(0, 0, 20)] [none] 0 0 12 [.int x0] [] cv_RX12_286 (c_X12_isSpot (ad0 := ad0)  e_y7) rfl rfl rfl rfl rfl rfl rfl rfl rfl rfl rfl rfl rfl rfl rfl (Nat.le_of_ble_eq_true rfl) ⟨Nat.le_of_ble_eq_true rfl, Nat.le_of_ble_eq_true rfl⟩ dX12_mean_7 (fun z_7 => ?_)
  refine a_if_eq (pc := 10) X 22 dX12_mean_10 rfl (fun c_10 => ?_) (fun c_10 => ?_)
  · have h := x_ifp c_10 h
    refine a_sub [0] rfl ?_
    exact w_X12_mean_22 X     h
  · have h := x_ifn c_10 h
    refine a_iload_n (pc := 13) X 2 dX12_mean_13 rfl rfl ?_
    refine a_iconst (pc := 14) X dX12_mean_14 q_ic_0 ?_
    refine a_iconst (pc := 15) X dX12_mean_15 q_ic_1 ?_
    obtain ⟨y8, e_y8, h⟩ := x_lt_elim h
    refine a_callS (pc := 16) (st2 := [.int y8]) (vs2 := [m6]) X [] [] [.int x1, .int (0 : Int32), .int (1 : Int32)] [] cv_RX12_75 (c_X12_isIn   e_y8) rfl rfl rfl rfl rfl rfl rfl rfl rfl rfl rfl (Nat.le_of_ble_eq_true rfl) ⟨Nat.le_of_ble_eq_true rfl, Nat.le_of_ble_eq_true rfl⟩ dX12_mean_16 (fun z_16 => ?_)
    refine a_if_ne (pc := 19) X 27 dX12_mean_19 rfl (fun c_19 => ?_) (fun c_19 => ?_)
    · have h := x_ifn c_19 h
      refine a_iconst (pc := 27) X dX12_mean_27 q_ic_0 ?_
      refine a_istore_n (pc := 28) X [(3, .int (0 : Int32)), (0, .ref (ad0 0)), (1, .int x0), (2, .int x1)] dX12_mean_28 rfl (by decide) rfl ?_
      refine a_iconst (pc := 29) X dX12_mean_29 q_ic_0 ?_
      refine a_istore (pc := 30) X [(4, .int (0 : Int32)), (3, .int (0 : Int32)), (0, .ref (ad0 0)), (1, .int x0), (2, .int x1)] dX12_mean_30 (by decide) rfl ?_
      refine a_iconst (pc := 32) X dX12_mean_32 q_ic_0 ?_
      refine a_istore (pc := 33) X [(5, .int (0 : Int32)), (4, .int (0 : Int32)), (3, .int (0 : Int32)), (0, .ref (ad0 0)), (1, .int x0), (2, .int x1)] dX12_mean_33 (by decide) rfl ?_
      refine a_sub [3, 4, 5, 2, 1, 0] rfl ?_
      exact w_X12_mean_35 X    x_NN _ _ _ _ _ _ h
    · have h := x_ifp c_19 h
      refine a_sub [0] rfl ?_
      exact w_X12_mean_22 X     h
theorem dX12_write_0 : decode cX12_write 0 = .ok (.aload_n 0, 1) := by decide +kernel
theorem dX12_write_1 : decode cX12_write 1 = .ok (.getfield 151, 3) := by decide +kernel
theorem dX12_write_4 : decode cX12_write 4 = .ok (.aload_n 0, 1) := by decide +kernel
theorem dX12_write_5 : decode cX12_write 5 = .ok (.getfield 360, 3) := by decide +kernel
theorem dX12_write_8 : decode cX12_write 8 = .ok (.iload_n 1, 1) := by decide +kernel
theorem dX12_write_9 : decode cX12_write 9 = .ok (.iastore, 1) := by decide +kernel
theorem dX12_write_10 : decode cX12_write 10 = .ok (.aload_n 0, 1) := by decide +kernel
theorem dX12_write_11 : decode cX12_write 11 = .ok (.dup, 1) := by decide +kernel
theorem dX12_write_12 : decode cX12_write 12 = .ok (.getfield 360, 3) := by decide +kernel
theorem dX12_write_15 : decode cX12_write 15 = .ok (.iconst 1, 1) := by decide +kernel
theorem dX12_write_16 : decode cX12_write 16 = .ok (.iadd, 1) := by decide +kernel
theorem dX12_write_17 : decode cX12_write 17 = .ok (.putfield 360, 3) := by decide +kernel
theorem dX12_write_20 : decode cX12_write 20 = .ok (.return_, 1) := by decide +kernel
def f_X12_write (v0 : XM) (x0 : Int32) : Option (XM) :=
  x_ck (v0.1 0 36) 64 (
  x_lt (x_pa v0 16 (v0.1 0 36) x0) (fun m1 =>
  x_lt (x_si m1 0 36 ((m1.1 0 36) + (1 : Int32))) (fun m2 =>
  some m2)))
set_option maxRecDepth 100000 in
set_option maxHeartbeats 4000000 in
theorem c_X12_write {l : Launch}  {ad0 : Nat → Nat} {v0 : XM} {x0 : Int32}  {o : XM} (h : f_X12_write v0 x0 = some o) : CT l yX12_write cX12_write 2 none 0 [(shModel, ad0)] [v0] (fun aK => [.ref (ad0 0), .int x0]) none True [o] := by
  refine CT_of (by decide) (fun _ => Nat.le_of_ble_eq_true rfl) ?_
  intro p e s m args below meth c D tc aK aV A X
  have X : Cx p s m args meth c cX12_write 2 none RX12 D tc aK aV A [(shModel, ad0)] := X
  show aW p l e (x_Rm 0) s m args below meth c D tc A 2 [(shModel, ad0)] none True [o] 0 [(0, .ref (ad0 0)), (1, .int x0)] [] [v0]
  unfold f_X12_write at h
  refine a_aload_n (pc := 0) X 0 dX12_write_0 rfl rfl ?_
  refine a_getR (pc := 1) X 0 16 16 fl_RX12_151 rfl rfl rfl rfl rfl dX12_write_1 ?_
  refine a_aload_n (pc := 4) X 0 dX12_write_4 rfl rfl ?_
  refine a_getI (pc := 5) X 0 fl_RX12_360 rfl rfl rfl rfl dX12_write_5 ?_
  refine a_iload_n (pc := 8) X 1 dX12_write_8 rfl rfl ?_
  obtain ⟨c_9, h⟩ := x_ck_elim h
  refine a_iast (pc := 9) X 0 rfl rfl rfl c_9 dX12_write_9 ?_
  obtain ⟨m1, e_m1, h⟩ := x_lt_elim h
  refine a_nm (vs2 := [m1]) (congrArg (fun q : XM => [q]) e_m1) ?_
  refine a_aload_n (pc := 10) X 0 dX12_write_10 rfl rfl ?_
  refine a_dup (pc := 11) X dX12_write_11 rfl ?_
  refine a_getI (pc := 12) X 0 fl_RX12_360 rfl rfl rfl rfl dX12_write_12 ?_
  refine a_iconst (pc := 15) X dX12_write_15 q_ic_1 ?_
  refine a_iadd (pc := 16) X dX12_write_16 ?_
  refine a_putI (pc := 17) X 0 fl_RX12_360 rfl rfl rfl rfl dX12_write_17 ?_
  obtain ⟨m2, e_m2, h⟩ := x_lt_elim h
  refine a_nm (vs2 := [m2]) (congrArg (fun q : XM => [q]) e_m2) ?_
  have h := Option.some.inj h; subst h
  exact a_vret (pc := 20) X trivial dX12_write_20
theorem dX12_writeWord_0 : decode cX12_writeWord 0 = .ok (.lload_n 1, 1) := by decide +kernel
theorem dX12_writeWord_1 : decode cX12_writeWord 1 = .ok (.ldc2_w 54, 3) := by decide +kernel
theorem dX12_writeWord_4 : decode cX12_writeWord 4 = .ok (.lcmp, 1) := by decide +kernel
theorem dX12_writeWord_5 : decode cX12_writeWord 5 = .ok (.ifCond .lt 12, 3) := by decide +kernel
theorem dX12_writeWord_8 : decode cX12_writeWord 8 = .ok (.aload_n 0, 1) := by decide +kernel
theorem dX12_writeWord_9 : decode cX12_writeWord 9 = .ok (.lload_n 1, 1) := by decide +kernel
theorem dX12_writeWord_10 : decode cX12_writeWord 10 = .ok (.ldc2_w 54, 3) := by decide +kernel
theorem dX12_writeWord_13 : decode cX12_writeWord 13 = .ok (.ldiv, 1) := by decide +kernel
theorem dX12_writeWord_14 : decode cX12_writeWord 14 = .ok (.invokevirtual 363, 3) := by decide +kernel
theorem dX12_writeWord_17 : decode cX12_writeWord 17 = .ok (.aload_n 0, 1) := by decide +kernel
theorem dX12_writeWord_18 : decode cX12_writeWord 18 = .ok (.bipush 96, 2) := by decide +kernel
theorem dX12_writeWord_20 : decode cX12_writeWord 20 = .ok (.lload_n 1, 1) := by decide +kernel
theorem dX12_writeWord_21 : decode cX12_writeWord 21 = .ok (.ldc2_w 54, 3) := by decide +kernel
theorem dX12_writeWord_24 : decode cX12_writeWord 24 = .ok (.lrem, 1) := by decide +kernel
theorem dX12_writeWord_25 : decode cX12_writeWord 25 = .ok (.l2i, 1) := by decide +kernel
theorem dX12_writeWord_26 : decode cX12_writeWord 26 = .ok (.iadd, 1) := by decide +kernel
theorem dX12_writeWord_27 : decode cX12_writeWord 27 = .ok (.invokevirtual 367, 3) := by decide +kernel
theorem dX12_writeWord_30 : decode cX12_writeWord 30 = .ok (.return_, 1) := by decide +kernel
def f_X12_writeWord_17 (rc : XM → Int64 → Option (XM)) (w0 : XM) (l1 : Int64) : Option (XM) :=
  x_lt ((96 : Int32) + (((l1 - l1 / (27 : Int64) * (27 : Int64)) : Int64).toInt32)) (fun y1 =>
  x_bo (f_X12_write w0 y1) (fun y2 =>
  some y2))
def f_X12_writeWord (rc : XM → Int64 → Option (XM)) (v0 : XM) (x0 : Int64) : Option (XM) :=
  if (lg_cmp x0 (27 : Int64)) < (0 : Int32) then
  (f_X12_writeWord_17 rc  v0 x0)
  else (x_bo (rc v0 (x0 / (27 : Int64))) (fun y3 =>
  f_X12_writeWord_17 rc  y3 x0))
set_option maxRecDepth 100000 in
set_option maxHeartbeats 4000000 in
theorem w_X12_writeWord_17 {p : Program} {l : Launch} {e : Env} {s : State} {m : MethodId} {args : Array Value} {below : List Frame} {meth : Method} {c : Code} {D : va_G} {tc : Nat → ClassId} {aK aV : Nat → Nat} {A : Nat → Prop} {ad0 : Nat → Nat} {dd : Nat} {rc : XM → Int64 → Option (XM)} (X : Cx p s m args meth c cX12_writeWord 3 none RX12 D tc aK aV A [(shModel, ad0)]) (hr_X12_writeWord : ∀ {ad0 : Nat → Nat} {v0 : XM} {x0 : Int64} {o : XM}, rc v0 x0 = some o → CT l yX12_writeWord cX12_writeWord 3 none (1 + dd) [(shModel, ad0)] [v0] (fun aK => [.ref (ad0 0), .long x0]) none True [o])  {o : XM}  {w0 : XM} {l1 : Int64}  (h : f_X12_writeWord_17 rc  w0 l1 = some o) : aW p l e (x_Rm (1 + dd + 1)) s m args below meth c D tc A 3 [(shModel, ad0)] none True [o] 17 [(0, .ref (ad0 0)), (1, .long l1)] [] [w0] := by
  unfold f_X12_writeWord_17 at h
  refine a_aload_n (pc := 17) X 0 dX12_writeWord_17 rfl rfl ?_
  refine a_bipush (pc := 18) X dX12_writeWord_18 q_bp_96 ?_
  refine a_lload_n (pc := 20) X 1 dX12_writeWord_20 rfl rfl ?_
  refine a_ldc2 (pc := 21) X kc_RX12_54 dX12_writeWord_21 ?_
  refine a_lrem (pc := 24) X (by decide) dX12_writeWord_24 ?_
  refine a_l2i (pc := 25) X dX12_writeWord_25 ?_
  refine a_iadd (pc := 26) X dX12_writeWord_26 ?_
  obtain ⟨y1, e_y1, h⟩ := x_lt_elim h
  refine a_ni e_y1 ?_
  obtain ⟨y2, e_y2, h⟩ := x_bo_elim h
  refine a_callV (pc := 27) (st2 := []) (vs2 := [y2]) X [(0, 0, 20)] [some y2] 0 0 12 [.int y1] [] cv_RX12_367 (c_X12_write (ad0 := ad0)  e_y2) rfl rfl rfl rfl rfl rfl rfl rfl rfl rfl rfl rfl rfl rfl rfl (Nat.le_of_ble_eq_true rfl) (by constructor <;> simp only [x_Rm] <;> omega) dX12_writeWord_27 (fun _ => ?_)
  have h := Option.some.inj h; subst h
  exact a_vret (pc := 30) X trivial dX12_writeWord_30
set_option maxRecDepth 100000 in
set_option maxHeartbeats 4000000 in
theorem cb_X12_writeWord {l : Launch} {dd : Nat} {rc : XM → Int64 → Option (XM)} (hr_X12_writeWord : ∀ {ad0 : Nat → Nat} {v0 : XM} {x0 : Int64} {o : XM}, rc v0 x0 = some o → CT l yX12_writeWord cX12_writeWord 3 none (1 + dd) [(shModel, ad0)] [v0] (fun aK => [.ref (ad0 0), .long x0]) none True [o]) {ad0 : Nat → Nat} {v0 : XM} {x0 : Int64}  {o : XM} (h : f_X12_writeWord rc v0 x0 = some o) : CT l yX12_writeWord cX12_writeWord 3 none (1 + dd + 1) [(shModel, ad0)] [v0] (fun aK => [.ref (ad0 0), .long x0]) none True [o] := by
  refine CT_of (by decide) (fun _ => Nat.le_of_ble_eq_true rfl) ?_
  intro p e s m args below meth c D tc aK aV A X
  have X : Cx p s m args meth c cX12_writeWord 3 none RX12 D tc aK aV A [(shModel, ad0)] := X
  show aW p l e (x_Rm (1 + dd + 1)) s m args below meth c D tc A 3 [(shModel, ad0)] none True [o] 0 [(0, .ref (ad0 0)), (1, .long x0)] [] [v0]
  unfold f_X12_writeWord at h
  refine a_lload_n (pc := 0) X 1 dX12_writeWord_0 rfl rfl ?_
  refine a_ldc2 (pc := 1) X kc_RX12_54 dX12_writeWord_1 ?_
  refine a_lcmp (pc := 4) X dX12_writeWord_4 ?_
  refine a_if_lt (pc := 5) X 17 dX12_writeWord_5 rfl (fun c_5 => ?_) (fun c_5 => ?_)
  · have h := x_ifp c_5 h
    exact w_X12_writeWord_17 X hr_X12_writeWord    h
  · have h := x_ifn c_5 h
    refine a_aload_n (pc := 8) X 0 dX12_writeWord_8 rfl rfl ?_
    refine a_lload_n (pc := 9) X 1 dX12_writeWord_9 rfl rfl ?_
    refine a_ldc2 (pc := 10) X kc_RX12_54 dX12_writeWord_10 ?_
    refine a_ldiv (pc := 13) X (by decide) dX12_writeWord_13 ?_
    obtain ⟨y3, e_y3, h⟩ := x_bo_elim h
    refine a_callV (pc := 14) (st2 := []) (vs2 := [y3]) X [(0, 0, 20)] [some y3] 0 0 12 [.long (x0 / (27 : Int64))] [] cv_RX12_363 (hr_X12_writeWord (ad0 := ad0)  e_y3) rfl rfl rfl rfl rfl rfl rfl rfl rfl rfl rfl rfl rfl rfl rfl (Nat.le_of_ble_eq_true rfl) (by constructor <;> simp only [x_Rm] <;> omega) dX12_writeWord_14 (fun _ => ?_)
    exact w_X12_writeWord_17 X hr_X12_writeWord    h
def g_ww : Nat → XM → Int64 → Option (XM)
  | 0 => fun _ _ => none
  | d + 1 => f_X12_writeWord (g_ww d)
theorem cg_ww (l : Launch) : ∀ d : Nat, (∀ {ad0 : Nat → Nat} {v0 : XM} {x0 : Int64} {o : XM}, g_ww d v0 x0 = some o → CT l yX12_writeWord cX12_writeWord 3 none (1 + d) [(shModel, ad0)] [v0] (fun aK => [.ref (ad0 0), .long x0]) none True [o]) := by
  intro d
  induction d with
  | zero => exact (fun h => by cases h)
  | succ d ih =>
    skip
    exact fun h => cb_X12_writeWord ih h
def F_X12_writeWord (v0 : XM) (x0 : Int64) : Option (XM) := g_ww 40 v0 x0
theorem c_X12_writeWord {l : Launch} {ad0 : Nat → Nat} {v0 : XM} {x0 : Int64} {o : XM} (h : F_X12_writeWord v0 x0 = some o) : CT l yX12_writeWord cX12_writeWord 3 none 41 [(shModel, ad0)] [v0] (fun aK => [.ref (ad0 0), .long x0]) none True [o] := (cg_ww l 40) h
theorem dX12_writeNumber_0 : decode cX12_writeNumber 0 = .ok (.iload_n 1, 1) := by decide +kernel
theorem dX12_writeNumber_1 : decode cX12_writeNumber 1 = .ok (.bipush 9, 2) := by decide +kernel
theorem dX12_writeNumber_3 : decode cX12_writeNumber 3 = .ok (.if_icmp .le 11, 3) := by decide +kernel
theorem dX12_writeNumber_6 : decode cX12_writeNumber 6 = .ok (.aload_n 0, 1) := by decide +kernel
theorem dX12_writeNumber_7 : decode cX12_writeNumber 7 = .ok (.iload_n 1, 1) := by decide +kernel
theorem dX12_writeNumber_8 : decode cX12_writeNumber 8 = .ok (.bipush 10, 2) := by decide +kernel
theorem dX12_writeNumber_10 : decode cX12_writeNumber 10 = .ok (.idiv, 1) := by decide +kernel
theorem dX12_writeNumber_11 : decode cX12_writeNumber 11 = .ok (.invokevirtual 370, 3) := by decide +kernel
theorem dX12_writeNumber_14 : decode cX12_writeNumber 14 = .ok (.aload_n 0, 1) := by decide +kernel
theorem dX12_writeNumber_15 : decode cX12_writeNumber 15 = .ok (.bipush 48, 2) := by decide +kernel
theorem dX12_writeNumber_17 : decode cX12_writeNumber 17 = .ok (.iload_n 1, 1) := by decide +kernel
theorem dX12_writeNumber_18 : decode cX12_writeNumber 18 = .ok (.bipush 10, 2) := by decide +kernel
theorem dX12_writeNumber_20 : decode cX12_writeNumber 20 = .ok (.irem, 1) := by decide +kernel
theorem dX12_writeNumber_21 : decode cX12_writeNumber 21 = .ok (.iadd, 1) := by decide +kernel
theorem dX12_writeNumber_22 : decode cX12_writeNumber 22 = .ok (.invokevirtual 367, 3) := by decide +kernel
theorem dX12_writeNumber_25 : decode cX12_writeNumber 25 = .ok (.return_, 1) := by decide +kernel
def f_X12_writeNumber_14 (rc : XM → Int32 → Option (XM)) (w0 : XM) (l1 : Int32) : Option (XM) :=
  x_lt ((48 : Int32) + (l1 - l1 / (10 : Int32) * (10 : Int32))) (fun y1 =>
  x_bo (f_X12_write w0 y1) (fun y2 =>
  some y2))
def f_X12_writeNumber (rc : XM → Int32 → Option (XM)) (v0 : XM) (x0 : Int32) : Option (XM) :=
  if (x0 : Int32) ≤ (9 : Int32) then
  (f_X12_writeNumber_14 rc  v0 x0)
  else (x_bo (rc v0 (x0 / (10 : Int32))) (fun y3 =>
  f_X12_writeNumber_14 rc  y3 x0))
set_option maxRecDepth 100000 in
set_option maxHeartbeats 4000000 in
theorem w_X12_writeNumber_14 {p : Program} {l : Launch} {e : Env} {s : State} {m : MethodId} {args : Array Value} {below : List Frame} {meth : Method} {c : Code} {D : va_G} {tc : Nat → ClassId} {aK aV : Nat → Nat} {A : Nat → Prop} {ad0 : Nat → Nat} {dd : Nat} {rc : XM → Int32 → Option (XM)} (X : Cx p s m args meth c cX12_writeNumber 2 none RX12 D tc aK aV A [(shModel, ad0)]) (hr_X12_writeNumber : ∀ {ad0 : Nat → Nat} {v0 : XM} {x0 : Int32} {o : XM}, rc v0 x0 = some o → CT l yX12_writeNumber cX12_writeNumber 2 none (1 + dd) [(shModel, ad0)] [v0] (fun aK => [.ref (ad0 0), .int x0]) none True [o])  {o : XM}  {w0 : XM} {l1 : Int32}  (h : f_X12_writeNumber_14 rc  w0 l1 = some o) : aW p l e (x_Rm (1 + dd + 1)) s m args below meth c D tc A 2 [(shModel, ad0)] none True [o] 14 [(0, .ref (ad0 0)), (1, .int l1)] [] [w0] := by
  unfold f_X12_writeNumber_14 at h
  refine a_aload_n (pc := 14) X 0 dX12_writeNumber_14 rfl rfl ?_
  refine a_bipush (pc := 15) X dX12_writeNumber_15 q_bp_48 ?_
  refine a_iload_n (pc := 17) X 1 dX12_writeNumber_17 rfl rfl ?_
  refine a_bipush (pc := 18) X dX12_writeNumber_18 q_bp_10 ?_
  refine a_irem (pc := 20) X (by decide) dX12_writeNumber_20 ?_
  refine a_iadd (pc := 21) X dX12_writeNumber_21 ?_
  obtain ⟨y1, e_y1, h⟩ := x_lt_elim h
  refine a_ni e_y1 ?_
  obtain ⟨y2, e_y2, h⟩ := x_bo_elim h
  refine a_callV (pc := 22) (st2 := []) (vs2 := [y2]) X [(0, 0, 20)] [some y2] 0 0 12 [.int y1] [] cv_RX12_367 (c_X12_write (ad0 := ad0)  e_y2) rfl rfl rfl rfl rfl rfl rfl rfl rfl rfl rfl rfl rfl rfl rfl (Nat.le_of_ble_eq_true rfl) (by constructor <;> simp only [x_Rm] <;> omega) dX12_writeNumber_22 (fun _ => ?_)
  have h := Option.some.inj h; subst h
  exact a_vret (pc := 25) X trivial dX12_writeNumber_25
set_option maxRecDepth 100000 in
set_option maxHeartbeats 4000000 in
theorem cb_X12_writeNumber {l : Launch} {dd : Nat} {rc : XM → Int32 → Option (XM)} (hr_X12_writeNumber : ∀ {ad0 : Nat → Nat} {v0 : XM} {x0 : Int32} {o : XM}, rc v0 x0 = some o → CT l yX12_writeNumber cX12_writeNumber 2 none (1 + dd) [(shModel, ad0)] [v0] (fun aK => [.ref (ad0 0), .int x0]) none True [o]) {ad0 : Nat → Nat} {v0 : XM} {x0 : Int32}  {o : XM} (h : f_X12_writeNumber rc v0 x0 = some o) : CT l yX12_writeNumber cX12_writeNumber 2 none (1 + dd + 1) [(shModel, ad0)] [v0] (fun aK => [.ref (ad0 0), .int x0]) none True [o] := by
  refine CT_of (by decide) (fun _ => Nat.le_of_ble_eq_true rfl) ?_
  intro p e s m args below meth c D tc aK aV A X
  have X : Cx p s m args meth c cX12_writeNumber 2 none RX12 D tc aK aV A [(shModel, ad0)] := X
  show aW p l e (x_Rm (1 + dd + 1)) s m args below meth c D tc A 2 [(shModel, ad0)] none True [o] 0 [(0, .ref (ad0 0)), (1, .int x0)] [] [v0]
  unfold f_X12_writeNumber at h
  refine a_iload_n (pc := 0) X 1 dX12_writeNumber_0 rfl rfl ?_
  refine a_bipush (pc := 1) X dX12_writeNumber_1 q_bp_9 ?_
  refine a_icmp_le (pc := 3) X 14 dX12_writeNumber_3 rfl (fun c_3 => ?_) (fun c_3 => ?_)
  · have h := x_ifp c_3 h
    exact w_X12_writeNumber_14 X hr_X12_writeNumber    h
  · have h := x_ifn c_3 h
    refine a_aload_n (pc := 6) X 0 dX12_writeNumber_6 rfl rfl ?_
    refine a_iload_n (pc := 7) X 1 dX12_writeNumber_7 rfl rfl ?_
    refine a_bipush (pc := 8) X dX12_writeNumber_8 q_bp_10 ?_
    refine a_idiv (pc := 10) X (by decide) dX12_writeNumber_10 ?_
    obtain ⟨y3, e_y3, h⟩ := x_bo_elim h
    refine a_callV (pc := 11) (st2 := []) (vs2 := [y3]) X [(0, 0, 20)] [some y3] 0 0 12 [.int (x0 / (10 : Int32))] [] cv_RX12_370 (hr_X12_writeNumber (ad0 := ad0)  e_y3) rfl rfl rfl rfl rfl rfl rfl rfl rfl rfl rfl rfl rfl rfl rfl (Nat.le_of_ble_eq_true rfl) (by constructor <;> simp only [x_Rm] <;> omega) dX12_writeNumber_11 (fun _ => ?_)
    exact w_X12_writeNumber_14 X hr_X12_writeNumber    h
def g_wn : Nat → XM → Int32 → Option (XM)
  | 0 => fun _ _ => none
  | d + 1 => f_X12_writeNumber (g_wn d)
theorem cg_wn (l : Launch) : ∀ d : Nat, (∀ {ad0 : Nat → Nat} {v0 : XM} {x0 : Int32} {o : XM}, g_wn d v0 x0 = some o → CT l yX12_writeNumber cX12_writeNumber 2 none (1 + d) [(shModel, ad0)] [v0] (fun aK => [.ref (ad0 0), .int x0]) none True [o]) := by
  intro d
  induction d with
  | zero => exact (fun h => by cases h)
  | succ d ih =>
    skip
    exact fun h => cb_X12_writeNumber ih h
def F_X12_writeNumber (v0 : XM) (x0 : Int32) : Option (XM) := g_wn 20 v0 x0
theorem c_X12_writeNumber {l : Launch} {ad0 : Nat → Nat} {v0 : XM} {x0 : Int32} {o : XM} (h : F_X12_writeNumber v0 x0 = some o) : CT l yX12_writeNumber cX12_writeNumber 2 none 21 [(shModel, ad0)] [v0] (fun aK => [.ref (ad0 0), .int x0]) none True [o] := (cg_wn l 20) h
theorem dX12_writeNext_0 : decode cX12_writeNext 0 = .ok (.aload_n 0, 1) := by decide +kernel
theorem dX12_writeNext_1 : decode cX12_writeNext 1 = .ok (.bipush 32, 2) := by decide +kernel
theorem dX12_writeNext_3 : decode cX12_writeNext 3 = .ok (.invokevirtual 367, 3) := by decide +kernel
theorem dX12_writeNext_6 : decode cX12_writeNext 6 = .ok (.aload_n 0, 1) := by decide +kernel
theorem dX12_writeNext_7 : decode cX12_writeNext 7 = .ok (.lload_n 1, 1) := by decide +kernel
theorem dX12_writeNext_8 : decode cX12_writeNext 8 = .ok (.invokevirtual 363, 3) := by decide +kernel
theorem dX12_writeNext_11 : decode cX12_writeNext 11 = .ok (.return_, 1) := by decide +kernel
def f_X12_writeNext (v0 : XM) (x0 : Int64) : Option (XM) :=
  x_bo (f_X12_write v0 (32 : Int32)) (fun y1 =>
  x_bo (F_X12_writeWord y1 x0) (fun y2 =>
  some y2))
set_option maxRecDepth 100000 in
set_option maxHeartbeats 4000000 in
theorem c_X12_writeNext {l : Launch}  {ad0 : Nat → Nat} {v0 : XM} {x0 : Int64}  {o : XM} (h : f_X12_writeNext v0 x0 = some o) : CT l yX12_writeNext cX12_writeNext 3 none 42 [(shModel, ad0)] [v0] (fun aK => [.ref (ad0 0), .long x0]) none True [o] := by
  refine CT_of (by decide) (fun _ => Nat.le_of_ble_eq_true rfl) ?_
  intro p e s m args below meth c D tc aK aV A X
  have X : Cx p s m args meth c cX12_writeNext 3 none RX12 D tc aK aV A [(shModel, ad0)] := X
  show aW p l e (x_Rm 42) s m args below meth c D tc A 3 [(shModel, ad0)] none True [o] 0 [(0, .ref (ad0 0)), (1, .long x0)] [] [v0]
  unfold f_X12_writeNext at h
  refine a_aload_n (pc := 0) X 0 dX12_writeNext_0 rfl rfl ?_
  refine a_bipush (pc := 1) X dX12_writeNext_1 q_bp_32 ?_
  obtain ⟨y1, e_y1, h⟩ := x_bo_elim h
  refine a_callV (pc := 3) (st2 := []) (vs2 := [y1]) X [(0, 0, 20)] [some y1] 0 0 12 [.int (32 : Int32)] [] cv_RX12_367 (c_X12_write (ad0 := ad0)  e_y1) rfl rfl rfl rfl rfl rfl rfl rfl rfl rfl rfl rfl rfl rfl rfl (Nat.le_of_ble_eq_true rfl) ⟨Nat.le_of_ble_eq_true rfl, Nat.le_of_ble_eq_true rfl⟩ dX12_writeNext_3 (fun _ => ?_)
  refine a_aload_n (pc := 6) X 0 dX12_writeNext_6 rfl rfl ?_
  refine a_lload_n (pc := 7) X 1 dX12_writeNext_7 rfl rfl ?_
  obtain ⟨y2, e_y2, h⟩ := x_bo_elim h
  refine a_callV (pc := 8) (st2 := []) (vs2 := [y2]) X [(0, 0, 20)] [some y2] 0 0 12 [.long x0] [] cv_RX12_363 (c_X12_writeWord (ad0 := ad0)  e_y2) rfl rfl rfl rfl rfl rfl rfl rfl rfl rfl rfl rfl rfl rfl rfl (Nat.le_of_ble_eq_true rfl) ⟨Nat.le_of_ble_eq_true rfl, Nat.le_of_ble_eq_true rfl⟩ dX12_writeNext_8 (fun _ => ?_)
  have h := Option.some.inj h; subst h
  exact a_vret (pc := 11) X trivial dX12_writeNext_11
theorem dX12_tag_0 : decode cX12_tag 0 = .ok (.aload_n 0, 1) := by decide +kernel
theorem dX12_tag_1 : decode cX12_tag 1 = .ok (.iconst 0, 1) := by decide +kernel
theorem dX12_tag_2 : decode cX12_tag 2 = .ok (.putfield 1, 3) := by decide +kernel
theorem dX12_tag_5 : decode cX12_tag 5 = .ok (.aload_n 0, 1) := by decide +kernel
theorem dX12_tag_6 : decode cX12_tag 6 = .ok (.iload_n 1, 1) := by decide +kernel
theorem dX12_tag_7 : decode cX12_tag 7 = .ok (.invokevirtual 237, 3) := by decide +kernel
theorem dX12_tag_10 : decode cX12_tag 10 = .ok (.ifCond .ne 5, 3) := by decide +kernel
theorem dX12_tag_13 : decode cX12_tag 13 = .ok (.iconst (-1), 1) := by decide +kernel
theorem dX12_tag_14 : decode cX12_tag 14 = .ok (.ireturn, 1) := by decide +kernel
theorem dX12_tag_15 : decode cX12_tag 15 = .ok (.aload_n 0, 1) := by decide +kernel
theorem dX12_tag_16 : decode cX12_tag 16 = .ok (.iconst 0, 1) := by decide +kernel
theorem dX12_tag_17 : decode cX12_tag 17 = .ok (.putfield 360, 3) := by decide +kernel
theorem dX12_tag_20 : decode cX12_tag 20 = .ok (.aload_n 0, 1) := by decide +kernel
theorem dX12_tag_21 : decode cX12_tag 21 = .ok (.aload_n 0, 1) := by decide +kernel
theorem dX12_tag_22 : decode cX12_tag 22 = .ok (.getfield 113, 3) := by decide +kernel
theorem dX12_tag_25 : decode cX12_tag 25 = .ok (.bipush 14, 2) := by decide +kernel
theorem dX12_tag_27 : decode cX12_tag 27 = .ok (.iload_n 1, 1) := by decide +kernel
theorem dX12_tag_28 : decode cX12_tag 28 = .ok (.iadd, 1) := by decide +kernel
theorem dX12_tag_29 : decode cX12_tag 29 = .ok (.laload, 1) := by decide +kernel
theorem dX12_tag_30 : decode cX12_tag 30 = .ok (.invokevirtual 363, 3) := by decide +kernel
theorem dX12_tag_33 : decode cX12_tag 33 = .ok (.aload_n 0, 1) := by decide +kernel
theorem dX12_tag_34 : decode cX12_tag 34 = .ok (.aload_n 0, 1) := by decide +kernel
theorem dX12_tag_35 : decode cX12_tag 35 = .ok (.iload_n 1, 1) := by decide +kernel
theorem dX12_tag_36 : decode cX12_tag 36 = .ok (.invokevirtual 240, 3) := by decide +kernel
theorem dX12_tag_39 : decode cX12_tag 39 = .ok (.ifCond .eq 17, 3) := by decide +kernel
theorem dX12_tag_42 : decode cX12_tag 42 = .ok (.bipush 116, 2) := by decide +kernel
theorem dX12_tag_44 : decode cX12_tag 44 = .ok (.bipush 111, 2) := by decide +kernel
theorem dX12_tag_46 : decode cX12_tag 46 = .ok (.iconst 0, 1) := by decide +kernel
theorem dX12_tag_47 : decode cX12_tag 47 = .ok (.iconst 0, 1) := by decide +kernel
theorem dX12_tag_48 : decode cX12_tag 48 = .ok (.iconst 0, 1) := by decide +kernel
theorem dX12_tag_49 : decode cX12_tag 49 = .ok (.iconst 0, 1) := by decide +kernel
theorem dX12_tag_50 : decode cX12_tag 50 = .ok (.invokestatic 58, 3) := by decide +kernel
theorem dX12_tag_53 : decode cX12_tag 53 = .ok (.goto 8, 3) := by decide +kernel
theorem dX12_tag_56 : decode cX12_tag 56 = .ok (.bipush 23, 2) := by decide +kernel
theorem dX12_tag_58 : decode cX12_tag 58 = .ok (.invokestatic 62, 3) := by decide +kernel
theorem dX12_tag_61 : decode cX12_tag 61 = .ok (.invokevirtual 373, 3) := by decide +kernel
theorem dX12_tag_64 : decode cX12_tag 64 = .ok (.aload_n 0, 1) := by decide +kernel
theorem dX12_tag_65 : decode cX12_tag 65 = .ok (.aload_n 0, 1) := by decide +kernel
theorem dX12_tag_66 : decode cX12_tag 66 = .ok (.getfield 113, 3) := by decide +kernel
theorem dX12_tag_69 : decode cX12_tag 69 = .ok (.aload_n 0, 1) := by decide +kernel
theorem dX12_tag_70 : decode cX12_tag 70 = .ok (.getfield 98, 3) := by decide +kernel
theorem dX12_tag_73 : decode cX12_tag 73 = .ok (.bipush 74, 2) := by decide +kernel
theorem dX12_tag_75 : decode cX12_tag 75 = .ok (.iload_n 1, 1) := by decide +kernel
theorem dX12_tag_76 : decode cX12_tag 76 = .ok (.iadd, 1) := by decide +kernel
theorem dX12_tag_77 : decode cX12_tag 77 = .ok (.iaload, 1) := by decide +kernel
theorem dX12_tag_78 : decode cX12_tag 78 = .ok (.laload, 1) := by decide +kernel
theorem dX12_tag_79 : decode cX12_tag 79 = .ok (.invokevirtual 373, 3) := by decide +kernel
theorem dX12_tag_82 : decode cX12_tag 82 = .ok (.aload_n 0, 1) := by decide +kernel
theorem dX12_tag_83 : decode cX12_tag 83 = .ok (.iload_n 1, 1) := by decide +kernel
theorem dX12_tag_84 : decode cX12_tag 84 = .ok (.invokevirtual 240, 3) := by decide +kernel
theorem dX12_tag_87 : decode cX12_tag 87 = .ok (.ifCond .eq 37, 3) := by decide +kernel
theorem dX12_tag_90 : decode cX12_tag 90 = .ok (.aload_n 0, 1) := by decide +kernel
theorem dX12_tag_91 : decode cX12_tag 91 = .ok (.bipush 105, 2) := by decide +kernel
theorem dX12_tag_93 : decode cX12_tag 93 = .ok (.bipush 110, 2) := by decide +kernel
theorem dX12_tag_95 : decode cX12_tag 95 = .ok (.iconst 0, 1) := by decide +kernel
theorem dX12_tag_96 : decode cX12_tag 96 = .ok (.iconst 0, 1) := by decide +kernel
theorem dX12_tag_97 : decode cX12_tag 97 = .ok (.iconst 0, 1) := by decide +kernel
theorem dX12_tag_98 : decode cX12_tag 98 = .ok (.iconst 0, 1) := by decide +kernel
theorem dX12_tag_99 : decode cX12_tag 99 = .ok (.invokestatic 58, 3) := by decide +kernel
theorem dX12_tag_102 : decode cX12_tag 102 = .ok (.invokevirtual 373, 3) := by decide +kernel
theorem dX12_tag_105 : decode cX12_tag 105 = .ok (.aload_n 0, 1) := by decide +kernel
theorem dX12_tag_106 : decode cX12_tag 106 = .ok (.bipush 32, 2) := by decide +kernel
theorem dX12_tag_108 : decode cX12_tag 108 = .ok (.invokevirtual 367, 3) := by decide +kernel
theorem dX12_tag_111 : decode cX12_tag 111 = .ok (.aload_n 0, 1) := by decide +kernel
theorem dX12_tag_112 : decode cX12_tag 112 = .ok (.aload_n 0, 1) := by decide +kernel
theorem dX12_tag_113 : decode cX12_tag 113 = .ok (.getfield 98, 3) := by decide +kernel
theorem dX12_tag_116 : decode cX12_tag 116 = .ok (.bipush 84, 2) := by decide +kernel
theorem dX12_tag_118 : decode cX12_tag 118 = .ok (.iload_n 1, 1) := by decide +kernel
theorem dX12_tag_119 : decode cX12_tag 119 = .ok (.iadd, 1) := by decide +kernel
theorem dX12_tag_120 : decode cX12_tag 120 = .ok (.iaload, 1) := by decide +kernel
theorem dX12_tag_121 : decode cX12_tag 121 = .ok (.invokevirtual 370, 3) := by decide +kernel
theorem dX12_tag_124 : decode cX12_tag 124 = .ok (.aload_n 0, 1) := by decide +kernel
theorem dX12_tag_125 : decode cX12_tag 125 = .ok (.iload_n 1, 1) := by decide +kernel
theorem dX12_tag_126 : decode cX12_tag 126 = .ok (.invokevirtual 277, 3) := by decide +kernel
theorem dX12_tag_129 : decode cX12_tag 129 = .ok (.ifCond .eq 12, 3) := by decide +kernel
theorem dX12_tag_132 : decode cX12_tag 132 = .ok (.aload_n 0, 1) := by decide +kernel
theorem dX12_tag_133 : decode cX12_tag 133 = .ok (.bipush 22, 2) := by decide +kernel
theorem dX12_tag_135 : decode cX12_tag 135 = .ok (.invokestatic 62, 3) := by decide +kernel
theorem dX12_tag_138 : decode cX12_tag 138 = .ok (.invokevirtual 373, 3) := by decide +kernel
theorem dX12_tag_141 : decode cX12_tag 141 = .ok (.aload_n 0, 1) := by decide +kernel
theorem dX12_tag_142 : decode cX12_tag 142 = .ok (.getfield 360, 3) := by decide +kernel
theorem dX12_tag_145 : decode cX12_tag 145 = .ok (.ireturn, 1) := by decide +kernel
def f_X12_tag_124 (w0 : XM) (l1 : Int32) : Option (Int32 × XM) :=
  x_bo (f_X12_isLost w0 l1) (fun y1 =>
  if y1.1 = (0 : Int32) then
  (some (y1.2.1 0 36, y1.2))
  else (x_lt (f_X12_wordOf (22 : Int32)) (fun y2 =>
  x_bo (f_X12_writeNext y1.2 y2) (fun y3 =>
  some (y3.1 0 36, y3)))))
def f_X12_tag_61 (w0 : XM) (l1 : Int32) (s1 : Int64) : Option (Int32 × XM) :=
  x_bo (f_X12_writeNext w0 s1) (fun y4 =>
  x_ck ((74 : Int32) + l1) 353 (
  x_ck (x_ga y4 2 ((74 : Int32) + l1)) 19 (
  x_bo (f_X12_writeNext y4 (x_gl y4 7 (x_ga y4 2 ((74 : Int32) + l1)))) (fun y5 =>
  x_bo (f_X12_isGoing y5 l1) (fun y6 =>
  if y6 = (0 : Int32) then
  (f_X12_tag_124   y5 l1)
  else (x_lt (f_X12_spelt (105 : Int32) (110 : Int32) (0 : Int32) (0 : Int32) (0 : Int32) (0 : Int32)) (fun y7 =>
  x_bo (f_X12_writeNext y5 y7) (fun y8 =>
  x_bo (f_X12_write y8 (32 : Int32)) (fun y9 =>
  x_ck ((84 : Int32) + l1) 353 (
  x_bo (F_X12_writeNumber y9 (x_ga y9 2 ((84 : Int32) + l1))) (fun y10 =>
  f_X12_tag_124   y10 l1)))))))))))
def f_X12_tag (v0 : XM) (x0 : Int32) : Option (Int32 × XM) :=
  x_lt (x_si v0 0 0 (0 : Int32)) (fun m11 =>
  x_lt (f_X12_isWalker m11 x0) (fun y12 =>
  if y12 = (0 : Int32) then
  (some ((-1 : Int32), m11))
  else (x_lt (x_si m11 0 36 (0 : Int32)) (fun m13 =>
  x_ck ((14 : Int32) + x0) 19 (
  x_bo (F_X12_writeWord m13 (x_gl m13 7 ((14 : Int32) + x0))) (fun y14 =>
  x_bo (f_X12_isGoing y14 x0) (fun y15 =>
  if y15 = (0 : Int32) then
  (x_lt (f_X12_wordOf (23 : Int32)) (fun y16 =>
  f_X12_tag_61   y14 x0 y16))
  else (x_lt (f_X12_spelt (116 : Int32) (111 : Int32) (0 : Int32) (0 : Int32) (0 : Int32) (0 : Int32)) (fun y17 =>
  f_X12_tag_61   y14 x0 y17)))))))))
set_option maxRecDepth 100000 in
set_option maxHeartbeats 4000000 in
theorem w_X12_tag_124 {p : Program} {l : Launch} {e : Env} {s : State} {m : MethodId} {args : Array Value} {below : List Frame} {meth : Method} {c : Code} {D : va_G} {tc : Nat → ClassId} {aK aV : Nat → Nat} {A : Nat → Prop} {ad0 : Nat → Nat}  (X : Cx p s m args meth c cX12_tag 2 (some .int) RX12 D tc aK aV A [(shModel, ad0)])  {o : Int32 × XM}  {w0 : XM} {l1 : Int32}  (h : f_X12_tag_124   w0 l1 = some o) : aW p l e (x_Rm 43) s m args below meth c D tc A 2 [(shModel, ad0)] (some (.int o.1)) True [o.2] 124 [(0, .ref (ad0 0)), (1, .int l1)] [] [w0] := by
  unfold f_X12_tag_124 at h
  refine a_aload_n (pc := 124) X 0 dX12_tag_124 rfl rfl ?_
  refine a_iload_n (pc := 125) X 1 dX12_tag_125 rfl rfl ?_
  obtain ⟨y1, e_y1, h⟩ := x_bo_elim h
  refine a_callV (pc := 126) (st2 := [.int y1.1]) (vs2 := [y1.2]) X [(0, 0, 20)] [some y1.2] 0 0 12 [.int l1] [] cv_RX12_277 (c_X12_isLost (ad0 := ad0)  e_y1) rfl rfl rfl rfl rfl rfl rfl rfl rfl rfl rfl rfl rfl rfl rfl (Nat.le_of_ble_eq_true rfl) ⟨Nat.le_of_ble_eq_true rfl, Nat.le_of_ble_eq_true rfl⟩ dX12_tag_126 (fun z_126 => ?_)
  refine a_if_eq (pc := 129) X 141 dX12_tag_129 rfl (fun c_129 => ?_) (fun c_129 => ?_)
  · have h := x_ifp c_129 h
    refine a_aload_n (pc := 141) X 0 dX12_tag_141 rfl rfl ?_
    refine a_getI (pc := 142) X 0 fl_RX12_360 rfl rfl rfl rfl dX12_tag_142 ?_
    have h := Option.some.inj h; subst h
    exact a_iret (pc := 145) X trivial dX12_tag_145
  · have h := x_ifn c_129 h
    refine a_aload_n (pc := 132) X 0 dX12_tag_132 rfl rfl ?_
    refine a_bipush (pc := 133) X dX12_tag_133 q_bp_22 ?_
    obtain ⟨y2, e_y2, h⟩ := x_lt_elim h
    refine a_callS (pc := 135) (st2 := [.long y2, .ref (ad0 0)]) (vs2 := [y1.2]) X [] [] [.int (22 : Int32)] [.ref (ad0 0)] cv_RX12_62 (c_X12_wordOf   e_y2) rfl rfl rfl rfl rfl rfl rfl rfl rfl rfl rfl (Nat.le_of_ble_eq_true rfl) ⟨Nat.le_of_ble_eq_true rfl, Nat.le_of_ble_eq_true rfl⟩ dX12_tag_135 (fun _ => ?_)
    obtain ⟨y3, e_y3, h⟩ := x_bo_elim h
    refine a_callV (pc := 138) (st2 := []) (vs2 := [y3]) X [(0, 0, 20)] [some y3] 0 0 12 [.long y2] [] cv_RX12_373 (c_X12_writeNext (ad0 := ad0)  e_y3) rfl rfl rfl rfl rfl rfl rfl rfl rfl rfl rfl rfl rfl rfl rfl (Nat.le_of_ble_eq_true rfl) ⟨Nat.le_of_ble_eq_true rfl, Nat.le_of_ble_eq_true rfl⟩ dX12_tag_138 (fun _ => ?_)
    refine a_aload_n (pc := 141) X 0 dX12_tag_141 rfl rfl ?_
    refine a_getI (pc := 142) X 0 fl_RX12_360 rfl rfl rfl rfl dX12_tag_142 ?_
    have h := Option.some.inj h; subst h
    exact a_iret (pc := 145) X trivial dX12_tag_145
set_option maxRecDepth 100000 in
set_option maxHeartbeats 4000000 in
theorem w_X12_tag_61 {p : Program} {l : Launch} {e : Env} {s : State} {m : MethodId} {args : Array Value} {below : List Frame} {meth : Method} {c : Code} {D : va_G} {tc : Nat → ClassId} {aK aV : Nat → Nat} {A : Nat → Prop} {ad0 : Nat → Nat}  (X : Cx p s m args meth c cX12_tag 2 (some .int) RX12 D tc aK aV A [(shModel, ad0)])  {o : Int32 × XM}  {w0 : XM} {l1 : Int32} {s1 : Int64}  (h : f_X12_tag_61   w0 l1 s1 = some o) : aW p l e (x_Rm 43) s m args below meth c D tc A 2 [(shModel, ad0)] (some (.int o.1)) True [o.2] 61 [(0, .ref (ad0 0)), (1, .int l1)] [.long s1, .ref (ad0 0)] [w0] := by
  unfold f_X12_tag_61 at h
  obtain ⟨y4, e_y4, h⟩ := x_bo_elim h
  refine a_callV (pc := 61) (st2 := []) (vs2 := [y4]) X [(0, 0, 20)] [some y4] 0 0 12 [.long s1] [] cv_RX12_373 (c_X12_writeNext (ad0 := ad0)  e_y4) rfl rfl rfl rfl rfl rfl rfl rfl rfl rfl rfl rfl rfl rfl rfl (Nat.le_of_ble_eq_true rfl) ⟨Nat.le_of_ble_eq_true rfl, Nat.le_of_ble_eq_true rfl⟩ dX12_tag_61 (fun _ => ?_)
  refine a_aload_n (pc := 64) X 0 dX12_tag_64 rfl rfl ?_
  refine a_aload_n (pc := 65) X 0 dX12_tag_65 rfl rfl ?_
  refine a_getR (pc := 66) X 0 7 7 fl_RX12_113 rfl rfl rfl rfl rfl dX12_tag_66 ?_
  refine a_aload_n (pc := 69) X 0 dX12_tag_69 rfl rfl ?_
  refine a_getR (pc := 70) X 0 2 2 fl_RX12_98 rfl rfl rfl rfl rfl dX12_tag_70 ?_
  refine a_bipush (pc := 73) X dX12_tag_73 q_bp_74 ?_
  refine a_iload_n (pc := 75) X 1 dX12_tag_75 rfl rfl ?_
  refine a_iadd (pc := 76) X dX12_tag_76 ?_
  obtain ⟨c_77, h⟩ := x_ck_elim h
  refine a_iald (pc := 77) X 0 rfl rfl rfl c_77 dX12_tag_77 ?_
  obtain ⟨c_78, h⟩ := x_ck_elim h
  refine a_lald (pc := 78) X 0 rfl rfl rfl c_78 dX12_tag_78 ?_
  obtain ⟨y5, e_y5, h⟩ := x_bo_elim h
  refine a_callV (pc := 79) (st2 := []) (vs2 := [y5]) X [(0, 0, 20)] [some y5] 0 0 12 [.long (x_gl y4 7 (x_ga y4 2 ((74 : Int32) + l1)))] [] cv_RX12_373 (c_X12_writeNext (ad0 := ad0)  e_y5) rfl rfl rfl rfl rfl rfl rfl rfl rfl rfl rfl rfl rfl rfl rfl (Nat.le_of_ble_eq_true rfl) ⟨Nat.le_of_ble_eq_true rfl, Nat.le_of_ble_eq_true rfl⟩ dX12_tag_79 (fun _ => ?_)
  refine a_aload_n (pc := 82) X 0 dX12_tag_82 rfl rfl ?_
  refine a_iload_n (pc := 83) X 1 dX12_tag_83 rfl rfl ?_
  obtain ⟨y6, e_y6, h⟩ := x_bo_elim h
  refine a_callV (pc := 84) (st2 := [.int y6]) (vs2 := [y5]) X [(0, 0, 20)] [none] 0 0 12 [.int l1] [] cv_RX12_240 (c_X12_isGoing (ad0 := ad0)  e_y6) rfl rfl rfl rfl rfl rfl rfl rfl rfl rfl rfl rfl rfl rfl rfl (Nat.le_of_ble_eq_true rfl) ⟨Nat.le_of_ble_eq_true rfl, Nat.le_of_ble_eq_true rfl⟩ dX12_tag_84 (fun z_84 => ?_)
  refine a_if_eq (pc := 87) X 124 dX12_tag_87 rfl (fun c_87 => ?_) (fun c_87 => ?_)
  · have h := x_ifp c_87 h
    exact w_X12_tag_124 X     h
  · have h := x_ifn c_87 h
    refine a_aload_n (pc := 90) X 0 dX12_tag_90 rfl rfl ?_
    refine a_bipush (pc := 91) X dX12_tag_91 q_bp_105 ?_
    refine a_bipush (pc := 93) X dX12_tag_93 q_bp_110 ?_
    refine a_iconst (pc := 95) X dX12_tag_95 q_ic_0 ?_
    refine a_iconst (pc := 96) X dX12_tag_96 q_ic_0 ?_
    refine a_iconst (pc := 97) X dX12_tag_97 q_ic_0 ?_
    refine a_iconst (pc := 98) X dX12_tag_98 q_ic_0 ?_
    obtain ⟨y7, e_y7, h⟩ := x_lt_elim h
    refine a_callS (pc := 99) (st2 := [.long y7, .ref (ad0 0)]) (vs2 := [y5]) X [] [] [.int (105 : Int32), .int (110 : Int32), .int (0 : Int32), .int (0 : Int32), .int (0 : Int32), .int (0 : Int32)] [.ref (ad0 0)] cv_RX12_58 (c_X12_spelt   e_y7) rfl rfl rfl rfl rfl rfl rfl rfl rfl rfl rfl (Nat.le_of_ble_eq_true rfl) ⟨Nat.le_of_ble_eq_true rfl, Nat.le_of_ble_eq_true rfl⟩ dX12_tag_99 (fun _ => ?_)
    obtain ⟨y8, e_y8, h⟩ := x_bo_elim h
    refine a_callV (pc := 102) (st2 := []) (vs2 := [y8]) X [(0, 0, 20)] [some y8] 0 0 12 [.long y7] [] cv_RX12_373 (c_X12_writeNext (ad0 := ad0)  e_y8) rfl rfl rfl rfl rfl rfl rfl rfl rfl rfl rfl rfl rfl rfl rfl (Nat.le_of_ble_eq_true rfl) ⟨Nat.le_of_ble_eq_true rfl, Nat.le_of_ble_eq_true rfl⟩ dX12_tag_102 (fun _ => ?_)
    refine a_aload_n (pc := 105) X 0 dX12_tag_105 rfl rfl ?_
    refine a_bipush (pc := 106) X dX12_tag_106 q_bp_32 ?_
    obtain ⟨y9, e_y9, h⟩ := x_bo_elim h
    refine a_callV (pc := 108) (st2 := []) (vs2 := [y9]) X [(0, 0, 20)] [some y9] 0 0 12 [.int (32 : Int32)] [] cv_RX12_367 (c_X12_write (ad0 := ad0)  e_y9) rfl rfl rfl rfl rfl rfl rfl rfl rfl rfl rfl rfl rfl rfl rfl (Nat.le_of_ble_eq_true rfl) ⟨Nat.le_of_ble_eq_true rfl, Nat.le_of_ble_eq_true rfl⟩ dX12_tag_108 (fun _ => ?_)
    refine a_aload_n (pc := 111) X 0 dX12_tag_111 rfl rfl ?_
    refine a_aload_n (pc := 112) X 0 dX12_tag_112 rfl rfl ?_
    refine a_getR (pc := 113) X 0 2 2 fl_RX12_98 rfl rfl rfl rfl rfl dX12_tag_113 ?_
    refine a_bipush (pc := 116) X dX12_tag_116 q_bp_84 ?_
    refine a_iload_n (pc := 118) X 1 dX12_tag_118 rfl rfl ?_
    refine a_iadd (pc := 119) X dX12_tag_119 ?_
    obtain ⟨c_120, h⟩ := x_ck_elim h
    refine a_iald (pc := 120) X 0 rfl rfl rfl c_120 dX12_tag_120 ?_
    obtain ⟨y10, e_y10, h⟩ := x_bo_elim h
    refine a_callV (pc := 121) (st2 := []) (vs2 := [y10]) X [(0, 0, 20)] [some y10] 0 0 12 [.int (x_ga y9 2 ((84 : Int32) + l1))] [] cv_RX12_370 (c_X12_writeNumber (ad0 := ad0)  e_y10) rfl rfl rfl rfl rfl rfl rfl rfl rfl rfl rfl rfl rfl rfl rfl (Nat.le_of_ble_eq_true rfl) ⟨Nat.le_of_ble_eq_true rfl, Nat.le_of_ble_eq_true rfl⟩ dX12_tag_121 (fun _ => ?_)
    exact w_X12_tag_124 X     h
set_option maxRecDepth 100000 in
set_option maxHeartbeats 4000000 in
theorem c_X12_tag {l : Launch}  {ad0 : Nat → Nat} {v0 : XM} {x0 : Int32}  {o : Int32 × XM} (h : f_X12_tag v0 x0 = some o) : CT l yX12_tag cX12_tag 2 (some .int) 43 [(shModel, ad0)] [v0] (fun aK => [.ref (ad0 0), .int x0]) (some (.int o.1)) True [o.2] := by
  refine CT_of (by decide) (fun _ => Nat.le_of_ble_eq_true rfl) ?_
  intro p e s m args below meth c D tc aK aV A X
  have X : Cx p s m args meth c cX12_tag 2 (some .int) RX12 D tc aK aV A [(shModel, ad0)] := X
  show aW p l e (x_Rm 43) s m args below meth c D tc A 2 [(shModel, ad0)] (some (.int o.1)) True [o.2] 0 [(0, .ref (ad0 0)), (1, .int x0)] [] [v0]
  unfold f_X12_tag at h
  refine a_aload_n (pc := 0) X 0 dX12_tag_0 rfl rfl ?_
  refine a_iconst (pc := 1) X dX12_tag_1 q_ic_0 ?_
  refine a_putI (pc := 2) X 0 fl_RX12_1 rfl rfl rfl rfl dX12_tag_2 ?_
  obtain ⟨m11, e_m11, h⟩ := x_lt_elim h
  refine a_nm (vs2 := [m11]) (congrArg (fun q : XM => [q]) e_m11) ?_
  refine a_aload_n (pc := 5) X 0 dX12_tag_5 rfl rfl ?_
  refine a_iload_n (pc := 6) X 1 dX12_tag_6 rfl rfl ?_
  obtain ⟨y12, e_y12, h⟩ := x_lt_elim h
  refine a_callV (pc := 7) (st2 := [.int y12]) (vs2 := [m11]) X [(0, 0, 20)] [none] 0 0 12 [.int x0] [] cv_RX12_237 (c_X12_isWalker (ad0 := ad0)  e_y12) rfl rfl rfl rfl rfl rfl rfl rfl rfl rfl rfl rfl rfl rfl rfl (Nat.le_of_ble_eq_true rfl) ⟨Nat.le_of_ble_eq_true rfl, Nat.le_of_ble_eq_true rfl⟩ dX12_tag_7 (fun z_7 => ?_)
  refine a_if_ne (pc := 10) X 15 dX12_tag_10 rfl (fun c_10 => ?_) (fun c_10 => ?_)
  · have h := x_ifn c_10 h
    refine a_aload_n (pc := 15) X 0 dX12_tag_15 rfl rfl ?_
    refine a_iconst (pc := 16) X dX12_tag_16 q_ic_0 ?_
    refine a_putI (pc := 17) X 0 fl_RX12_360 rfl rfl rfl rfl dX12_tag_17 ?_
    obtain ⟨m13, e_m13, h⟩ := x_lt_elim h
    refine a_nm (vs2 := [m13]) (congrArg (fun q : XM => [q]) e_m13) ?_
    refine a_aload_n (pc := 20) X 0 dX12_tag_20 rfl rfl ?_
    refine a_aload_n (pc := 21) X 0 dX12_tag_21 rfl rfl ?_
    refine a_getR (pc := 22) X 0 7 7 fl_RX12_113 rfl rfl rfl rfl rfl dX12_tag_22 ?_
    refine a_bipush (pc := 25) X dX12_tag_25 q_bp_14 ?_
    refine a_iload_n (pc := 27) X 1 dX12_tag_27 rfl rfl ?_
    refine a_iadd (pc := 28) X dX12_tag_28 ?_
    obtain ⟨c_29, h⟩ := x_ck_elim h
    refine a_lald (pc := 29) X 0 rfl rfl rfl c_29 dX12_tag_29 ?_
    obtain ⟨y14, e_y14, h⟩ := x_bo_elim h
    refine a_callV (pc := 30) (st2 := []) (vs2 := [y14]) X [(0, 0, 20)] [some y14] 0 0 12 [.long (x_gl m13 7 ((14 : Int32) + x0))] [] cv_RX12_363 (c_X12_writeWord (ad0 := ad0)  e_y14) rfl rfl rfl rfl rfl rfl rfl rfl rfl rfl rfl rfl rfl rfl rfl (Nat.le_of_ble_eq_true rfl) ⟨Nat.le_of_ble_eq_true rfl, Nat.le_of_ble_eq_true rfl⟩ dX12_tag_30 (fun _ => ?_)
    refine a_aload_n (pc := 33) X 0 dX12_tag_33 rfl rfl ?_
    refine a_aload_n (pc := 34) X 0 dX12_tag_34 rfl rfl ?_
    refine a_iload_n (pc := 35) X 1 dX12_tag_35 rfl rfl ?_
    obtain ⟨y15, e_y15, h⟩ := x_bo_elim h
    refine a_callV (pc := 36) (st2 := [.int y15, .ref (ad0 0)]) (vs2 := [y14]) X [(0, 0, 20)] [none] 0 0 12 [.int x0] [.ref (ad0 0)] cv_RX12_240 (c_X12_isGoing (ad0 := ad0)  e_y15) rfl rfl rfl rfl rfl rfl rfl rfl rfl rfl rfl rfl rfl rfl rfl (Nat.le_of_ble_eq_true rfl) ⟨Nat.le_of_ble_eq_true rfl, Nat.le_of_ble_eq_true rfl⟩ dX12_tag_36 (fun z_36 => ?_)
    refine a_if_eq (pc := 39) X 56 dX12_tag_39 rfl (fun c_39 => ?_) (fun c_39 => ?_)
    · have h := x_ifp c_39 h
      refine a_bipush (pc := 56) X dX12_tag_56 q_bp_23 ?_
      obtain ⟨y16, e_y16, h⟩ := x_lt_elim h
      refine a_callS (pc := 58) (st2 := [.long y16, .ref (ad0 0)]) (vs2 := [y14]) X [] [] [.int (23 : Int32)] [.ref (ad0 0)] cv_RX12_62 (c_X12_wordOf   e_y16) rfl rfl rfl rfl rfl rfl rfl rfl rfl rfl rfl (Nat.le_of_ble_eq_true rfl) ⟨Nat.le_of_ble_eq_true rfl, Nat.le_of_ble_eq_true rfl⟩ dX12_tag_58 (fun _ => ?_)
      exact w_X12_tag_61 X     h
    · have h := x_ifn c_39 h
      refine a_bipush (pc := 42) X dX12_tag_42 q_bp_116 ?_
      refine a_bipush (pc := 44) X dX12_tag_44 q_bp_111 ?_
      refine a_iconst (pc := 46) X dX12_tag_46 q_ic_0 ?_
      refine a_iconst (pc := 47) X dX12_tag_47 q_ic_0 ?_
      refine a_iconst (pc := 48) X dX12_tag_48 q_ic_0 ?_
      refine a_iconst (pc := 49) X dX12_tag_49 q_ic_0 ?_
      obtain ⟨y17, e_y17, h⟩ := x_lt_elim h
      refine a_callS (pc := 50) (st2 := [.long y17, .ref (ad0 0)]) (vs2 := [y14]) X [] [] [.int (116 : Int32), .int (111 : Int32), .int (0 : Int32), .int (0 : Int32), .int (0 : Int32), .int (0 : Int32)] [.ref (ad0 0)] cv_RX12_58 (c_X12_spelt   e_y17) rfl rfl rfl rfl rfl rfl rfl rfl rfl rfl rfl (Nat.le_of_ble_eq_true rfl) ⟨Nat.le_of_ble_eq_true rfl, Nat.le_of_ble_eq_true rfl⟩ dX12_tag_50 (fun _ => ?_)
      refine a_goto (pc := 53) X 61 dX12_tag_53 rfl ?_
      exact w_X12_tag_61 X     h
  · have h := x_ifp c_10 h
    refine a_iconst (pc := 13) X dX12_tag_13 q_ic_m1 ?_
    have h := Option.some.inj h; subst h
    exact a_iret (pc := 14) X trivial dX12_tag_14
theorem dX12_byteAt_0 : decode cX12_byteAt 0 = .ok (.aload_n 0, 1) := by decide +kernel
theorem dX12_byteAt_1 : decode cX12_byteAt 1 = .ok (.iconst 0, 1) := by decide +kernel
theorem dX12_byteAt_2 : decode cX12_byteAt 2 = .ok (.putfield 1, 3) := by decide +kernel
theorem dX12_byteAt_5 : decode cX12_byteAt 5 = .ok (.iload_n 1, 1) := by decide +kernel
theorem dX12_byteAt_6 : decode cX12_byteAt 6 = .ok (.iconst 0, 1) := by decide +kernel
theorem dX12_byteAt_7 : decode cX12_byteAt 7 = .ok (.aload_n 0, 1) := by decide +kernel
theorem dX12_byteAt_8 : decode cX12_byteAt 8 = .ok (.getfield 360, 3) := by decide +kernel
theorem dX12_byteAt_11 : decode cX12_byteAt 11 = .ok (.iconst 1, 1) := by decide +kernel
theorem dX12_byteAt_12 : decode cX12_byteAt 12 = .ok (.isub, 1) := by decide +kernel
theorem dX12_byteAt_13 : decode cX12_byteAt 13 = .ok (.invokestatic 75, 3) := by decide +kernel
theorem dX12_byteAt_16 : decode cX12_byteAt 16 = .ok (.ifCond .eq 12, 3) := by decide +kernel
theorem dX12_byteAt_19 : decode cX12_byteAt 19 = .ok (.aload_n 0, 1) := by decide +kernel
theorem dX12_byteAt_20 : decode cX12_byteAt 20 = .ok (.getfield 151, 3) := by decide +kernel
theorem dX12_byteAt_23 : decode cX12_byteAt 23 = .ok (.iload_n 1, 1) := by decide +kernel
theorem dX12_byteAt_24 : decode cX12_byteAt 24 = .ok (.iaload, 1) := by decide +kernel
theorem dX12_byteAt_25 : decode cX12_byteAt 25 = .ok (.goto 4, 3) := by decide +kernel
theorem dX12_byteAt_28 : decode cX12_byteAt 28 = .ok (.iconst (-1), 1) := by decide +kernel
theorem dX12_byteAt_29 : decode cX12_byteAt 29 = .ok (.ireturn, 1) := by decide +kernel
def f_X12_byteAt (v0 : XM) (x0 : Int32) : Option (Int32 × XM) :=
  x_lt (x_si v0 0 0 (0 : Int32)) (fun m1 =>
  x_lt (f_X12_isIn x0 (0 : Int32) ((m1.1 0 36) - (1 : Int32))) (fun y2 =>
  if y2 = (0 : Int32) then
  (some ((-1 : Int32), m1))
  else (x_ck x0 64 (
  some (x_ga m1 16 x0, m1)))))
set_option maxRecDepth 100000 in
set_option maxHeartbeats 4000000 in
theorem c_X12_byteAt {l : Launch}  {ad0 : Nat → Nat} {v0 : XM} {x0 : Int32}  {o : Int32 × XM} (h : f_X12_byteAt v0 x0 = some o) : CT l yX12_byteAt cX12_byteAt 2 (some .int) 1 [(shModel, ad0)] [v0] (fun aK => [.ref (ad0 0), .int x0]) (some (.int o.1)) True [o.2] := by
  refine CT_of (by decide) (fun _ => Nat.le_of_ble_eq_true rfl) ?_
  intro p e s m args below meth c D tc aK aV A X
  have X : Cx p s m args meth c cX12_byteAt 2 (some .int) RX12 D tc aK aV A [(shModel, ad0)] := X
  show aW p l e (x_Rm 1) s m args below meth c D tc A 2 [(shModel, ad0)] (some (.int o.1)) True [o.2] 0 [(0, .ref (ad0 0)), (1, .int x0)] [] [v0]
  unfold f_X12_byteAt at h
  refine a_aload_n (pc := 0) X 0 dX12_byteAt_0 rfl rfl ?_
  refine a_iconst (pc := 1) X dX12_byteAt_1 q_ic_0 ?_
  refine a_putI (pc := 2) X 0 fl_RX12_1 rfl rfl rfl rfl dX12_byteAt_2 ?_
  obtain ⟨m1, e_m1, h⟩ := x_lt_elim h
  refine a_nm (vs2 := [m1]) (congrArg (fun q : XM => [q]) e_m1) ?_
  refine a_iload_n (pc := 5) X 1 dX12_byteAt_5 rfl rfl ?_
  refine a_iconst (pc := 6) X dX12_byteAt_6 q_ic_0 ?_
  refine a_aload_n (pc := 7) X 0 dX12_byteAt_7 rfl rfl ?_
  refine a_getI (pc := 8) X 0 fl_RX12_360 rfl rfl rfl rfl dX12_byteAt_8 ?_
  refine a_iconst (pc := 11) X dX12_byteAt_11 q_ic_1 ?_
  refine a_isub (pc := 12) X dX12_byteAt_12 ?_
  obtain ⟨y2, e_y2, h⟩ := x_lt_elim h
  refine a_callS (pc := 13) (st2 := [.int y2]) (vs2 := [m1]) X [] [] [.int x0, .int (0 : Int32), .int ((m1.1 0 36) - (1 : Int32))] [] cv_RX12_75 (c_X12_isIn   e_y2) rfl rfl rfl rfl rfl rfl rfl rfl rfl rfl rfl (Nat.le_of_ble_eq_true rfl) ⟨Nat.le_of_ble_eq_true rfl, Nat.le_of_ble_eq_true rfl⟩ dX12_byteAt_13 (fun z_13 => ?_)
  refine a_if_eq (pc := 16) X 28 dX12_byteAt_16 rfl (fun c_16 => ?_) (fun c_16 => ?_)
  · have h := x_ifp c_16 h
    refine a_iconst (pc := 28) X dX12_byteAt_28 q_ic_m1 ?_
    have h := Option.some.inj h; subst h
    exact a_iret (pc := 29) X trivial dX12_byteAt_29
  · have h := x_ifn c_16 h
    refine a_aload_n (pc := 19) X 0 dX12_byteAt_19 rfl rfl ?_
    refine a_getR (pc := 20) X 0 16 16 fl_RX12_151 rfl rfl rfl rfl rfl dX12_byteAt_20 ?_
    refine a_iload_n (pc := 23) X 1 dX12_byteAt_23 rfl rfl ?_
    obtain ⟨c_24, h⟩ := x_ck_elim h
    refine a_iald (pc := 24) X 0 rfl rfl rfl c_24 dX12_byteAt_24 ?_
    refine a_goto (pc := 25) X 29 dX12_byteAt_25 rfl ?_
    have h := Option.some.inj h; subst h
    exact a_iret (pc := 29) X trivial dX12_byteAt_29
theorem dX12_draw_0 : decode cX12_draw 0 = .ok (.aload_n 0, 1) := by decide +kernel
theorem dX12_draw_1 : decode cX12_draw 1 = .ok (.aload_n 0, 1) := by decide +kernel
theorem dX12_draw_2 : decode cX12_draw 2 = .ok (.getfield 376, 3) := by decide +kernel
theorem dX12_draw_5 : decode cX12_draw 5 = .ok (.ldc_w 379, 3) := by decide +kernel
theorem dX12_draw_8 : decode cX12_draw 8 = .ok (.imul, 1) := by decide +kernel
theorem dX12_draw_9 : decode cX12_draw 9 = .ok (.sipush 12345, 3) := by decide +kernel
theorem dX12_draw_12 : decode cX12_draw 12 = .ok (.iadd, 1) := by decide +kernel
theorem dX12_draw_13 : decode cX12_draw 13 = .ok (.putfield 376, 3) := by decide +kernel
theorem dX12_draw_16 : decode cX12_draw 16 = .ok (.aload_n 0, 1) := by decide +kernel
theorem dX12_draw_17 : decode cX12_draw 17 = .ok (.getfield 376, 3) := by decide +kernel
theorem dX12_draw_20 : decode cX12_draw 20 = .ok (.bipush 8, 2) := by decide +kernel
theorem dX12_draw_22 : decode cX12_draw 22 = .ok (.iushr, 1) := by decide +kernel
theorem dX12_draw_23 : decode cX12_draw 23 = .ok (.iload_n 1, 1) := by decide +kernel
theorem dX12_draw_24 : decode cX12_draw 24 = .ok (.irem, 1) := by decide +kernel
theorem dX12_draw_25 : decode cX12_draw 25 = .ok (.ireturn, 1) := by decide +kernel
def f_X12_draw (v0 : XM) (x0 : Int32) : Option (Int32 × XM) :=
  x_lt (((v0.1 0 37) * (1103515245 : Int32)) + (12345 : Int32)) (fun y1 =>
  x_lt (x_si v0 0 37 y1) (fun m2 =>
  x_lt ((((m2.1 0 37) : Int32).toUInt32 >>> (((8 : Int32) : Int32).toUInt32 &&& Int32.toUInt32 31)).toInt32) (fun y3 =>
  x_nz x0 (
  some (y3 - y3 / x0 * x0, m2)))))
set_option maxRecDepth 100000 in
set_option maxHeartbeats 4000000 in
theorem c_X12_draw {l : Launch}  {ad0 : Nat → Nat} {v0 : XM} {x0 : Int32}  {o : Int32 × XM} (h : f_X12_draw v0 x0 = some o) : CT l yX12_draw cX12_draw 2 (some .int) 0 [(shModel, ad0)] [v0] (fun aK => [.ref (ad0 0), .int x0]) (some (.int o.1)) True [o.2] := by
  refine CT_of (by decide) (fun _ => Nat.le_of_ble_eq_true rfl) ?_
  intro p e s m args below meth c D tc aK aV A X
  have X : Cx p s m args meth c cX12_draw 2 (some .int) RX12 D tc aK aV A [(shModel, ad0)] := X
  show aW p l e (x_Rm 0) s m args below meth c D tc A 2 [(shModel, ad0)] (some (.int o.1)) True [o.2] 0 [(0, .ref (ad0 0)), (1, .int x0)] [] [v0]
  unfold f_X12_draw at h
  refine a_aload_n (pc := 0) X 0 dX12_draw_0 rfl rfl ?_
  refine a_aload_n (pc := 1) X 0 dX12_draw_1 rfl rfl ?_
  refine a_getI (pc := 2) X 0 fl_RX12_376 rfl rfl rfl rfl dX12_draw_2 ?_
  refine a_ldcw (pc := 5) X kc_RX12_379 dX12_draw_5 ?_
  refine a_imul (pc := 8) X dX12_draw_8 ?_
  refine a_sipush (pc := 9) X dX12_draw_9 q_sp_12345 ?_
  refine a_iadd (pc := 12) X dX12_draw_12 ?_
  obtain ⟨y1, e_y1, h⟩ := x_lt_elim h
  refine a_ni e_y1 ?_
  refine a_putI (pc := 13) X 0 fl_RX12_376 rfl rfl rfl rfl dX12_draw_13 ?_
  obtain ⟨m2, e_m2, h⟩ := x_lt_elim h
  refine a_nm (vs2 := [m2]) (congrArg (fun q : XM => [q]) e_m2) ?_
  refine a_aload_n (pc := 16) X 0 dX12_draw_16 rfl rfl ?_
  refine a_getI (pc := 17) X 0 fl_RX12_376 rfl rfl rfl rfl dX12_draw_17 ?_
  refine a_bipush (pc := 20) X dX12_draw_20 q_bp_8 ?_
  refine a_iushr (pc := 22) X dX12_draw_22 ?_
  obtain ⟨y3, e_y3, h⟩ := x_lt_elim h
  refine a_ni e_y3 ?_
  refine a_iload_n (pc := 23) X 1 dX12_draw_23 rfl rfl ?_
  obtain ⟨c_24, h⟩ := x_nz_elim h
  refine a_irem (pc := 24) X c_24 dX12_draw_24 ?_
  have h := Option.some.inj h; subst h
  exact a_iret (pc := 25) X trivial dX12_draw_25
theorem dX12_doIf_0 : decode cX12_doIf 0 = .ok (.aload_n 0, 1) := by decide +kernel
theorem dX12_doIf_1 : decode cX12_doIf 1 = .ok (.iload_n 1, 1) := by decide +kernel
theorem dX12_doIf_2 : decode cX12_doIf 2 = .ok (.iload_n 2, 1) := by decide +kernel
theorem dX12_doIf_3 : decode cX12_doIf 3 = .ok (.iload_n 3, 1) := by decide +kernel
theorem dX12_doIf_4 : decode cX12_doIf 4 = .ok (.invokevirtual 298, 3) := by decide +kernel
theorem dX12_doIf_7 : decode cX12_doIf 7 = .ok (.ifCond .ne 10, 3) := by decide +kernel
theorem dX12_doIf_10 : decode cX12_doIf 10 = .ok (.aload_n 0, 1) := by decide +kernel
theorem dX12_doIf_11 : decode cX12_doIf 11 = .ok (.iload_n 1, 1) := by decide +kernel
theorem dX12_doIf_12 : decode cX12_doIf 12 = .ok (.iload_n 2, 1) := by decide +kernel
theorem dX12_doIf_13 : decode cX12_doIf 13 = .ok (.iload_n 3, 1) := by decide +kernel
theorem dX12_doIf_14 : decode cX12_doIf 14 = .ok (.invokevirtual 304, 3) := by decide +kernel
theorem dX12_doIf_17 : decode cX12_doIf 17 = .ok (.return_, 1) := by decide +kernel
def f_X12_doIf (v0 : XM) (x0 : Int32) (x1 : Int32) (x2 : Int32) : Option (XM) :=
  x_bo (f_X12_why v0 x0 x1 x2) (fun y1 =>
  if y1 = (0 : Int32) then
  (x_bo (f_X12_live v0 x0 x1 x2) (fun y2 =>
  some y2))
  else (some v0))
set_option maxRecDepth 100000 in
set_option maxHeartbeats 4000000 in
theorem c_X12_doIf {l : Launch}  {ad0 : Nat → Nat} {v0 : XM} {x0 : Int32} {x1 : Int32} {x2 : Int32}  {o : XM} (h : f_X12_doIf v0 x0 x1 x2 = some o) : CT l yX12_doIf cX12_doIf 4 none 6 [(shModel, ad0)] [v0] (fun aK => [.ref (ad0 0), .int x0, .int x1, .int x2]) none True [o] := by
  refine CT_of (by decide) (fun _ => Nat.le_of_ble_eq_true rfl) ?_
  intro p e s m args below meth c D tc aK aV A X
  have X : Cx p s m args meth c cX12_doIf 4 none RX12 D tc aK aV A [(shModel, ad0)] := X
  show aW p l e (x_Rm 6) s m args below meth c D tc A 4 [(shModel, ad0)] none True [o] 0 [(0, .ref (ad0 0)), (1, .int x0), (2, .int x1), (3, .int x2)] [] [v0]
  unfold f_X12_doIf at h
  refine a_aload_n (pc := 0) X 0 dX12_doIf_0 rfl rfl ?_
  refine a_iload_n (pc := 1) X 1 dX12_doIf_1 rfl rfl ?_
  refine a_iload_n (pc := 2) X 2 dX12_doIf_2 rfl rfl ?_
  refine a_iload_n (pc := 3) X 3 dX12_doIf_3 rfl rfl ?_
  obtain ⟨y1, e_y1, h⟩ := x_bo_elim h
  refine a_callV (pc := 4) (st2 := [.int y1]) (vs2 := [v0]) X [(0, 0, 20)] [none] 0 0 12 [.int x0, .int x1, .int x2] [] cv_RX12_298 (c_X12_why (ad0 := ad0)  e_y1) rfl rfl rfl rfl rfl rfl rfl rfl rfl rfl rfl rfl rfl rfl rfl (Nat.le_of_ble_eq_true rfl) ⟨Nat.le_of_ble_eq_true rfl, Nat.le_of_ble_eq_true rfl⟩ dX12_doIf_4 (fun _ => ?_)
  refine a_if_ne (pc := 7) X 17 dX12_doIf_7 rfl (fun c_7 => ?_) (fun c_7 => ?_)
  · have h := x_ifn c_7 h
    have h := Option.some.inj h; subst h
    exact a_vret (pc := 17) X trivial dX12_doIf_17
  · have h := x_ifp c_7 h
    refine a_aload_n (pc := 10) X 0 dX12_doIf_10 rfl rfl ?_
    refine a_iload_n (pc := 11) X 1 dX12_doIf_11 rfl rfl ?_
    refine a_iload_n (pc := 12) X 2 dX12_doIf_12 rfl rfl ?_
    refine a_iload_n (pc := 13) X 3 dX12_doIf_13 rfl rfl ?_
    obtain ⟨y2, e_y2, h⟩ := x_bo_elim h
    refine a_callV (pc := 14) (st2 := []) (vs2 := [y2]) X [(0, 0, 20)] [some y2] 0 0 12 [.int x0, .int x1, .int x2] [] cv_RX12_304 (c_X12_live (ad0 := ad0)  e_y2) rfl rfl rfl rfl rfl rfl rfl rfl rfl rfl rfl rfl rfl rfl rfl (Nat.le_of_ble_eq_true rfl) ⟨Nat.le_of_ble_eq_true rfl, Nat.le_of_ble_eq_true rfl⟩ dX12_doIf_14 (fun _ => ?_)
    have h := Option.some.inj h; subst h
    exact a_vret (pc := 17) X trivial dX12_doIf_17
theorem dX12_drawsFor_0 : decode cX12_drawsFor 0 = .ok (.aload_n 0, 1) := by decide +kernel
theorem dX12_drawsFor_1 : decode cX12_drawsFor 1 = .ok (.iconst 4, 1) := by decide +kernel
theorem dX12_drawsFor_2 : decode cX12_drawsFor 2 = .ok (.invokevirtual 380, 3) := by decide +kernel
theorem dX12_drawsFor_5 : decode cX12_drawsFor 5 = .ok (.istore_n 2, 1) := by decide +kernel
theorem dX12_drawsFor_6 : decode cX12_drawsFor 6 = .ok (.iload_n 2, 1) := by decide +kernel
theorem dX12_drawsFor_7 : decode cX12_drawsFor 7 = .ok (.iconst 2, 1) := by decide +kernel
theorem dX12_drawsFor_8 : decode cX12_drawsFor 8 = .ok (.if_icmp .ge 28, 3) := by decide +kernel
theorem dX12_drawsFor_11 : decode cX12_drawsFor 11 = .ok (.aload_n 0, 1) := by decide +kernel
theorem dX12_drawsFor_12 : decode cX12_drawsFor 12 = .ok (.getfield 98, 3) := by decide +kernel
theorem dX12_drawsFor_15 : decode cX12_drawsFor 15 = .ok (.iconst 1, 1) := by decide +kernel
theorem dX12_drawsFor_16 : decode cX12_drawsFor 16 = .ok (.iaload, 1) := by decide +kernel
theorem dX12_drawsFor_17 : decode cX12_drawsFor 17 = .ok (.ifCond .le 19, 3) := by decide +kernel
theorem dX12_drawsFor_20 : decode cX12_drawsFor 20 = .ok (.aload_n 0, 1) := by decide +kernel
theorem dX12_drawsFor_21 : decode cX12_drawsFor 21 = .ok (.iconst 0, 1) := by decide +kernel
theorem dX12_drawsFor_22 : decode cX12_drawsFor 22 = .ok (.iload_n 1, 1) := by decide +kernel
theorem dX12_drawsFor_23 : decode cX12_drawsFor 23 = .ok (.aload_n 0, 1) := by decide +kernel
theorem dX12_drawsFor_24 : decode cX12_drawsFor 24 = .ok (.aload_n 0, 1) := by decide +kernel
theorem dX12_drawsFor_25 : decode cX12_drawsFor 25 = .ok (.getfield 98, 3) := by decide +kernel
theorem dX12_drawsFor_28 : decode cX12_drawsFor 28 = .ok (.iconst 1, 1) := by decide +kernel
theorem dX12_drawsFor_29 : decode cX12_drawsFor 29 = .ok (.iaload, 1) := by decide +kernel
theorem dX12_drawsFor_30 : decode cX12_drawsFor 30 = .ok (.invokevirtual 380, 3) := by decide +kernel
theorem dX12_drawsFor_33 : decode cX12_drawsFor 33 = .ok (.invokevirtual 383, 3) := by decide +kernel
theorem dX12_drawsFor_36 : decode cX12_drawsFor 36 = .ok (.iload_n 2, 1) := by decide +kernel
theorem dX12_drawsFor_37 : decode cX12_drawsFor 37 = .ok (.iconst 2, 1) := by decide +kernel
theorem dX12_drawsFor_38 : decode cX12_drawsFor 38 = .ok (.if_icmp .ne 28, 3) := by decide +kernel
theorem dX12_drawsFor_41 : decode cX12_drawsFor 41 = .ok (.aload_n 0, 1) := by decide +kernel
theorem dX12_drawsFor_42 : decode cX12_drawsFor 42 = .ok (.getfield 98, 3) := by decide +kernel
theorem dX12_drawsFor_45 : decode cX12_drawsFor 45 = .ok (.iconst 2, 1) := by decide +kernel
theorem dX12_drawsFor_46 : decode cX12_drawsFor 46 = .ok (.iaload, 1) := by decide +kernel
theorem dX12_drawsFor_47 : decode cX12_drawsFor 47 = .ok (.ifCond .le 19, 3) := by decide +kernel
theorem dX12_drawsFor_50 : decode cX12_drawsFor 50 = .ok (.aload_n 0, 1) := by decide +kernel
theorem dX12_drawsFor_51 : decode cX12_drawsFor 51 = .ok (.iconst 1, 1) := by decide +kernel
theorem dX12_drawsFor_52 : decode cX12_drawsFor 52 = .ok (.iload_n 1, 1) := by decide +kernel
theorem dX12_drawsFor_53 : decode cX12_drawsFor 53 = .ok (.aload_n 0, 1) := by decide +kernel
theorem dX12_drawsFor_54 : decode cX12_drawsFor 54 = .ok (.aload_n 0, 1) := by decide +kernel
theorem dX12_drawsFor_55 : decode cX12_drawsFor 55 = .ok (.getfield 98, 3) := by decide +kernel
theorem dX12_drawsFor_58 : decode cX12_drawsFor 58 = .ok (.iconst 2, 1) := by decide +kernel
theorem dX12_drawsFor_59 : decode cX12_drawsFor 59 = .ok (.iaload, 1) := by decide +kernel
theorem dX12_drawsFor_60 : decode cX12_drawsFor 60 = .ok (.invokevirtual 380, 3) := by decide +kernel
theorem dX12_drawsFor_63 : decode cX12_drawsFor 63 = .ok (.invokevirtual 383, 3) := by decide +kernel
theorem dX12_drawsFor_66 : decode cX12_drawsFor 66 = .ok (.iload_n 2, 1) := by decide +kernel
theorem dX12_drawsFor_67 : decode cX12_drawsFor 67 = .ok (.iconst 3, 1) := by decide +kernel
theorem dX12_drawsFor_68 : decode cX12_drawsFor 68 = .ok (.if_icmp .ne 10, 3) := by decide +kernel
theorem dX12_drawsFor_71 : decode cX12_drawsFor 71 = .ok (.aload_n 0, 1) := by decide +kernel
theorem dX12_drawsFor_72 : decode cX12_drawsFor 72 = .ok (.iconst 3, 1) := by decide +kernel
theorem dX12_drawsFor_73 : decode cX12_drawsFor 73 = .ok (.iload_n 1, 1) := by decide +kernel
theorem dX12_drawsFor_74 : decode cX12_drawsFor 74 = .ok (.iconst 0, 1) := by decide +kernel
theorem dX12_drawsFor_75 : decode cX12_drawsFor 75 = .ok (.invokevirtual 383, 3) := by decide +kernel
theorem dX12_drawsFor_78 : decode cX12_drawsFor 78 = .ok (.return_, 1) := by decide +kernel
def f_X12_drawsFor_66 (w0 : XM) (l1 : Int32) (l2 : Int32) : Option (XM) :=
  if (l2 : Int32) = (3 : Int32) then
  (x_bo (f_X12_doIf w0 (3 : Int32) l1 (0 : Int32)) (fun y1 =>
  some y1))
  else (some w0)
def f_X12_drawsFor_36 (w0 : XM) (l1 : Int32) (l2 : Int32) : Option (XM) :=
  if (l2 : Int32) = (2 : Int32) then
  (if (x_ga w0 2 (2 : Int32)) ≤ (0 : Int32) then
  (f_X12_drawsFor_66   w0 l1 l2)
  else (x_bo (f_X12_draw w0 (x_ga w0 2 (2 : Int32))) (fun y2 =>
  x_bo (f_X12_doIf y2.2 (1 : Int32) l1 y2.1) (fun y3 =>
  f_X12_drawsFor_66   y3 l1 l2))))
  else (f_X12_drawsFor_66   w0 l1 l2)
def f_X12_drawsFor (v0 : XM) (x0 : Int32) : Option (XM) :=
  x_bo (f_X12_draw v0 (4 : Int32)) (fun y4 =>
  if ((2 : Int32) : Int32) ≤ y4.1 then
  (f_X12_drawsFor_36   y4.2 x0 y4.1)
  else (if (x_ga y4.2 2 (1 : Int32)) ≤ (0 : Int32) then
  (f_X12_drawsFor_36   y4.2 x0 y4.1)
  else (x_bo (f_X12_draw y4.2 (x_ga y4.2 2 (1 : Int32))) (fun y5 =>
  x_bo (f_X12_doIf y5.2 (0 : Int32) x0 y5.1) (fun y6 =>
  f_X12_drawsFor_36   y6 x0 y4.1)))))
set_option maxRecDepth 100000 in
set_option maxHeartbeats 4000000 in
theorem w_X12_drawsFor_66 {p : Program} {l : Launch} {e : Env} {s : State} {m : MethodId} {args : Array Value} {below : List Frame} {meth : Method} {c : Code} {D : va_G} {tc : Nat → ClassId} {aK aV : Nat → Nat} {A : Nat → Prop} {ad0 : Nat → Nat}  (X : Cx p s m args meth c cX12_drawsFor 3 none RX12 D tc aK aV A [(shModel, ad0)])  {o : XM}  {w0 : XM} {l1 : Int32} {l2 : Int32}  (h : f_X12_drawsFor_66   w0 l1 l2 = some o) : aW p l e (x_Rm 7) s m args below meth c D tc A 3 [(shModel, ad0)] none True [o] 66 [(0, .ref (ad0 0)), (1, .int l1), (2, .int l2)] [] [w0] := by
  unfold f_X12_drawsFor_66 at h
  refine a_iload_n (pc := 66) X 2 dX12_drawsFor_66 rfl rfl ?_
  refine a_iconst (pc := 67) X dX12_drawsFor_67 q_ic_3 ?_
  refine a_icmp_ne (pc := 68) X 78 dX12_drawsFor_68 rfl (fun c_68 => ?_) (fun c_68 => ?_)
  · have h := x_ifn c_68 h
    have h := Option.some.inj h; subst h
    exact a_vret (pc := 78) X trivial dX12_drawsFor_78
  · have h := x_ifp c_68 h
    refine a_aload_n (pc := 71) X 0 dX12_drawsFor_71 rfl rfl ?_
    refine a_iconst (pc := 72) X dX12_drawsFor_72 q_ic_3 ?_
    refine a_iload_n (pc := 73) X 1 dX12_drawsFor_73 rfl rfl ?_
    refine a_iconst (pc := 74) X dX12_drawsFor_74 q_ic_0 ?_
    obtain ⟨y1, e_y1, h⟩ := x_bo_elim h
    refine a_callV (pc := 75) (st2 := []) (vs2 := [y1]) X [(0, 0, 20)] [some y1] 0 0 12 [.int (3 : Int32), .int l1, .int (0 : Int32)] [] cv_RX12_383 (c_X12_doIf (ad0 := ad0)  e_y1) rfl rfl rfl rfl rfl rfl rfl rfl rfl rfl rfl rfl rfl rfl rfl (Nat.le_of_ble_eq_true rfl) ⟨Nat.le_of_ble_eq_true rfl, Nat.le_of_ble_eq_true rfl⟩ dX12_drawsFor_75 (fun _ => ?_)
    have h := Option.some.inj h; subst h
    exact a_vret (pc := 78) X trivial dX12_drawsFor_78
set_option maxRecDepth 100000 in
set_option maxHeartbeats 4000000 in
theorem w_X12_drawsFor_36 {p : Program} {l : Launch} {e : Env} {s : State} {m : MethodId} {args : Array Value} {below : List Frame} {meth : Method} {c : Code} {D : va_G} {tc : Nat → ClassId} {aK aV : Nat → Nat} {A : Nat → Prop} {ad0 : Nat → Nat}  (X : Cx p s m args meth c cX12_drawsFor 3 none RX12 D tc aK aV A [(shModel, ad0)])  {o : XM}  {w0 : XM} {l1 : Int32} {l2 : Int32}  (h : f_X12_drawsFor_36   w0 l1 l2 = some o) : aW p l e (x_Rm 7) s m args below meth c D tc A 3 [(shModel, ad0)] none True [o] 36 [(0, .ref (ad0 0)), (1, .int l1), (2, .int l2)] [] [w0] := by
  unfold f_X12_drawsFor_36 at h
  refine a_iload_n (pc := 36) X 2 dX12_drawsFor_36 rfl rfl ?_
  refine a_iconst (pc := 37) X dX12_drawsFor_37 q_ic_2 ?_
  refine a_icmp_ne (pc := 38) X 66 dX12_drawsFor_38 rfl (fun c_38 => ?_) (fun c_38 => ?_)
  · have h := x_ifn c_38 h
    exact w_X12_drawsFor_66 X     h
  · have h := x_ifp c_38 h
    refine a_aload_n (pc := 41) X 0 dX12_drawsFor_41 rfl rfl ?_
    refine a_getR (pc := 42) X 0 2 2 fl_RX12_98 rfl rfl rfl rfl rfl dX12_drawsFor_42 ?_
    refine a_iconst (pc := 45) X dX12_drawsFor_45 q_ic_2 ?_
    refine a_iald (pc := 46) X 0 rfl rfl rfl (x_inl (by decide)) dX12_drawsFor_46 ?_
    refine a_if_le (pc := 47) X 66 dX12_drawsFor_47 rfl (fun c_47 => ?_) (fun c_47 => ?_)
    · have h := x_ifp c_47 h
      exact w_X12_drawsFor_66 X     h
    · have h := x_ifn c_47 h
      refine a_aload_n (pc := 50) X 0 dX12_drawsFor_50 rfl rfl ?_
      refine a_iconst (pc := 51) X dX12_drawsFor_51 q_ic_1 ?_
      refine a_iload_n (pc := 52) X 1 dX12_drawsFor_52 rfl rfl ?_
      refine a_aload_n (pc := 53) X 0 dX12_drawsFor_53 rfl rfl ?_
      refine a_aload_n (pc := 54) X 0 dX12_drawsFor_54 rfl rfl ?_
      refine a_getR (pc := 55) X 0 2 2 fl_RX12_98 rfl rfl rfl rfl rfl dX12_drawsFor_55 ?_
      refine a_iconst (pc := 58) X dX12_drawsFor_58 q_ic_2 ?_
      refine a_iald (pc := 59) X 0 rfl rfl rfl (x_inl (by decide)) dX12_drawsFor_59 ?_
      obtain ⟨y2, e_y2, h⟩ := x_bo_elim h
      refine a_callV (pc := 60) (st2 := [.int y2.1, .int l1, .int (1 : Int32), .ref (ad0 0)]) (vs2 := [y2.2]) X [(0, 0, 20)] [some y2.2] 0 0 12 [.int (x_ga w0 2 (2 : Int32))] [.int l1, .int (1 : Int32), .ref (ad0 0)] cv_RX12_380 (c_X12_draw (ad0 := ad0)  e_y2) rfl rfl rfl rfl rfl rfl rfl rfl rfl rfl rfl rfl rfl rfl rfl (Nat.le_of_ble_eq_true rfl) ⟨Nat.le_of_ble_eq_true rfl, Nat.le_of_ble_eq_true rfl⟩ dX12_drawsFor_60 (fun _ => ?_)
      obtain ⟨y3, e_y3, h⟩ := x_bo_elim h
      refine a_callV (pc := 63) (st2 := []) (vs2 := [y3]) X [(0, 0, 20)] [some y3] 0 0 12 [.int (1 : Int32), .int l1, .int y2.1] [] cv_RX12_383 (c_X12_doIf (ad0 := ad0)  e_y3) rfl rfl rfl rfl rfl rfl rfl rfl rfl rfl rfl rfl rfl rfl rfl (Nat.le_of_ble_eq_true rfl) ⟨Nat.le_of_ble_eq_true rfl, Nat.le_of_ble_eq_true rfl⟩ dX12_drawsFor_63 (fun _ => ?_)
      exact w_X12_drawsFor_66 X     h
set_option maxRecDepth 100000 in
set_option maxHeartbeats 4000000 in
theorem c_X12_drawsFor {l : Launch}  {ad0 : Nat → Nat} {v0 : XM} {x0 : Int32}  {o : XM} (h : f_X12_drawsFor v0 x0 = some o) : CT l yX12_drawsFor cX12_drawsFor 3 none 7 [(shModel, ad0)] [v0] (fun aK => [.ref (ad0 0), .int x0]) none True [o] := by
  refine CT_of (by decide) (fun _ => Nat.le_of_ble_eq_true rfl) ?_
  intro p e s m args below meth c D tc aK aV A X
  have X : Cx p s m args meth c cX12_drawsFor 3 none RX12 D tc aK aV A [(shModel, ad0)] := X
  show aW p l e (x_Rm 7) s m args below meth c D tc A 3 [(shModel, ad0)] none True [o] 0 [(0, .ref (ad0 0)), (1, .int x0)] [] [v0]
  unfold f_X12_drawsFor at h
  refine a_aload_n (pc := 0) X 0 dX12_drawsFor_0 rfl rfl ?_
  refine a_iconst (pc := 1) X dX12_drawsFor_1 q_ic_4 ?_
  obtain ⟨y4, e_y4, h⟩ := x_bo_elim h
  refine a_callV (pc := 2) (st2 := [.int y4.1]) (vs2 := [y4.2]) X [(0, 0, 20)] [some y4.2] 0 0 12 [.int (4 : Int32)] [] cv_RX12_380 (c_X12_draw (ad0 := ad0)  e_y4) rfl rfl rfl rfl rfl rfl rfl rfl rfl rfl rfl rfl rfl rfl rfl (Nat.le_of_ble_eq_true rfl) ⟨Nat.le_of_ble_eq_true rfl, Nat.le_of_ble_eq_true rfl⟩ dX12_drawsFor_2 (fun _ => ?_)
  refine a_istore_n (pc := 5) X [(2, .int y4.1), (0, .ref (ad0 0)), (1, .int x0)] dX12_drawsFor_5 rfl (by decide) rfl ?_
  refine a_iload_n (pc := 6) X 0 dX12_drawsFor_6 rfl rfl ?_
  refine a_iconst (pc := 7) X dX12_drawsFor_7 q_ic_2 ?_
  refine a_icmp_ge (pc := 8) X 36 dX12_drawsFor_8 rfl (fun c_8 => ?_) (fun c_8 => ?_)
  · have h := x_ifp c_8 h
    refine a_sub [1, 2, 0] rfl ?_
    exact w_X12_drawsFor_36 X     h
  · have h := x_ifn c_8 h
    refine a_aload_n (pc := 11) X 1 dX12_drawsFor_11 rfl rfl ?_
    refine a_getR (pc := 12) X 0 2 2 fl_RX12_98 rfl rfl rfl rfl rfl dX12_drawsFor_12 ?_
    refine a_iconst (pc := 15) X dX12_drawsFor_15 q_ic_1 ?_
    refine a_iald (pc := 16) X 0 rfl rfl rfl (x_inl (by decide)) dX12_drawsFor_16 ?_
    refine a_if_le (pc := 17) X 36 dX12_drawsFor_17 rfl (fun c_17 => ?_) (fun c_17 => ?_)
    · have h := x_ifp c_17 h
      refine a_sub [1, 2, 0] rfl ?_
      exact w_X12_drawsFor_36 X     h
    · have h := x_ifn c_17 h
      refine a_aload_n (pc := 20) X 1 dX12_drawsFor_20 rfl rfl ?_
      refine a_iconst (pc := 21) X dX12_drawsFor_21 q_ic_0 ?_
      refine a_iload_n (pc := 22) X 2 dX12_drawsFor_22 rfl rfl ?_
      refine a_aload_n (pc := 23) X 1 dX12_drawsFor_23 rfl rfl ?_
      refine a_aload_n (pc := 24) X 1 dX12_drawsFor_24 rfl rfl ?_
      refine a_getR (pc := 25) X 0 2 2 fl_RX12_98 rfl rfl rfl rfl rfl dX12_drawsFor_25 ?_
      refine a_iconst (pc := 28) X dX12_drawsFor_28 q_ic_1 ?_
      refine a_iald (pc := 29) X 0 rfl rfl rfl (x_inl (by decide)) dX12_drawsFor_29 ?_
      obtain ⟨y5, e_y5, h⟩ := x_bo_elim h
      refine a_callV (pc := 30) (st2 := [.int y5.1, .int x0, .int (0 : Int32), .ref (ad0 0)]) (vs2 := [y5.2]) X [(0, 0, 20)] [some y5.2] 0 0 12 [.int (x_ga y4.2 2 (1 : Int32))] [.int x0, .int (0 : Int32), .ref (ad0 0)] cv_RX12_380 (c_X12_draw (ad0 := ad0)  e_y5) rfl rfl rfl rfl rfl rfl rfl rfl rfl rfl rfl rfl rfl rfl rfl (Nat.le_of_ble_eq_true rfl) ⟨Nat.le_of_ble_eq_true rfl, Nat.le_of_ble_eq_true rfl⟩ dX12_drawsFor_30 (fun _ => ?_)
      obtain ⟨y6, e_y6, h⟩ := x_bo_elim h
      refine a_callV (pc := 33) (st2 := []) (vs2 := [y6]) X [(0, 0, 20)] [some y6] 0 0 12 [.int (0 : Int32), .int x0, .int y5.1] [] cv_RX12_383 (c_X12_doIf (ad0 := ad0)  e_y6) rfl rfl rfl rfl rfl rfl rfl rfl rfl rfl rfl rfl rfl rfl rfl (Nat.le_of_ble_eq_true rfl) ⟨Nat.le_of_ble_eq_true rfl, Nat.le_of_ble_eq_true rfl⟩ dX12_drawsFor_33 (fun _ => ?_)
      refine a_sub [1, 2, 0] rfl ?_
      exact w_X12_drawsFor_36 X     h
theorem dX12_drawHours_0 : decode cX12_drawHours 0 = .ok (.aload_n 0, 1) := by decide +kernel
theorem dX12_drawHours_1 : decode cX12_drawHours 1 = .ok (.iload_n 2, 1) := by decide +kernel
theorem dX12_drawHours_2 : decode cX12_drawHours 2 = .ok (.putfield 376, 3) := by decide +kernel
theorem dX12_drawHours_5 : decode cX12_drawHours 5 = .ok (.iload_n 1, 1) := by decide +kernel
theorem dX12_drawHours_6 : decode cX12_drawHours 6 = .ok (.sipush 400, 3) := by decide +kernel
theorem dX12_drawHours_9 : decode cX12_drawHours 9 = .ok (.aload_n 0, 1) := by decide +kernel
theorem dX12_drawHours_10 : decode cX12_drawHours 10 = .ok (.getfield 98, 3) := by decide +kernel
theorem dX12_drawHours_13 : decode cX12_drawHours 13 = .ok (.bipush 70, 2) := by decide +kernel
theorem dX12_drawHours_15 : decode cX12_drawHours 15 = .ok (.iaload, 1) := by decide +kernel
theorem dX12_drawHours_16 : decode cX12_drawHours 16 = .ok (.isub, 1) := by decide +kernel
theorem dX12_drawHours_17 : decode cX12_drawHours 17 = .ok (.invokestatic 318, 3) := by decide +kernel
theorem dX12_drawHours_20 : decode cX12_drawHours 20 = .ok (.istore_n 3, 1) := by decide +kernel
theorem dX12_drawHours_21 : decode cX12_drawHours 21 = .ok (.iconst 0, 1) := by decide +kernel
theorem dX12_drawHours_22 : decode cX12_drawHours 22 = .ok (.istore 4, 2) := by decide +kernel
theorem dX12_drawHours_24 : decode cX12_drawHours 24 = .ok (.iload 4, 2) := by decide +kernel
theorem dX12_drawHours_26 : decode cX12_drawHours 26 = .ok (.iload_n 3, 1) := by decide +kernel
theorem dX12_drawHours_27 : decode cX12_drawHours 27 = .ok (.if_icmp .ge 71, 3) := by decide +kernel
theorem dX12_drawHours_30 : decode cX12_drawHours 30 = .ok (.iconst 0, 1) := by decide +kernel
theorem dX12_drawHours_31 : decode cX12_drawHours 31 = .ok (.istore 5, 2) := by decide +kernel
theorem dX12_drawHours_33 : decode cX12_drawHours 33 = .ok (.iload 5, 2) := by decide +kernel
theorem dX12_drawHours_35 : decode cX12_drawHours 35 = .ok (.aload_n 0, 1) := by decide +kernel
theorem dX12_drawHours_36 : decode cX12_drawHours 36 = .ok (.getfield 98, 3) := by decide +kernel
theorem dX12_drawHours_39 : decode cX12_drawHours 39 = .ok (.iconst 3, 1) := by decide +kernel
theorem dX12_drawHours_40 : decode cX12_drawHours 40 = .ok (.iaload, 1) := by decide +kernel
theorem dX12_drawHours_41 : decode cX12_drawHours 41 = .ok (.if_icmp .ge 24, 3) := by decide +kernel
theorem dX12_drawHours_44 : decode cX12_drawHours 44 = .ok (.aload_n 0, 1) := by decide +kernel
theorem dX12_drawHours_45 : decode cX12_drawHours 45 = .ok (.iload 5, 2) := by decide +kernel
theorem dX12_drawHours_47 : decode cX12_drawHours 47 = .ok (.invokevirtual 240, 3) := by decide +kernel
theorem dX12_drawHours_50 : decode cX12_drawHours 50 = .ok (.ifCond .ne 9, 3) := by decide +kernel
theorem dX12_drawHours_53 : decode cX12_drawHours 53 = .ok (.aload_n 0, 1) := by decide +kernel
theorem dX12_drawHours_54 : decode cX12_drawHours 54 = .ok (.iload 5, 2) := by decide +kernel
theorem dX12_drawHours_56 : decode cX12_drawHours 56 = .ok (.invokevirtual 386, 3) := by decide +kernel
theorem dX12_drawHours_59 : decode cX12_drawHours 59 = .ok (.iinc 5 1, 3) := by decide +kernel
theorem dX12_drawHours_62 : decode cX12_drawHours 62 = .ok (.goto (-29), 3) := by decide +kernel
theorem dX12_drawHours_65 : decode cX12_drawHours 65 = .ok (.aload_n 0, 1) := by decide +kernel
theorem dX12_drawHours_66 : decode cX12_drawHours 66 = .ok (.bipush 20, 2) := by decide +kernel
theorem dX12_drawHours_68 : decode cX12_drawHours 68 = .ok (.invokevirtual 380, 3) := by decide +kernel
theorem dX12_drawHours_71 : decode cX12_drawHours 71 = .ok (.istore 5, 2) := by decide +kernel
theorem dX12_drawHours_73 : decode cX12_drawHours 73 = .ok (.iload 5, 2) := by decide +kernel
theorem dX12_drawHours_75 : decode cX12_drawHours 75 = .ok (.iconst 3, 1) := by decide +kernel
theorem dX12_drawHours_76 : decode cX12_drawHours 76 = .ok (.if_icmp .ge 12, 3) := by decide +kernel
theorem dX12_drawHours_79 : decode cX12_drawHours 79 = .ok (.aload_n 0, 1) := by decide +kernel
theorem dX12_drawHours_80 : decode cX12_drawHours 80 = .ok (.getfield 98, 3) := by decide +kernel
theorem dX12_drawHours_83 : decode cX12_drawHours 83 = .ok (.bipush 71, 2) := by decide +kernel
theorem dX12_drawHours_85 : decode cX12_drawHours 85 = .ok (.iload 5, 2) := by decide +kernel
theorem dX12_drawHours_87 : decode cX12_drawHours 87 = .ok (.iastore, 1) := by decide +kernel
theorem dX12_drawHours_88 : decode cX12_drawHours 88 = .ok (.aload_n 0, 1) := by decide +kernel
theorem dX12_drawHours_89 : decode cX12_drawHours 89 = .ok (.invokevirtual 321, 3) := by decide +kernel
theorem dX12_drawHours_92 : decode cX12_drawHours 92 = .ok (.iinc 4 1, 3) := by decide +kernel
theorem dX12_drawHours_95 : decode cX12_drawHours 95 = .ok (.goto (-71), 3) := by decide +kernel
theorem dX12_drawHours_98 : decode cX12_drawHours 98 = .ok (.iload_n 3, 1) := by decide +kernel
theorem dX12_drawHours_99 : decode cX12_drawHours 99 = .ok (.ireturn, 1) := by decide +kernel
def f_X12_drawHours_59 (k24 : XM → Int32 → Int32 → Option (Int32 × XM)) (k33 : XM → Int32 → Int32 → Int32 → Option (Int32 × XM)) (w0 : XM) (l3 : Int32) (l4 : Int32) (l5 : Int32) : Option (Int32 × XM) :=
  k33 w0 l3 l4 (l5 + 1)
def f_X12_drawHours_88 (k24 : XM → Int32 → Int32 → Option (Int32 × XM)) (w0 : XM) (l3 : Int32) (l4 : Int32) : Option (Int32 × XM) :=
  x_bo (f_X12_oneHour w0) (fun y1 =>
  k24 y1 l3 (l4 + 1))
def f_X12_drawHours_33 (k24 : XM → Int32 → Int32 → Option (Int32 × XM)) (k33 : XM → Int32 → Int32 → Int32 → Option (Int32 × XM)) (w0 : XM) (l3 : Int32) (l4 : Int32) (l5 : Int32) : Option (Int32 × XM) :=
  if ((x_ga w0 2 (3 : Int32)) : Int32) ≤ l5 then
  (x_bo (f_X12_draw w0 (20 : Int32)) (fun y2 =>
  if ((3 : Int32) : Int32) ≤ y2.1 then
  (f_X12_drawHours_88  k24 y2.2 l3 l4)
  else (x_lt (x_pa y2.2 2 (71 : Int32) y2.1) (fun m3 =>
  f_X12_drawHours_88  k24 m3 l3 l4))))
  else (x_bo (f_X12_isGoing w0 l5) (fun y4 =>
  if y4 = (0 : Int32) then
  (x_bo (f_X12_drawsFor w0 l5) (fun y5 =>
  f_X12_drawHours_59  k24 k33 y5 l3 l4 l5))
  else (f_X12_drawHours_59  k24 k33 w0 l3 l4 l5)))
def f_X12_drawHours_24 (k24 : XM → Int32 → Int32 → Option (Int32 × XM)) (w0 : XM) (l3 : Int32) (l4 : Int32) : Option (Int32 × XM) :=
  if (l3 : Int32) ≤ l4 then
  (some (l3, w0))
  else (x_lp (φ := XM → Int32 → Int32 → Int32 → Option (Int32 × XM)) (fun _ _ _ _ => none) (f_X12_drawHours_33  k24) x_NN w0 l3 l4 (0 : Int32))
def f_X12_drawHours (v0 : XM) (x0 : Int32) (x1 : Int32) : Option (Int32 × XM) :=
  x_lt (x_si v0 0 37 x1) (fun m6 =>
  x_lt (f_X12_least x0 ((400 : Int32) - (x_ga m6 2 (70 : Int32)))) (fun y7 =>
  x_lp (φ := XM → Int32 → Int32 → Option (Int32 × XM)) (fun _ _ _ => none) (f_X12_drawHours_24  ) x_NN m6 y7 (0 : Int32)))
set_option maxRecDepth 100000 in
set_option maxHeartbeats 4000000 in
theorem w_X12_drawHours_59 {p : Program} {l : Launch} {e : Env} {s : State} {m : MethodId} {args : Array Value} {below : List Frame} {meth : Method} {c : Code} {D : va_G} {tc : Nat → ClassId} {aK aV : Nat → Nat} {A : Nat → Prop} {ad0 : Nat → Nat}  (X : Cx p s m args meth c cX12_drawHours 6 (some .int) RX12 D tc aK aV A [(shModel, ad0)])  {o : Int32 × XM} {k24 : XM → Int32 → Int32 → Option (Int32 × XM)} {k33 : XM → Int32 → Int32 → Int32 → Option (Int32 × XM)} (hk24 : ∀ (w0 : XM) (l3 : Int32) (l4 : Int32), k24 w0 l3 l4 = some o → aW p l e (x_Rm 8) s m args below meth c D tc A 6 [(shModel, ad0)] (some (.int o.1)) True [o.2] 24 [(0, .ref (ad0 0)), (3, .int l3), (4, .int l4)] [] [w0]) (hk33 : ∀ (w0 : XM) (l3 : Int32) (l4 : Int32) (l5 : Int32), k33 w0 l3 l4 l5 = some o → aW p l e (x_Rm 8) s m args below meth c D tc A 6 [(shModel, ad0)] (some (.int o.1)) True [o.2] 33 [(0, .ref (ad0 0)), (3, .int l3), (4, .int l4), (5, .int l5)] [] [w0]) {w0 : XM} {l3 : Int32} {l4 : Int32} {l5 : Int32}  (h : f_X12_drawHours_59  k24 k33 w0 l3 l4 l5 = some o) : aW p l e (x_Rm 8) s m args below meth c D tc A 6 [(shModel, ad0)] (some (.int o.1)) True [o.2] 59 [(0, .ref (ad0 0)), (3, .int l3), (4, .int l4), (5, .int l5)] [] [w0] := by
  unfold f_X12_drawHours_59 at h
  refine a_iinc (pc := 59) X 3 [(5, .int (l5 + 1)), (0, .ref (ad0 0)), (3, .int l3), (4, .int l4)] dX12_drawHours_59 rfl (congrArg (HAdd.hAdd l5) q_ic_1) (by decide) rfl ?_
  refine a_goto (pc := 62) X 33 dX12_drawHours_62 rfl ?_
  refine a_sub [1, 2, 3, 0] rfl ?_
  exact hk33 _ _ _ _ h
set_option maxRecDepth 100000 in
set_option maxHeartbeats 4000000 in
theorem w_X12_drawHours_88 {p : Program} {l : Launch} {e : Env} {s : State} {m : MethodId} {args : Array Value} {below : List Frame} {meth : Method} {c : Code} {D : va_G} {tc : Nat → ClassId} {aK aV : Nat → Nat} {A : Nat → Prop} {ad0 : Nat → Nat}  (X : Cx p s m args meth c cX12_drawHours 6 (some .int) RX12 D tc aK aV A [(shModel, ad0)])  {o : Int32 × XM} {k24 : XM → Int32 → Int32 → Option (Int32 × XM)} (hk24 : ∀ (w0 : XM) (l3 : Int32) (l4 : Int32), k24 w0 l3 l4 = some o → aW p l e (x_Rm 8) s m args below meth c D tc A 6 [(shModel, ad0)] (some (.int o.1)) True [o.2] 24 [(0, .ref (ad0 0)), (3, .int l3), (4, .int l4)] [] [w0]) {w0 : XM} {l3 : Int32} {l4 : Int32}  (h : f_X12_drawHours_88  k24 w0 l3 l4 = some o) : aW p l e (x_Rm 8) s m args below meth c D tc A 6 [(shModel, ad0)] (some (.int o.1)) True [o.2] 88 [(0, .ref (ad0 0)), (3, .int l3), (4, .int l4)] [] [w0] := by
  unfold f_X12_drawHours_88 at h
  refine a_aload_n (pc := 88) X 0 dX12_drawHours_88 rfl rfl ?_
  obtain ⟨y1, e_y1, h⟩ := x_bo_elim h
  refine a_callV (pc := 89) (st2 := []) (vs2 := [y1]) X [(0, 0, 20)] [some y1] 0 0 12 [] [] cv_RX12_321 (c_X12_oneHour (ad0 := ad0)  e_y1) rfl rfl rfl rfl rfl rfl rfl rfl rfl rfl rfl rfl rfl rfl rfl (Nat.le_of_ble_eq_true rfl) ⟨Nat.le_of_ble_eq_true rfl, Nat.le_of_ble_eq_true rfl⟩ dX12_drawHours_89 (fun _ => ?_)
  refine a_iinc (pc := 92) X 2 [(4, .int (l4 + 1)), (0, .ref (ad0 0)), (3, .int l3)] dX12_drawHours_92 rfl (congrArg (HAdd.hAdd l4) q_ic_1) (by decide) rfl ?_
  refine a_goto (pc := 95) X 24 dX12_drawHours_95 rfl ?_
  refine a_sub [1, 2, 0] rfl ?_
  exact hk24 _ _ _ h
set_option maxRecDepth 100000 in
set_option maxHeartbeats 4000000 in
theorem w_X12_drawHours_33 {p : Program} {l : Launch} {e : Env} {s : State} {m : MethodId} {args : Array Value} {below : List Frame} {meth : Method} {c : Code} {D : va_G} {tc : Nat → ClassId} {aK aV : Nat → Nat} {A : Nat → Prop} {ad0 : Nat → Nat}  (X : Cx p s m args meth c cX12_drawHours 6 (some .int) RX12 D tc aK aV A [(shModel, ad0)])  {o : Int32 × XM} {k24 : XM → Int32 → Int32 → Option (Int32 × XM)} (hk24 : ∀ (w0 : XM) (l3 : Int32) (l4 : Int32), k24 w0 l3 l4 = some o → aW p l e (x_Rm 8) s m args below meth c D tc A 6 [(shModel, ad0)] (some (.int o.1)) True [o.2] 24 [(0, .ref (ad0 0)), (3, .int l3), (4, .int l4)] [] [w0]) : ∀ (n : Nat), ∀ (w0 : XM) (l3 : Int32) (l4 : Int32) (l5 : Int32), x_lp (φ := XM → Int32 → Int32 → Int32 → Option (Int32 × XM)) (fun _ _ _ _ => none) (f_X12_drawHours_33  k24) n w0 l3 l4 l5 = some o → aW p l e (x_Rm 8) s m args below meth c D tc A 6 [(shModel, ad0)] (some (.int o.1)) True [o.2] 33 [(0, .ref (ad0 0)), (3, .int l3), (4, .int l4), (5, .int l5)] [] [w0] := by
  intro n
  induction n with
  | zero => intro w0 l3 l4 l5 h; exact absurd h (fun q => by cases q)
  | succ n ih =>
    intro w0 l3 l4 l5 h
    have h : f_X12_drawHours_33  k24 (x_lp (φ := XM → Int32 → Int32 → Int32 → Option (Int32 × XM)) (fun _ _ _ _ => none) (f_X12_drawHours_33  k24) n) w0 l3 l4 l5 = some o := h
    generalize x_lp (φ := XM → Int32 → Int32 → Int32 → Option (Int32 × XM)) (fun _ _ _ _ => none) (f_X12_drawHours_33  k24) n = k33 at h ih
    have hk33 := ih
    unfold f_X12_drawHours_33 at h
    refine a_iload (pc := 33) X 3 dX12_drawHours_33 rfl ?_
    refine a_aload_n (pc := 35) X 0 dX12_drawHours_35 rfl rfl ?_
    refine a_getR (pc := 36) X 0 2 2 fl_RX12_98 rfl rfl rfl rfl rfl dX12_drawHours_36 ?_
    refine a_iconst (pc := 39) X dX12_drawHours_39 q_ic_3 ?_
    refine a_iald (pc := 40) X 0 rfl rfl rfl (x_inl (by decide)) dX12_drawHours_40 ?_
    refine a_icmp_ge (pc := 41) X 65 dX12_drawHours_41 rfl (fun c_41 => ?_) (fun c_41 => ?_)
    · have h := x_ifp c_41 h
      refine a_aload_n (pc := 65) X 0 dX12_drawHours_65 rfl rfl ?_
      refine a_bipush (pc := 66) X dX12_drawHours_66 q_bp_20 ?_
      obtain ⟨y2, e_y2, h⟩ := x_bo_elim h
      refine a_callV (pc := 68) (st2 := [.int y2.1]) (vs2 := [y2.2]) X [(0, 0, 20)] [some y2.2] 0 0 12 [.int (20 : Int32)] [] cv_RX12_380 (c_X12_draw (ad0 := ad0)  e_y2) rfl rfl rfl rfl rfl rfl rfl rfl rfl rfl rfl rfl rfl rfl rfl (Nat.le_of_ble_eq_true rfl) ⟨Nat.le_of_ble_eq_true rfl, Nat.le_of_ble_eq_true rfl⟩ dX12_drawHours_68 (fun _ => ?_)
      refine a_istore (pc := 71) X [(5, .int y2.1), (0, .ref (ad0 0)), (3, .int l3), (4, .int l4)] dX12_drawHours_71 (by decide) rfl ?_
      refine a_iload (pc := 73) X 0 dX12_drawHours_73 rfl ?_
      refine a_iconst (pc := 75) X dX12_drawHours_75 q_ic_3 ?_
      refine a_icmp_ge (pc := 76) X 88 dX12_drawHours_76 rfl (fun c_76 => ?_) (fun c_76 => ?_)
      · have h := x_ifp c_76 h
        refine a_sub [1, 2, 3] rfl ?_
        exact w_X12_drawHours_88 X   hk24  h
      · have h := x_ifn c_76 h
        refine a_aload_n (pc := 79) X 1 dX12_drawHours_79 rfl rfl ?_
        refine a_getR (pc := 80) X 0 2 2 fl_RX12_98 rfl rfl rfl rfl rfl dX12_drawHours_80 ?_
        refine a_bipush (pc := 83) X dX12_drawHours_83 q_bp_71 ?_
        refine a_iload (pc := 85) X 0 dX12_drawHours_85 rfl ?_
        refine a_iast (pc := 87) X 0 rfl rfl rfl (x_inl (by decide)) dX12_drawHours_87 ?_
        obtain ⟨m3, e_m3, h⟩ := x_lt_elim h
        refine a_nm (vs2 := [m3]) (congrArg (fun q : XM => [q]) e_m3) ?_
        refine a_sub [1, 2, 3] rfl ?_
        exact w_X12_drawHours_88 X   hk24  h
    · have h := x_ifn c_41 h
      refine a_aload_n (pc := 44) X 0 dX12_drawHours_44 rfl rfl ?_
      refine a_iload (pc := 45) X 3 dX12_drawHours_45 rfl ?_
      obtain ⟨y4, e_y4, h⟩ := x_bo_elim h
      refine a_callV (pc := 47) (st2 := [.int y4]) (vs2 := [w0]) X [(0, 0, 20)] [none] 0 0 12 [.int l5] [] cv_RX12_240 (c_X12_isGoing (ad0 := ad0)  e_y4) rfl rfl rfl rfl rfl rfl rfl rfl rfl rfl rfl rfl rfl rfl rfl (Nat.le_of_ble_eq_true rfl) ⟨Nat.le_of_ble_eq_true rfl, Nat.le_of_ble_eq_true rfl⟩ dX12_drawHours_47 (fun z_47 => ?_)
      refine a_if_ne (pc := 50) X 59 dX12_drawHours_50 rfl (fun c_50 => ?_) (fun c_50 => ?_)
      · have h := x_ifn c_50 h
        exact w_X12_drawHours_59 X   hk24 hk33  h
      · have h := x_ifp c_50 h
        refine a_aload_n (pc := 53) X 0 dX12_drawHours_53 rfl rfl ?_
        refine a_iload (pc := 54) X 3 dX12_drawHours_54 rfl ?_
        obtain ⟨y5, e_y5, h⟩ := x_bo_elim h
        refine a_callV (pc := 56) (st2 := []) (vs2 := [y5]) X [(0, 0, 20)] [some y5] 0 0 12 [.int l5] [] cv_RX12_386 (c_X12_drawsFor (ad0 := ad0)  e_y5) rfl rfl rfl rfl rfl rfl rfl rfl rfl rfl rfl rfl rfl rfl rfl (Nat.le_of_ble_eq_true rfl) ⟨Nat.le_of_ble_eq_true rfl, Nat.le_of_ble_eq_true rfl⟩ dX12_drawHours_56 (fun _ => ?_)
        exact w_X12_drawHours_59 X   hk24 hk33  h
set_option maxRecDepth 100000 in
set_option maxHeartbeats 4000000 in
theorem w_X12_drawHours_24 {p : Program} {l : Launch} {e : Env} {s : State} {m : MethodId} {args : Array Value} {below : List Frame} {meth : Method} {c : Code} {D : va_G} {tc : Nat → ClassId} {aK aV : Nat → Nat} {A : Nat → Prop} {ad0 : Nat → Nat}  (X : Cx p s m args meth c cX12_drawHours 6 (some .int) RX12 D tc aK aV A [(shModel, ad0)])  {o : Int32 × XM}  : ∀ (n : Nat), ∀ (w0 : XM) (l3 : Int32) (l4 : Int32), x_lp (φ := XM → Int32 → Int32 → Option (Int32 × XM)) (fun _ _ _ => none) (f_X12_drawHours_24  ) n w0 l3 l4 = some o → aW p l e (x_Rm 8) s m args below meth c D tc A 6 [(shModel, ad0)] (some (.int o.1)) True [o.2] 24 [(0, .ref (ad0 0)), (3, .int l3), (4, .int l4)] [] [w0] := by
  intro n
  induction n with
  | zero => intro w0 l3 l4 h; exact absurd h (fun q => by cases q)
  | succ n ih =>
    intro w0 l3 l4 h
    have h : f_X12_drawHours_24   (x_lp (φ := XM → Int32 → Int32 → Option (Int32 × XM)) (fun _ _ _ => none) (f_X12_drawHours_24  ) n) w0 l3 l4 = some o := h
    generalize x_lp (φ := XM → Int32 → Int32 → Option (Int32 × XM)) (fun _ _ _ => none) (f_X12_drawHours_24  ) n = k24 at h ih
    have hk24 := ih
    unfold f_X12_drawHours_24 at h
    refine a_iload (pc := 24) X 2 dX12_drawHours_24 rfl ?_
    refine a_iload_n (pc := 26) X 1 dX12_drawHours_26 rfl rfl ?_
    refine a_icmp_ge (pc := 27) X 98 dX12_drawHours_27 rfl (fun c_27 => ?_) (fun c_27 => ?_)
    · have h := x_ifp c_27 h
      refine a_iload_n (pc := 98) X 1 dX12_drawHours_98 rfl rfl ?_
      have h := Option.some.inj h; subst h
      exact a_iret (pc := 99) X trivial dX12_drawHours_99
    · have h := x_ifn c_27 h
      refine a_iconst (pc := 30) X dX12_drawHours_30 q_ic_0 ?_
      refine a_istore (pc := 31) X [(5, .int (0 : Int32)), (0, .ref (ad0 0)), (3, .int l3), (4, .int l4)] dX12_drawHours_31 (by decide) rfl ?_
      refine a_sub [1, 2, 3, 0] rfl ?_
      exact w_X12_drawHours_33 X   hk24 x_NN _ _ _ _ h
set_option maxRecDepth 100000 in
set_option maxHeartbeats 4000000 in
theorem c_X12_drawHours {l : Launch}  {ad0 : Nat → Nat} {v0 : XM} {x0 : Int32} {x1 : Int32}  {o : Int32 × XM} (h : f_X12_drawHours v0 x0 x1 = some o) : CT l yX12_drawHours cX12_drawHours 6 (some .int) 8 [(shModel, ad0)] [v0] (fun aK => [.ref (ad0 0), .int x0, .int x1]) (some (.int o.1)) True [o.2] := by
  refine CT_of (by decide) (fun _ => Nat.le_of_ble_eq_true rfl) ?_
  intro p e s m args below meth c D tc aK aV A X
  have X : Cx p s m args meth c cX12_drawHours 6 (some .int) RX12 D tc aK aV A [(shModel, ad0)] := X
  show aW p l e (x_Rm 8) s m args below meth c D tc A 6 [(shModel, ad0)] (some (.int o.1)) True [o.2] 0 [(0, .ref (ad0 0)), (1, .int x0), (2, .int x1)] [] [v0]
  unfold f_X12_drawHours at h
  refine a_aload_n (pc := 0) X 0 dX12_drawHours_0 rfl rfl ?_
  refine a_iload_n (pc := 1) X 2 dX12_drawHours_1 rfl rfl ?_
  refine a_putI (pc := 2) X 0 fl_RX12_376 rfl rfl rfl rfl dX12_drawHours_2 ?_
  obtain ⟨m6, e_m6, h⟩ := x_lt_elim h
  refine a_nm (vs2 := [m6]) (congrArg (fun q : XM => [q]) e_m6) ?_
  refine a_iload_n (pc := 5) X 1 dX12_drawHours_5 rfl rfl ?_
  refine a_sipush (pc := 6) X dX12_drawHours_6 q_sp_400 ?_
  refine a_aload_n (pc := 9) X 0 dX12_drawHours_9 rfl rfl ?_
  refine a_getR (pc := 10) X 0 2 2 fl_RX12_98 rfl rfl rfl rfl rfl dX12_drawHours_10 ?_
  refine a_bipush (pc := 13) X dX12_drawHours_13 q_bp_70 ?_
  refine a_iald (pc := 15) X 0 rfl rfl rfl (x_inl (by decide)) dX12_drawHours_15 ?_
  refine a_isub (pc := 16) X dX12_drawHours_16 ?_
  obtain ⟨y7, e_y7, h⟩ := x_lt_elim h
  refine a_callS (pc := 17) (st2 := [.int y7]) (vs2 := [m6]) X [] [] [.int x0, .int ((400 : Int32) - (x_ga m6 2 (70 : Int32)))] [] cv_RX12_318 (c_X12_least   e_y7) rfl rfl rfl rfl rfl rfl rfl rfl rfl rfl rfl (Nat.le_of_ble_eq_true rfl) ⟨Nat.le_of_ble_eq_true rfl, Nat.le_of_ble_eq_true rfl⟩ dX12_drawHours_17 (fun _ => ?_)
  refine a_istore_n (pc := 20) X [(3, .int y7), (0, .ref (ad0 0)), (1, .int x0), (2, .int x1)] dX12_drawHours_20 rfl (by decide) rfl ?_
  refine a_iconst (pc := 21) X dX12_drawHours_21 q_ic_0 ?_
  refine a_istore (pc := 22) X [(4, .int (0 : Int32)), (3, .int y7), (0, .ref (ad0 0)), (1, .int x0), (2, .int x1)] dX12_drawHours_22 (by decide) rfl ?_
  refine a_sub [2, 1, 0] rfl ?_
  exact w_X12_drawHours_24 X    x_NN _ _ _ h
theorem dX12_drawn_0 : decode cX12_drawn 0 = .ok (.aload_n 0, 1) := by decide +kernel
theorem dX12_drawn_1 : decode cX12_drawn 1 = .ok (.iconst 0, 1) := by decide +kernel
theorem dX12_drawn_2 : decode cX12_drawn 2 = .ok (.putfield 1, 3) := by decide +kernel
theorem dX12_drawn_5 : decode cX12_drawn 5 = .ok (.iload_n 1, 1) := by decide +kernel
theorem dX12_drawn_6 : decode cX12_drawn 6 = .ok (.iconst 1, 1) := by decide +kernel
theorem dX12_drawn_7 : decode cX12_drawn 7 = .ok (.bipush 60, 2) := by decide +kernel
theorem dX12_drawn_9 : decode cX12_drawn 9 = .ok (.invokestatic 75, 3) := by decide +kernel
theorem dX12_drawn_12 : decode cX12_drawn 12 = .ok (.ifCond .ne 5, 3) := by decide +kernel
theorem dX12_drawn_15 : decode cX12_drawn 15 = .ok (.iconst (-1), 1) := by decide +kernel
theorem dX12_drawn_16 : decode cX12_drawn 16 = .ok (.ireturn, 1) := by decide +kernel
theorem dX12_drawn_17 : decode cX12_drawn 17 = .ok (.aload_n 0, 1) := by decide +kernel
theorem dX12_drawn_18 : decode cX12_drawn 18 = .ok (.getfield 98, 3) := by decide +kernel
theorem dX12_drawn_21 : decode cX12_drawn 21 = .ok (.bipush 70, 2) := by decide +kernel
theorem dX12_drawn_23 : decode cX12_drawn 23 = .ok (.iaload, 1) := by decide +kernel
theorem dX12_drawn_24 : decode cX12_drawn 24 = .ok (.sipush 400, 3) := by decide +kernel
theorem dX12_drawn_27 : decode cX12_drawn 27 = .ok (.if_icmp .ne 5, 3) := by decide +kernel
theorem dX12_drawn_30 : decode cX12_drawn 30 = .ok (.iconst 0, 1) := by decide +kernel
theorem dX12_drawn_31 : decode cX12_drawn 31 = .ok (.ireturn, 1) := by decide +kernel
theorem dX12_drawn_32 : decode cX12_drawn 32 = .ok (.aload_n 0, 1) := by decide +kernel
theorem dX12_drawn_33 : decode cX12_drawn 33 = .ok (.invokevirtual 301, 3) := by decide +kernel
theorem dX12_drawn_36 : decode cX12_drawn 36 = .ok (.aload_n 0, 1) := by decide +kernel
theorem dX12_drawn_37 : decode cX12_drawn 37 = .ok (.iload_n 1, 1) := by decide +kernel
theorem dX12_drawn_38 : decode cX12_drawn 38 = .ok (.iload_n 2, 1) := by decide +kernel
theorem dX12_drawn_39 : decode cX12_drawn 39 = .ok (.invokevirtual 389, 3) := by decide +kernel
theorem dX12_drawn_42 : decode cX12_drawn 42 = .ok (.ireturn, 1) := by decide +kernel
def f_X12_drawn (v0 : XM) (x0 : Int32) (x1 : Int32) : Option (Int32 × XM) :=
  x_lt (x_si v0 0 0 (0 : Int32)) (fun m1 =>
  x_lt (f_X12_isIn x0 (1 : Int32) (60 : Int32)) (fun y2 =>
  if y2 = (0 : Int32) then
  (some ((-1 : Int32), m1))
  else (if ((x_ga m1 2 (70 : Int32)) : Int32) = (400 : Int32) then
  (some ((0 : Int32), m1))
  else (x_bo (f_X12_snap m1) (fun y3 =>
  x_bo (f_X12_drawHours y3 x0 x1) (fun y4 =>
  some (y4.1, y4.2)))))))
set_option maxRecDepth 100000 in
set_option maxHeartbeats 4000000 in
theorem c_X12_drawn {l : Launch}  {ad0 : Nat → Nat} {v0 : XM} {x0 : Int32} {x1 : Int32}  {o : Int32 × XM} (h : f_X12_drawn v0 x0 x1 = some o) : CT l yX12_drawn cX12_drawn 3 (some .int) 9 [(shModel, ad0)] [v0] (fun aK => [.ref (ad0 0), .int x0, .int x1]) (some (.int o.1)) True [o.2] := by
  refine CT_of (by decide) (fun _ => Nat.le_of_ble_eq_true rfl) ?_
  intro p e s m args below meth c D tc aK aV A X
  have X : Cx p s m args meth c cX12_drawn 3 (some .int) RX12 D tc aK aV A [(shModel, ad0)] := X
  show aW p l e (x_Rm 9) s m args below meth c D tc A 3 [(shModel, ad0)] (some (.int o.1)) True [o.2] 0 [(0, .ref (ad0 0)), (1, .int x0), (2, .int x1)] [] [v0]
  unfold f_X12_drawn at h
  refine a_aload_n (pc := 0) X 0 dX12_drawn_0 rfl rfl ?_
  refine a_iconst (pc := 1) X dX12_drawn_1 q_ic_0 ?_
  refine a_putI (pc := 2) X 0 fl_RX12_1 rfl rfl rfl rfl dX12_drawn_2 ?_
  obtain ⟨m1, e_m1, h⟩ := x_lt_elim h
  refine a_nm (vs2 := [m1]) (congrArg (fun q : XM => [q]) e_m1) ?_
  refine a_iload_n (pc := 5) X 1 dX12_drawn_5 rfl rfl ?_
  refine a_iconst (pc := 6) X dX12_drawn_6 q_ic_1 ?_
  refine a_bipush (pc := 7) X dX12_drawn_7 q_bp_60 ?_
  obtain ⟨y2, e_y2, h⟩ := x_lt_elim h
  refine a_callS (pc := 9) (st2 := [.int y2]) (vs2 := [m1]) X [] [] [.int x0, .int (1 : Int32), .int (60 : Int32)] [] cv_RX12_75 (c_X12_isIn   e_y2) rfl rfl rfl rfl rfl rfl rfl rfl rfl rfl rfl (Nat.le_of_ble_eq_true rfl) ⟨Nat.le_of_ble_eq_true rfl, Nat.le_of_ble_eq_true rfl⟩ dX12_drawn_9 (fun z_9 => ?_)
  refine a_if_ne (pc := 12) X 17 dX12_drawn_12 rfl (fun c_12 => ?_) (fun c_12 => ?_)
  · have h := x_ifn c_12 h
    refine a_aload_n (pc := 17) X 0 dX12_drawn_17 rfl rfl ?_
    refine a_getR (pc := 18) X 0 2 2 fl_RX12_98 rfl rfl rfl rfl rfl dX12_drawn_18 ?_
    refine a_bipush (pc := 21) X dX12_drawn_21 q_bp_70 ?_
    refine a_iald (pc := 23) X 0 rfl rfl rfl (x_inl (by decide)) dX12_drawn_23 ?_
    refine a_sipush (pc := 24) X dX12_drawn_24 q_sp_400 ?_
    refine a_icmp_ne (pc := 27) X 32 dX12_drawn_27 rfl (fun c_27 => ?_) (fun c_27 => ?_)
    · have h := x_ifn c_27 h
      refine a_aload_n (pc := 32) X 0 dX12_drawn_32 rfl rfl ?_
      obtain ⟨y3, e_y3, h⟩ := x_bo_elim h
      refine a_callV (pc := 33) (st2 := []) (vs2 := [y3]) X [(0, 0, 20)] [some y3] 0 0 12 [] [] cv_RX12_301 (c_X12_snap (ad0 := ad0)  e_y3) rfl rfl rfl rfl rfl rfl rfl rfl rfl rfl rfl rfl rfl rfl rfl (Nat.le_of_ble_eq_true rfl) ⟨Nat.le_of_ble_eq_true rfl, Nat.le_of_ble_eq_true rfl⟩ dX12_drawn_33 (fun _ => ?_)
      refine a_aload_n (pc := 36) X 0 dX12_drawn_36 rfl rfl ?_
      refine a_iload_n (pc := 37) X 1 dX12_drawn_37 rfl rfl ?_
      refine a_iload_n (pc := 38) X 2 dX12_drawn_38 rfl rfl ?_
      obtain ⟨y4, e_y4, h⟩ := x_bo_elim h
      refine a_callV (pc := 39) (st2 := [.int y4.1]) (vs2 := [y4.2]) X [(0, 0, 20)] [some y4.2] 0 0 12 [.int x0, .int x1] [] cv_RX12_389 (c_X12_drawHours (ad0 := ad0)  e_y4) rfl rfl rfl rfl rfl rfl rfl rfl rfl rfl rfl rfl rfl rfl rfl (Nat.le_of_ble_eq_true rfl) ⟨Nat.le_of_ble_eq_true rfl, Nat.le_of_ble_eq_true rfl⟩ dX12_drawn_39 (fun _ => ?_)
      have h := Option.some.inj h; subst h
      exact a_iret (pc := 42) X trivial dX12_drawn_42
    · have h := x_ifp c_27 h
      refine a_iconst (pc := 30) X dX12_drawn_30 q_ic_0 ?_
      have h := Option.some.inj h; subst h
      exact a_iret (pc := 31) X trivial dX12_drawn_31
  · have h := x_ifp c_12 h
    refine a_iconst (pc := 15) X dX12_drawn_15 q_ic_m1 ?_
    have h := Option.some.inj h; subst h
    exact a_iret (pc := 16) X trivial dX12_drawn_16
theorem dX12_layAside_0 : decode cX12_layAside 0 = .ok (.iconst 0, 1) := by decide +kernel
theorem dX12_layAside_1 : decode cX12_layAside 1 = .ok (.istore_n 1, 1) := by decide +kernel
theorem dX12_layAside_2 : decode cX12_layAside 2 = .ok (.iload_n 1, 1) := by decide +kernel
theorem dX12_layAside_3 : decode cX12_layAside 3 = .ok (.bipush 41, 2) := by decide +kernel
theorem dX12_layAside_5 : decode cX12_layAside 5 = .ok (.if_icmp .ge 24, 3) := by decide +kernel
theorem dX12_layAside_8 : decode cX12_layAside 8 = .ok (.aload_n 0, 1) := by decide +kernel
theorem dX12_layAside_9 : decode cX12_layAside 9 = .ok (.getfield 110, 3) := by decide +kernel
theorem dX12_layAside_12 : decode cX12_layAside 12 = .ok (.iload_n 1, 1) := by decide +kernel
theorem dX12_layAside_13 : decode cX12_layAside 13 = .ok (.aload_n 0, 1) := by decide +kernel
theorem dX12_layAside_14 : decode cX12_layAside 14 = .ok (.getfield 98, 3) := by decide +kernel
theorem dX12_layAside_17 : decode cX12_layAside 17 = .ok (.bipush 70, 2) := by decide +kernel
theorem dX12_layAside_19 : decode cX12_layAside 19 = .ok (.iload_n 1, 1) := by decide +kernel
theorem dX12_layAside_20 : decode cX12_layAside 20 = .ok (.iadd, 1) := by decide +kernel
theorem dX12_layAside_21 : decode cX12_layAside 21 = .ok (.iaload, 1) := by decide +kernel
theorem dX12_layAside_22 : decode cX12_layAside 22 = .ok (.iastore, 1) := by decide +kernel
theorem dX12_layAside_23 : decode cX12_layAside 23 = .ok (.iinc 1 1, 3) := by decide +kernel
theorem dX12_layAside_26 : decode cX12_layAside 26 = .ok (.goto (-24), 3) := by decide +kernel
theorem dX12_layAside_29 : decode cX12_layAside 29 = .ok (.return_, 1) := by decide +kernel
def f_X12_layAside_2 (k2 : XM → Int32 → Option (XM)) (w0 : XM) (l1 : Int32) : Option (XM) :=
  if ((41 : Int32) : Int32) ≤ l1 then
  (some w0)
  else (x_ck ((70 : Int32) + l1) 353 (
  x_ck l1 41 (
  x_lt (x_pa w0 6 l1 (x_ga w0 2 ((70 : Int32) + l1))) (fun m1 =>
  k2 m1 (l1 + 1)))))
def f_X12_layAside (v0 : XM) : Option (XM) :=
  x_lp (φ := XM → Int32 → Option (XM)) (fun _ _ => none) (f_X12_layAside_2  ) x_NN v0 (0 : Int32)
set_option maxRecDepth 100000 in
set_option maxHeartbeats 4000000 in
theorem w_X12_layAside_2 {p : Program} {l : Launch} {e : Env} {s : State} {m : MethodId} {args : Array Value} {below : List Frame} {meth : Method} {c : Code} {D : va_G} {tc : Nat → ClassId} {aK aV : Nat → Nat} {A : Nat → Prop} {ad0 : Nat → Nat}  (X : Cx p s m args meth c cX12_layAside 2 none RX12 D tc aK aV A [(shModel, ad0)])  {o : XM}  : ∀ (n : Nat), ∀ (w0 : XM) (l1 : Int32), x_lp (φ := XM → Int32 → Option (XM)) (fun _ _ => none) (f_X12_layAside_2  ) n w0 l1 = some o → aW p l e (x_Rm 0) s m args below meth c D tc A 2 [(shModel, ad0)] none True [o] 2 [(0, .ref (ad0 0)), (1, .int l1)] [] [w0] := by
  intro n
  induction n with
  | zero => intro w0 l1 h; exact absurd h (fun q => by cases q)
  | succ n ih =>
    intro w0 l1 h
    have h : f_X12_layAside_2   (x_lp (φ := XM → Int32 → Option (XM)) (fun _ _ => none) (f_X12_layAside_2  ) n) w0 l1 = some o := h
    generalize x_lp (φ := XM → Int32 → Option (XM)) (fun _ _ => none) (f_X12_layAside_2  ) n = k2 at h ih
    have hk2 := ih
    unfold f_X12_layAside_2 at h
    refine a_iload_n (pc := 2) X 1 dX12_layAside_2 rfl rfl ?_
    refine a_bipush (pc := 3) X dX12_layAside_3 q_bp_41 ?_
    refine a_icmp_ge (pc := 5) X 29 dX12_layAside_5 rfl (fun c_5 => ?_) (fun c_5 => ?_)
    · have h := x_ifp c_5 h
      have h := Option.some.inj h; subst h
      exact a_vret (pc := 29) X trivial dX12_layAside_29
    · have h := x_ifn c_5 h
      refine a_aload_n (pc := 8) X 0 dX12_layAside_8 rfl rfl ?_
      refine a_getR (pc := 9) X 0 6 6 fl_RX12_110 rfl rfl rfl rfl rfl dX12_layAside_9 ?_
      refine a_iload_n (pc := 12) X 1 dX12_layAside_12 rfl rfl ?_
      refine a_aload_n (pc := 13) X 0 dX12_layAside_13 rfl rfl ?_
      refine a_getR (pc := 14) X 0 2 2 fl_RX12_98 rfl rfl rfl rfl rfl dX12_layAside_14 ?_
      refine a_bipush (pc := 17) X dX12_layAside_17 q_bp_70 ?_
      refine a_iload_n (pc := 19) X 1 dX12_layAside_19 rfl rfl ?_
      refine a_iadd (pc := 20) X dX12_layAside_20 ?_
      obtain ⟨c_21, h⟩ := x_ck_elim h
      refine a_iald (pc := 21) X 0 rfl rfl rfl c_21 dX12_layAside_21 ?_
      obtain ⟨c_22, h⟩ := x_ck_elim h
      refine a_iast (pc := 22) X 0 rfl rfl rfl c_22 dX12_layAside_22 ?_
      obtain ⟨m1, e_m1, h⟩ := x_lt_elim h
      refine a_nm (vs2 := [m1]) (congrArg (fun q : XM => [q]) e_m1) ?_
      refine a_iinc (pc := 23) X 1 [(1, .int (l1 + 1)), (0, .ref (ad0 0))] dX12_layAside_23 rfl (congrArg (HAdd.hAdd l1) q_ic_1) (by decide) rfl ?_
      refine a_goto (pc := 26) X 2 dX12_layAside_26 rfl ?_
      refine a_sub [1, 0] rfl ?_
      exact hk2 _ _ h
set_option maxRecDepth 100000 in
set_option maxHeartbeats 4000000 in
theorem c_X12_layAside {l : Launch}  {ad0 : Nat → Nat} {v0 : XM}   {o : XM} (h : f_X12_layAside v0 = some o) : CT l yX12_layAside cX12_layAside 2 none 0 [(shModel, ad0)] [v0] (fun aK => [.ref (ad0 0)]) none True [o] := by
  refine CT_of (by decide) (fun _ => Nat.le_of_ble_eq_true rfl) ?_
  intro p e s m args below meth c D tc aK aV A X
  have X : Cx p s m args meth c cX12_layAside 2 none RX12 D tc aK aV A [(shModel, ad0)] := X
  show aW p l e (x_Rm 0) s m args below meth c D tc A 2 [(shModel, ad0)] none True [o] 0 [(0, .ref (ad0 0))] [] [v0]
  unfold f_X12_layAside at h
  refine a_iconst (pc := 0) X dX12_layAside_0 q_ic_0 ?_
  refine a_istore_n (pc := 1) X [(1, .int (0 : Int32)), (0, .ref (ad0 0))] dX12_layAside_1 rfl (by decide) rfl ?_
  refine a_sub [1, 0] rfl ?_
  exact w_X12_layAside_2 X    x_NN _ _ h
theorem dX12_takeBack_0 : decode cX12_takeBack 0 = .ok (.iconst 0, 1) := by decide +kernel
theorem dX12_takeBack_1 : decode cX12_takeBack 1 = .ok (.istore_n 1, 1) := by decide +kernel
theorem dX12_takeBack_2 : decode cX12_takeBack 2 = .ok (.iload_n 1, 1) := by decide +kernel
theorem dX12_takeBack_3 : decode cX12_takeBack 3 = .ok (.bipush 41, 2) := by decide +kernel
theorem dX12_takeBack_5 : decode cX12_takeBack 5 = .ok (.if_icmp .ge 24, 3) := by decide +kernel
theorem dX12_takeBack_8 : decode cX12_takeBack 8 = .ok (.aload_n 0, 1) := by decide +kernel
theorem dX12_takeBack_9 : decode cX12_takeBack 9 = .ok (.getfield 98, 3) := by decide +kernel
theorem dX12_takeBack_12 : decode cX12_takeBack 12 = .ok (.bipush 70, 2) := by decide +kernel
theorem dX12_takeBack_14 : decode cX12_takeBack 14 = .ok (.iload_n 1, 1) := by decide +kernel
theorem dX12_takeBack_15 : decode cX12_takeBack 15 = .ok (.iadd, 1) := by decide +kernel
theorem dX12_takeBack_16 : decode cX12_takeBack 16 = .ok (.aload_n 0, 1) := by decide +kernel
theorem dX12_takeBack_17 : decode cX12_takeBack 17 = .ok (.getfield 110, 3) := by decide +kernel
theorem dX12_takeBack_20 : decode cX12_takeBack 20 = .ok (.iload_n 1, 1) := by decide +kernel
theorem dX12_takeBack_21 : decode cX12_takeBack 21 = .ok (.iaload, 1) := by decide +kernel
theorem dX12_takeBack_22 : decode cX12_takeBack 22 = .ok (.iastore, 1) := by decide +kernel
theorem dX12_takeBack_23 : decode cX12_takeBack 23 = .ok (.iinc 1 1, 3) := by decide +kernel
theorem dX12_takeBack_26 : decode cX12_takeBack 26 = .ok (.goto (-24), 3) := by decide +kernel
theorem dX12_takeBack_29 : decode cX12_takeBack 29 = .ok (.return_, 1) := by decide +kernel
def f_X12_takeBack_2 (k2 : XM → Int32 → Option (XM)) (w0 : XM) (l1 : Int32) : Option (XM) :=
  if ((41 : Int32) : Int32) ≤ l1 then
  (some w0)
  else (x_ck l1 41 (
  x_ck ((70 : Int32) + l1) 353 (
  x_lt (x_pa w0 2 ((70 : Int32) + l1) (x_ga w0 6 l1)) (fun m1 =>
  k2 m1 (l1 + 1)))))
def f_X12_takeBack (v0 : XM) : Option (XM) :=
  x_lp (φ := XM → Int32 → Option (XM)) (fun _ _ => none) (f_X12_takeBack_2  ) x_NN v0 (0 : Int32)
set_option maxRecDepth 100000 in
set_option maxHeartbeats 4000000 in
theorem w_X12_takeBack_2 {p : Program} {l : Launch} {e : Env} {s : State} {m : MethodId} {args : Array Value} {below : List Frame} {meth : Method} {c : Code} {D : va_G} {tc : Nat → ClassId} {aK aV : Nat → Nat} {A : Nat → Prop} {ad0 : Nat → Nat}  (X : Cx p s m args meth c cX12_takeBack 2 none RX12 D tc aK aV A [(shModel, ad0)])  {o : XM}  : ∀ (n : Nat), ∀ (w0 : XM) (l1 : Int32), x_lp (φ := XM → Int32 → Option (XM)) (fun _ _ => none) (f_X12_takeBack_2  ) n w0 l1 = some o → aW p l e (x_Rm 0) s m args below meth c D tc A 2 [(shModel, ad0)] none True [o] 2 [(0, .ref (ad0 0)), (1, .int l1)] [] [w0] := by
  intro n
  induction n with
  | zero => intro w0 l1 h; exact absurd h (fun q => by cases q)
  | succ n ih =>
    intro w0 l1 h
    have h : f_X12_takeBack_2   (x_lp (φ := XM → Int32 → Option (XM)) (fun _ _ => none) (f_X12_takeBack_2  ) n) w0 l1 = some o := h
    generalize x_lp (φ := XM → Int32 → Option (XM)) (fun _ _ => none) (f_X12_takeBack_2  ) n = k2 at h ih
    have hk2 := ih
    unfold f_X12_takeBack_2 at h
    refine a_iload_n (pc := 2) X 1 dX12_takeBack_2 rfl rfl ?_
    refine a_bipush (pc := 3) X dX12_takeBack_3 q_bp_41 ?_
    refine a_icmp_ge (pc := 5) X 29 dX12_takeBack_5 rfl (fun c_5 => ?_) (fun c_5 => ?_)
    · have h := x_ifp c_5 h
      have h := Option.some.inj h; subst h
      exact a_vret (pc := 29) X trivial dX12_takeBack_29
    · have h := x_ifn c_5 h
      refine a_aload_n (pc := 8) X 0 dX12_takeBack_8 rfl rfl ?_
      refine a_getR (pc := 9) X 0 2 2 fl_RX12_98 rfl rfl rfl rfl rfl dX12_takeBack_9 ?_
      refine a_bipush (pc := 12) X dX12_takeBack_12 q_bp_70 ?_
      refine a_iload_n (pc := 14) X 1 dX12_takeBack_14 rfl rfl ?_
      refine a_iadd (pc := 15) X dX12_takeBack_15 ?_
      refine a_aload_n (pc := 16) X 0 dX12_takeBack_16 rfl rfl ?_
      refine a_getR (pc := 17) X 0 6 6 fl_RX12_110 rfl rfl rfl rfl rfl dX12_takeBack_17 ?_
      refine a_iload_n (pc := 20) X 1 dX12_takeBack_20 rfl rfl ?_
      obtain ⟨c_21, h⟩ := x_ck_elim h
      refine a_iald (pc := 21) X 0 rfl rfl rfl c_21 dX12_takeBack_21 ?_
      obtain ⟨c_22, h⟩ := x_ck_elim h
      refine a_iast (pc := 22) X 0 rfl rfl rfl c_22 dX12_takeBack_22 ?_
      obtain ⟨m1, e_m1, h⟩ := x_lt_elim h
      refine a_nm (vs2 := [m1]) (congrArg (fun q : XM => [q]) e_m1) ?_
      refine a_iinc (pc := 23) X 1 [(1, .int (l1 + 1)), (0, .ref (ad0 0))] dX12_takeBack_23 rfl (congrArg (HAdd.hAdd l1) q_ic_1) (by decide) rfl ?_
      refine a_goto (pc := 26) X 2 dX12_takeBack_26 rfl ?_
      refine a_sub [1, 0] rfl ?_
      exact hk2 _ _ h
set_option maxRecDepth 100000 in
set_option maxHeartbeats 4000000 in
theorem c_X12_takeBack {l : Launch}  {ad0 : Nat → Nat} {v0 : XM}   {o : XM} (h : f_X12_takeBack v0 = some o) : CT l yX12_takeBack cX12_takeBack 2 none 0 [(shModel, ad0)] [v0] (fun aK => [.ref (ad0 0)]) none True [o] := by
  refine CT_of (by decide) (fun _ => Nat.le_of_ble_eq_true rfl) ?_
  intro p e s m args below meth c D tc aK aV A X
  have X : Cx p s m args meth c cX12_takeBack 2 none RX12 D tc aK aV A [(shModel, ad0)] := X
  show aW p l e (x_Rm 0) s m args below meth c D tc A 2 [(shModel, ad0)] none True [o] 0 [(0, .ref (ad0 0))] [] [v0]
  unfold f_X12_takeBack at h
  refine a_iconst (pc := 0) X dX12_takeBack_0 q_ic_0 ?_
  refine a_istore_n (pc := 1) X [(1, .int (0 : Int32)), (0, .ref (ad0 0))] dX12_takeBack_1 rfl (by decide) rfl ?_
  refine a_sub [1, 0] rfl ?_
  exact w_X12_takeBack_2 X    x_NN _ _ h
theorem dX12_odds_0 : decode cX12_odds 0 = .ok (.aload_n 0, 1) := by decide +kernel
theorem dX12_odds_1 : decode cX12_odds 1 = .ok (.iconst 0, 1) := by decide +kernel
theorem dX12_odds_2 : decode cX12_odds 2 = .ok (.putfield 1, 3) := by decide +kernel
theorem dX12_odds_5 : decode cX12_odds 5 = .ok (.aload_n 0, 1) := by decide +kernel
theorem dX12_odds_6 : decode cX12_odds 6 = .ok (.iload_n 1, 1) := by decide +kernel
theorem dX12_odds_7 : decode cX12_odds 7 = .ok (.invokevirtual 237, 3) := by decide +kernel
theorem dX12_odds_10 : decode cX12_odds 10 = .ok (.ifCond .eq 13, 3) := by decide +kernel
theorem dX12_odds_13 : decode cX12_odds 13 = .ok (.iload_n 2, 1) := by decide +kernel
theorem dX12_odds_14 : decode cX12_odds 14 = .ok (.iconst 1, 1) := by decide +kernel
theorem dX12_odds_15 : decode cX12_odds 15 = .ok (.bipush 30, 2) := by decide +kernel
theorem dX12_odds_17 : decode cX12_odds 17 = .ok (.invokestatic 75, 3) := by decide +kernel
theorem dX12_odds_20 : decode cX12_odds 20 = .ok (.ifCond .ne 5, 3) := by decide +kernel
theorem dX12_odds_23 : decode cX12_odds 23 = .ok (.iconst (-1), 1) := by decide +kernel
theorem dX12_odds_24 : decode cX12_odds 24 = .ok (.ireturn, 1) := by decide +kernel
theorem dX12_odds_25 : decode cX12_odds 25 = .ok (.aload_n 0, 1) := by decide +kernel
theorem dX12_odds_26 : decode cX12_odds 26 = .ok (.invokevirtual 392, 3) := by decide +kernel
theorem dX12_odds_29 : decode cX12_odds 29 = .ok (.iconst 0, 1) := by decide +kernel
theorem dX12_odds_30 : decode cX12_odds 30 = .ok (.istore 4, 2) := by decide +kernel
theorem dX12_odds_32 : decode cX12_odds 32 = .ok (.iconst 0, 1) := by decide +kernel
theorem dX12_odds_33 : decode cX12_odds 33 = .ok (.istore 5, 2) := by decide +kernel
theorem dX12_odds_35 : decode cX12_odds 35 = .ok (.iload 5, 2) := by decide +kernel
theorem dX12_odds_37 : decode cX12_odds 37 = .ok (.iload_n 2, 1) := by decide +kernel
theorem dX12_odds_38 : decode cX12_odds 38 = .ok (.if_icmp .ge 51, 3) := by decide +kernel
theorem dX12_odds_41 : decode cX12_odds 41 = .ok (.aload_n 0, 1) := by decide +kernel
theorem dX12_odds_42 : decode cX12_odds 42 = .ok (.bipush 20, 2) := by decide +kernel
theorem dX12_odds_44 : decode cX12_odds 44 = .ok (.iload_n 3, 1) := by decide +kernel
theorem dX12_odds_45 : decode cX12_odds 45 = .ok (.iload 5, 2) := by decide +kernel
theorem dX12_odds_47 : decode cX12_odds 47 = .ok (.iadd, 1) := by decide +kernel
theorem dX12_odds_48 : decode cX12_odds 48 = .ok (.invokevirtual 389, 3) := by decide +kernel
theorem dX12_odds_51 : decode cX12_odds 51 = .ok (.pop, 1) := by decide +kernel
theorem dX12_odds_52 : decode cX12_odds 52 = .ok (.aload_n 0, 1) := by decide +kernel
theorem dX12_odds_53 : decode cX12_odds 53 = .ok (.getfield 98, 3) := by decide +kernel
theorem dX12_odds_56 : decode cX12_odds 56 = .ok (.bipush 94, 2) := by decide +kernel
theorem dX12_odds_58 : decode cX12_odds 58 = .ok (.iload_n 1, 1) := by decide +kernel
theorem dX12_odds_59 : decode cX12_odds 59 = .ok (.iadd, 1) := by decide +kernel
theorem dX12_odds_60 : decode cX12_odds 60 = .ok (.iaload, 1) := by decide +kernel
theorem dX12_odds_61 : decode cX12_odds 61 = .ok (.aload_n 0, 1) := by decide +kernel
theorem dX12_odds_62 : decode cX12_odds 62 = .ok (.getfield 110, 3) := by decide +kernel
theorem dX12_odds_65 : decode cX12_odds 65 = .ok (.bipush 24, 2) := by decide +kernel
theorem dX12_odds_67 : decode cX12_odds 67 = .ok (.iload_n 1, 1) := by decide +kernel
theorem dX12_odds_68 : decode cX12_odds 68 = .ok (.iadd, 1) := by decide +kernel
theorem dX12_odds_69 : decode cX12_odds 69 = .ok (.iaload, 1) := by decide +kernel
theorem dX12_odds_70 : decode cX12_odds 70 = .ok (.iconst (-1), 1) := by decide +kernel
theorem dX12_odds_71 : decode cX12_odds 71 = .ok (.ixor, 1) := by decide +kernel
theorem dX12_odds_72 : decode cX12_odds 72 = .ok (.iand, 1) := by decide +kernel
theorem dX12_odds_73 : decode cX12_odds 73 = .ok (.ifCond .eq 6, 3) := by decide +kernel
theorem dX12_odds_76 : decode cX12_odds 76 = .ok (.iinc 4 1, 3) := by decide +kernel
theorem dX12_odds_79 : decode cX12_odds 79 = .ok (.aload_n 0, 1) := by decide +kernel
theorem dX12_odds_80 : decode cX12_odds 80 = .ok (.invokevirtual 395, 3) := by decide +kernel
theorem dX12_odds_83 : decode cX12_odds 83 = .ok (.iinc 5 1, 3) := by decide +kernel
theorem dX12_odds_86 : decode cX12_odds 86 = .ok (.goto (-51), 3) := by decide +kernel
theorem dX12_odds_89 : decode cX12_odds 89 = .ok (.iload 4, 2) := by decide +kernel
theorem dX12_odds_91 : decode cX12_odds 91 = .ok (.ireturn, 1) := by decide +kernel
def f_X12_odds_79 (k35 : XM → Int32 → Int32 → Int32 → Int32 → Int32 → Option (Int32 × XM)) (w0 : XM) (l1 : Int32) (l2 : Int32) (l3 : Int32) (l4 : Int32) (l5 : Int32) : Option (Int32 × XM) :=
  x_bo (f_X12_takeBack w0) (fun y1 =>
  k35 y1 l1 l2 l3 l4 (l5 + 1))
def f_X12_odds_35 (k35 : XM → Int32 → Int32 → Int32 → Int32 → Int32 → Option (Int32 × XM)) (w0 : XM) (l1 : Int32) (l2 : Int32) (l3 : Int32) (l4 : Int32) (l5 : Int32) : Option (Int32 × XM) :=
  if (l2 : Int32) ≤ l5 then
  (some (l4, w0))
  else (x_bo (f_X12_drawHours w0 (20 : Int32) (l3 + l5)) (fun y2 =>
  x_ck ((94 : Int32) + l1) 353 (
  x_ck ((24 : Int32) + l1) 41 (
  x_lt ((x_ga y2.2 6 ((24 : Int32) + l1)) ^^^ (-1 : Int32)) (fun y3 =>
  if ((x_ga y2.2 2 ((94 : Int32) + l1)) &&& y3) = (0 : Int32) then
  (f_X12_odds_79  k35 y2.2 l1 l2 l3 l4 l5)
  else (f_X12_odds_79  k35 y2.2 l1 l2 l3 (l4 + 1) l5))))))
def f_X12_odds (v0 : XM) (x0 : Int32) (x1 : Int32) (x2 : Int32) : Option (Int32 × XM) :=
  x_lt (x_si v0 0 0 (0 : Int32)) (fun m4 =>
  x_lt (f_X12_isWalker m4 x0) (fun y5 =>
  if y5 = (0 : Int32) then
  (some ((-1 : Int32), m4))
  else (x_lt (f_X12_isIn x1 (1 : Int32) (30 : Int32)) (fun y6 =>
  if y6 = (0 : Int32) then
  (some ((-1 : Int32), m4))
  else (x_bo (f_X12_layAside m4) (fun y7 =>
  x_lp (φ := XM → Int32 → Int32 → Int32 → Int32 → Int32 → Option (Int32 × XM)) (fun _ _ _ _ _ _ => none) (f_X12_odds_35  ) x_NN y7 x0 x1 x2 (0 : Int32) (0 : Int32)))))))
set_option maxRecDepth 100000 in
set_option maxHeartbeats 4000000 in
theorem w_X12_odds_79 {p : Program} {l : Launch} {e : Env} {s : State} {m : MethodId} {args : Array Value} {below : List Frame} {meth : Method} {c : Code} {D : va_G} {tc : Nat → ClassId} {aK aV : Nat → Nat} {A : Nat → Prop} {ad0 : Nat → Nat}  (X : Cx p s m args meth c cX12_odds 6 (some .int) RX12 D tc aK aV A [(shModel, ad0)])  {o : Int32 × XM} {k35 : XM → Int32 → Int32 → Int32 → Int32 → Int32 → Option (Int32 × XM)} (hk35 : ∀ (w0 : XM) (l1 : Int32) (l2 : Int32) (l3 : Int32) (l4 : Int32) (l5 : Int32), k35 w0 l1 l2 l3 l4 l5 = some o → aW p l e (x_Rm 9) s m args below meth c D tc A 6 [(shModel, ad0)] (some (.int o.1)) True [o.2] 35 [(0, .ref (ad0 0)), (1, .int l1), (2, .int l2), (3, .int l3), (4, .int l4), (5, .int l5)] [] [w0]) {w0 : XM} {l1 : Int32} {l2 : Int32} {l3 : Int32} {l4 : Int32} {l5 : Int32}  (h : f_X12_odds_79  k35 w0 l1 l2 l3 l4 l5 = some o) : aW p l e (x_Rm 9) s m args below meth c D tc A 6 [(shModel, ad0)] (some (.int o.1)) True [o.2] 79 [(0, .ref (ad0 0)), (1, .int l1), (2, .int l2), (3, .int l3), (4, .int l4), (5, .int l5)] [] [w0] := by
  unfold f_X12_odds_79 at h
  refine a_aload_n (pc := 79) X 0 dX12_odds_79 rfl rfl ?_
  obtain ⟨y1, e_y1, h⟩ := x_bo_elim h
  refine a_callV (pc := 80) (st2 := []) (vs2 := [y1]) X [(0, 0, 20)] [some y1] 0 0 12 [] [] cv_RX12_395 (c_X12_takeBack (ad0 := ad0)  e_y1) rfl rfl rfl rfl rfl rfl rfl rfl rfl rfl rfl rfl rfl rfl rfl (Nat.le_of_ble_eq_true rfl) ⟨Nat.le_of_ble_eq_true rfl, Nat.le_of_ble_eq_true rfl⟩ dX12_odds_80 (fun _ => ?_)
  refine a_iinc (pc := 83) X 5 [(5, .int (l5 + 1)), (0, .ref (ad0 0)), (1, .int l1), (2, .int l2), (3, .int l3), (4, .int l4)] dX12_odds_83 rfl (congrArg (HAdd.hAdd l5) q_ic_1) (by decide) rfl ?_
  refine a_goto (pc := 86) X 35 dX12_odds_86 rfl ?_
  refine a_sub [1, 2, 3, 4, 5, 0] rfl ?_
  exact hk35 _ _ _ _ _ _ h
set_option maxRecDepth 100000 in
set_option maxHeartbeats 4000000 in
theorem w_X12_odds_35 {p : Program} {l : Launch} {e : Env} {s : State} {m : MethodId} {args : Array Value} {below : List Frame} {meth : Method} {c : Code} {D : va_G} {tc : Nat → ClassId} {aK aV : Nat → Nat} {A : Nat → Prop} {ad0 : Nat → Nat}  (X : Cx p s m args meth c cX12_odds 6 (some .int) RX12 D tc aK aV A [(shModel, ad0)])  {o : Int32 × XM}  : ∀ (n : Nat), ∀ (w0 : XM) (l1 : Int32) (l2 : Int32) (l3 : Int32) (l4 : Int32) (l5 : Int32), x_lp (φ := XM → Int32 → Int32 → Int32 → Int32 → Int32 → Option (Int32 × XM)) (fun _ _ _ _ _ _ => none) (f_X12_odds_35  ) n w0 l1 l2 l3 l4 l5 = some o → aW p l e (x_Rm 9) s m args below meth c D tc A 6 [(shModel, ad0)] (some (.int o.1)) True [o.2] 35 [(0, .ref (ad0 0)), (1, .int l1), (2, .int l2), (3, .int l3), (4, .int l4), (5, .int l5)] [] [w0] := by
  intro n
  induction n with
  | zero => intro w0 l1 l2 l3 l4 l5 h; exact absurd h (fun q => by cases q)
  | succ n ih =>
    intro w0 l1 l2 l3 l4 l5 h
    have h : f_X12_odds_35   (x_lp (φ := XM → Int32 → Int32 → Int32 → Int32 → Int32 → Option (Int32 × XM)) (fun _ _ _ _ _ _ => none) (f_X12_odds_35  ) n) w0 l1 l2 l3 l4 l5 = some o := h
    generalize x_lp (φ := XM → Int32 → Int32 → Int32 → Int32 → Int32 → Option (Int32 × XM)) (fun _ _ _ _ _ _ => none) (f_X12_odds_35  ) n = k35 at h ih
    have hk35 := ih
    unfold f_X12_odds_35 at h
    refine a_iload (pc := 35) X 5 dX12_odds_35 rfl ?_
    refine a_iload_n (pc := 37) X 2 dX12_odds_37 rfl rfl ?_
    refine a_icmp_ge (pc := 38) X 89 dX12_odds_38 rfl (fun c_38 => ?_) (fun c_38 => ?_)
    · have h := x_ifp c_38 h
      refine a_iload (pc := 89) X 4 dX12_odds_89 rfl ?_
      have h := Option.some.inj h; subst h
      exact a_iret (pc := 91) X trivial dX12_odds_91
    · have h := x_ifn c_38 h
      refine a_aload_n (pc := 41) X 0 dX12_odds_41 rfl rfl ?_
      refine a_bipush (pc := 42) X dX12_odds_42 q_bp_20 ?_
      refine a_iload_n (pc := 44) X 3 dX12_odds_44 rfl rfl ?_
      refine a_iload (pc := 45) X 5 dX12_odds_45 rfl ?_
      refine a_iadd (pc := 47) X dX12_odds_47 ?_
      obtain ⟨y2, e_y2, h⟩ := x_bo_elim h
      refine a_callV (pc := 48) (st2 := [.int y2.1]) (vs2 := [y2.2]) X [(0, 0, 20)] [some y2.2] 0 0 12 [.int (20 : Int32), .int (l3 + l5)] [] cv_RX12_389 (c_X12_drawHours (ad0 := ad0)  e_y2) rfl rfl rfl rfl rfl rfl rfl rfl rfl rfl rfl rfl rfl rfl rfl (Nat.le_of_ble_eq_true rfl) ⟨Nat.le_of_ble_eq_true rfl, Nat.le_of_ble_eq_true rfl⟩ dX12_odds_48 (fun _ => ?_)
      refine a_pop (pc := 51) X dX12_odds_51 rfl ?_
      refine a_aload_n (pc := 52) X 0 dX12_odds_52 rfl rfl ?_
      refine a_getR (pc := 53) X 0 2 2 fl_RX12_98 rfl rfl rfl rfl rfl dX12_odds_53 ?_
      refine a_bipush (pc := 56) X dX12_odds_56 q_bp_94 ?_
      refine a_iload_n (pc := 58) X 1 dX12_odds_58 rfl rfl ?_
      refine a_iadd (pc := 59) X dX12_odds_59 ?_
      obtain ⟨c_60, h⟩ := x_ck_elim h
      refine a_iald (pc := 60) X 0 rfl rfl rfl c_60 dX12_odds_60 ?_
      refine a_aload_n (pc := 61) X 0 dX12_odds_61 rfl rfl ?_
      refine a_getR (pc := 62) X 0 6 6 fl_RX12_110 rfl rfl rfl rfl rfl dX12_odds_62 ?_
      refine a_bipush (pc := 65) X dX12_odds_65 q_bp_24 ?_
      refine a_iload_n (pc := 67) X 1 dX12_odds_67 rfl rfl ?_
      refine a_iadd (pc := 68) X dX12_odds_68 ?_
      obtain ⟨c_69, h⟩ := x_ck_elim h
      refine a_iald (pc := 69) X 0 rfl rfl rfl c_69 dX12_odds_69 ?_
      refine a_iconst (pc := 70) X dX12_odds_70 q_ic_m1 ?_
      refine a_ixor (pc := 71) X dX12_odds_71 ?_
      obtain ⟨y3, e_y3, h⟩ := x_lt_elim h
      refine a_ni e_y3 ?_
      refine a_iand (pc := 72) X dX12_odds_72 ?_
      refine a_if_eq (pc := 73) X 79 dX12_odds_73 rfl (fun c_73 => ?_) (fun c_73 => ?_)
      · have h := x_ifp c_73 h
        exact w_X12_odds_79 X   hk35  h
      · have h := x_ifn c_73 h
        refine a_iinc (pc := 76) X 4 [(4, .int (l4 + 1)), (0, .ref (ad0 0)), (1, .int l1), (2, .int l2), (3, .int l3), (5, .int l5)] dX12_odds_76 rfl (congrArg (HAdd.hAdd l4) q_ic_1) (by decide) rfl ?_
        refine a_sub [1, 2, 3, 4, 0, 5] rfl ?_
        exact w_X12_odds_79 X   hk35  h
set_option maxRecDepth 100000 in
set_option maxHeartbeats 4000000 in
theorem c_X12_odds {l : Launch}  {ad0 : Nat → Nat} {v0 : XM} {x0 : Int32} {x1 : Int32} {x2 : Int32}  {o : Int32 × XM} (h : f_X12_odds v0 x0 x1 x2 = some o) : CT l yX12_odds cX12_odds 6 (some .int) 9 [(shModel, ad0)] [v0] (fun aK => [.ref (ad0 0), .int x0, .int x1, .int x2]) (some (.int o.1)) True [o.2] := by
  refine CT_of (by decide) (fun _ => Nat.le_of_ble_eq_true rfl) ?_
  intro p e s m args below meth c D tc aK aV A X
  have X : Cx p s m args meth c cX12_odds 6 (some .int) RX12 D tc aK aV A [(shModel, ad0)] := X
  show aW p l e (x_Rm 9) s m args below meth c D tc A 6 [(shModel, ad0)] (some (.int o.1)) True [o.2] 0 [(0, .ref (ad0 0)), (1, .int x0), (2, .int x1), (3, .int x2)] [] [v0]
  unfold f_X12_odds at h
  refine a_aload_n (pc := 0) X 0 dX12_odds_0 rfl rfl ?_
  refine a_iconst (pc := 1) X dX12_odds_1 q_ic_0 ?_
  refine a_putI (pc := 2) X 0 fl_RX12_1 rfl rfl rfl rfl dX12_odds_2 ?_
  obtain ⟨m4, e_m4, h⟩ := x_lt_elim h
  refine a_nm (vs2 := [m4]) (congrArg (fun q : XM => [q]) e_m4) ?_
  refine a_aload_n (pc := 5) X 0 dX12_odds_5 rfl rfl ?_
  refine a_iload_n (pc := 6) X 1 dX12_odds_6 rfl rfl ?_
  obtain ⟨y5, e_y5, h⟩ := x_lt_elim h
  refine a_callV (pc := 7) (st2 := [.int y5]) (vs2 := [m4]) X [(0, 0, 20)] [none] 0 0 12 [.int x0] [] cv_RX12_237 (c_X12_isWalker (ad0 := ad0)  e_y5) rfl rfl rfl rfl rfl rfl rfl rfl rfl rfl rfl rfl rfl rfl rfl (Nat.le_of_ble_eq_true rfl) ⟨Nat.le_of_ble_eq_true rfl, Nat.le_of_ble_eq_true rfl⟩ dX12_odds_7 (fun z_7 => ?_)
  refine a_if_eq (pc := 10) X 23 dX12_odds_10 rfl (fun c_10 => ?_) (fun c_10 => ?_)
  · have h := x_ifp c_10 h
    refine a_iconst (pc := 23) X dX12_odds_23 q_ic_m1 ?_
    have h := Option.some.inj h; subst h
    exact a_iret (pc := 24) X trivial dX12_odds_24
  · have h := x_ifn c_10 h
    refine a_iload_n (pc := 13) X 2 dX12_odds_13 rfl rfl ?_
    refine a_iconst (pc := 14) X dX12_odds_14 q_ic_1 ?_
    refine a_bipush (pc := 15) X dX12_odds_15 q_bp_30 ?_
    obtain ⟨y6, e_y6, h⟩ := x_lt_elim h
    refine a_callS (pc := 17) (st2 := [.int y6]) (vs2 := [m4]) X [] [] [.int x1, .int (1 : Int32), .int (30 : Int32)] [] cv_RX12_75 (c_X12_isIn   e_y6) rfl rfl rfl rfl rfl rfl rfl rfl rfl rfl rfl (Nat.le_of_ble_eq_true rfl) ⟨Nat.le_of_ble_eq_true rfl, Nat.le_of_ble_eq_true rfl⟩ dX12_odds_17 (fun z_17 => ?_)
    refine a_if_ne (pc := 20) X 25 dX12_odds_20 rfl (fun c_20 => ?_) (fun c_20 => ?_)
    · have h := x_ifn c_20 h
      refine a_aload_n (pc := 25) X 0 dX12_odds_25 rfl rfl ?_
      obtain ⟨y7, e_y7, h⟩ := x_bo_elim h
      refine a_callV (pc := 26) (st2 := []) (vs2 := [y7]) X [(0, 0, 20)] [some y7] 0 0 12 [] [] cv_RX12_392 (c_X12_layAside (ad0 := ad0)  e_y7) rfl rfl rfl rfl rfl rfl rfl rfl rfl rfl rfl rfl rfl rfl rfl (Nat.le_of_ble_eq_true rfl) ⟨Nat.le_of_ble_eq_true rfl, Nat.le_of_ble_eq_true rfl⟩ dX12_odds_26 (fun _ => ?_)
      refine a_iconst (pc := 29) X dX12_odds_29 q_ic_0 ?_
      refine a_istore (pc := 30) X [(4, .int (0 : Int32)), (0, .ref (ad0 0)), (1, .int x0), (2, .int x1), (3, .int x2)] dX12_odds_30 (by decide) rfl ?_
      refine a_iconst (pc := 32) X dX12_odds_32 q_ic_0 ?_
      refine a_istore (pc := 33) X [(5, .int (0 : Int32)), (4, .int (0 : Int32)), (0, .ref (ad0 0)), (1, .int x0), (2, .int x1), (3, .int x2)] dX12_odds_33 (by decide) rfl ?_
      refine a_sub [2, 3, 4, 5, 1, 0] rfl ?_
      exact w_X12_odds_35 X    x_NN _ _ _ _ _ _ h
    · have h := x_ifp c_20 h
      refine a_iconst (pc := 23) X dX12_odds_23 q_ic_m1 ?_
      have h := Option.some.inj h; subst h
      exact a_iret (pc := 24) X trivial dX12_odds_24
theorem dX12_keep_0 : decode cX12_keep 0 = .ok (.iload_n 2, 1) := by decide +kernel
theorem dX12_keep_1 : decode cX12_keep 1 = .ok (.ifCond .eq 13, 3) := by decide +kernel
theorem dX12_keep_4 : decode cX12_keep 4 = .ok (.aload_n 0, 1) := by decide +kernel
theorem dX12_keep_5 : decode cX12_keep 5 = .ok (.getfield 154, 3) := by decide +kernel
theorem dX12_keep_8 : decode cX12_keep 8 = .ok (.iload_n 1, 1) := by decide +kernel
theorem dX12_keep_9 : decode cX12_keep 9 = .ok (.aload_n 0, 1) := by decide +kernel
theorem dX12_keep_10 : decode cX12_keep 10 = .ok (.getfield 79, 3) := by decide +kernel
theorem dX12_keep_13 : decode cX12_keep 13 = .ok (.iastore, 1) := by decide +kernel
theorem dX12_keep_14 : decode cX12_keep 14 = .ok (.iload_n 2, 1) := by decide +kernel
theorem dX12_keep_15 : decode cX12_keep 15 = .ok (.ireturn, 1) := by decide +kernel
def f_X12_keep (v0 : XM) (x0 : Int32) (x1 : Int32) : Option (Int32 × XM) :=
  if x1 = (0 : Int32) then
  (some (x1, v0))
  else (x_ck x0 120 (
  x_lt (x_pa v0 17 x0 (v0.1 0 13)) (fun m1 =>
  some (x1, m1))))
set_option maxRecDepth 100000 in
set_option maxHeartbeats 4000000 in
theorem c_X12_keep {l : Launch}  {ad0 : Nat → Nat} {v0 : XM} {x0 : Int32} {x1 : Int32} (hz1 : x_Z x1) {o : Int32 × XM} (h : f_X12_keep v0 x0 x1 = some o) : CT l yX12_keep cX12_keep 3 (some .boolean) 0 [(shModel, ad0)] [v0] (fun aK => [.ref (ad0 0), .int x0, .int x1]) (some (.int o.1)) (x_Z o.1) [o.2] := by
  refine CT_of (by decide) (fun _ => Nat.le_of_ble_eq_true rfl) ?_
  intro p e s m args below meth c D tc aK aV A X
  have X : Cx p s m args meth c cX12_keep 3 (some .boolean) RX12 D tc aK aV A [(shModel, ad0)] := X
  show aW p l e (x_Rm 0) s m args below meth c D tc A 3 [(shModel, ad0)] (some (.int o.1)) (x_Z o.1) [o.2] 0 [(0, .ref (ad0 0)), (1, .int x0), (2, .int x1)] [] [v0]
  unfold f_X12_keep at h
  refine a_iload_n (pc := 0) X 2 dX12_keep_0 rfl rfl ?_
  refine a_if_eq (pc := 1) X 14 dX12_keep_1 rfl (fun c_1 => ?_) (fun c_1 => ?_)
  · have h := x_ifp c_1 h
    refine a_iload_n (pc := 14) X 2 dX12_keep_14 rfl rfl ?_
    have h := Option.some.inj h; subst h
    exact a_zret (pc := 15) X hz1 hz1 dX12_keep_15
  · have h := x_ifn c_1 h
    refine a_aload_n (pc := 4) X 0 dX12_keep_4 rfl rfl ?_
    refine a_getR (pc := 5) X 0 17 17 fl_RX12_154 rfl rfl rfl rfl rfl dX12_keep_5 ?_
    refine a_iload_n (pc := 8) X 1 dX12_keep_8 rfl rfl ?_
    refine a_aload_n (pc := 9) X 0 dX12_keep_9 rfl rfl ?_
    refine a_getI (pc := 10) X 0 fl_RX12_79 rfl rfl rfl rfl dX12_keep_10 ?_
    obtain ⟨c_13, h⟩ := x_ck_elim h
    refine a_iast (pc := 13) X 0 rfl rfl rfl c_13 dX12_keep_13 ?_
    obtain ⟨m1, e_m1, h⟩ := x_lt_elim h
    refine a_nm (vs2 := [m1]) (congrArg (fun q : XM => [q]) e_m1) ?_
    refine a_iload_n (pc := 14) X 2 dX12_keep_14 rfl rfl ?_
    have h := Option.some.inj h; subst h
    exact a_zret (pc := 15) X hz1 hz1 dX12_keep_15
theorem dX12_readNamed_0 : decode cX12_readNamed 0 = .ok (.aload_n 0, 1) := by decide +kernel
theorem dX12_readNamed_1 : decode cX12_readNamed 1 = .ok (.invokevirtual 170, 3) := by decide +kernel
theorem dX12_readNamed_4 : decode cX12_readNamed 4 = .ok (.ifCond .ne 9, 3) := by decide +kernel
theorem dX12_readNamed_7 : decode cX12_readNamed 7 = .ok (.aload_n 0, 1) := by decide +kernel
theorem dX12_readNamed_8 : decode cX12_readNamed 8 = .ok (.iconst 1, 1) := by decide +kernel
theorem dX12_readNamed_9 : decode cX12_readNamed 9 = .ok (.invokevirtual 72, 3) := by decide +kernel
theorem dX12_readNamed_12 : decode cX12_readNamed 12 = .ok (.ireturn, 1) := by decide +kernel
theorem dX12_readNamed_13 : decode cX12_readNamed 13 = .ok (.aload_n 0, 1) := by decide +kernel
theorem dX12_readNamed_14 : decode cX12_readNamed 14 = .ok (.aload_n 0, 1) := by decide +kernel
theorem dX12_readNamed_15 : decode cX12_readNamed 15 = .ok (.getfield 113, 3) := by decide +kernel
theorem dX12_readNamed_18 : decode cX12_readNamed 18 = .ok (.iload_n 1, 1) := by decide +kernel
theorem dX12_readNamed_19 : decode cX12_readNamed 19 = .ok (.iload_n 2, 1) := by decide +kernel
theorem dX12_readNamed_20 : decode cX12_readNamed 20 = .ok (.aload_n 0, 1) := by decide +kernel
theorem dX12_readNamed_21 : decode cX12_readNamed 21 = .ok (.getfield 43, 3) := by decide +kernel
theorem dX12_readNamed_24 : decode cX12_readNamed 24 = .ok (.invokestatic 166, 3) := by decide +kernel
theorem dX12_readNamed_27 : decode cX12_readNamed 27 = .ok (.putfield 79, 3) := by decide +kernel
theorem dX12_readNamed_30 : decode cX12_readNamed 30 = .ok (.aload_n 0, 1) := by decide +kernel
theorem dX12_readNamed_31 : decode cX12_readNamed 31 = .ok (.getfield 79, 3) := by decide +kernel
theorem dX12_readNamed_34 : decode cX12_readNamed 34 = .ok (.iconst (-1), 1) := by decide +kernel
theorem dX12_readNamed_35 : decode cX12_readNamed 35 = .ok (.if_icmp .ne 9, 3) := by decide +kernel
theorem dX12_readNamed_38 : decode cX12_readNamed 38 = .ok (.aload_n 0, 1) := by decide +kernel
theorem dX12_readNamed_39 : decode cX12_readNamed 39 = .ok (.iconst 3, 1) := by decide +kernel
theorem dX12_readNamed_40 : decode cX12_readNamed 40 = .ok (.invokevirtual 72, 3) := by decide +kernel
theorem dX12_readNamed_43 : decode cX12_readNamed 43 = .ok (.ireturn, 1) := by decide +kernel
theorem dX12_readNamed_44 : decode cX12_readNamed 44 = .ok (.aload_n 0, 1) := by decide +kernel
theorem dX12_readNamed_45 : decode cX12_readNamed 45 = .ok (.invokevirtual 82, 3) := by decide +kernel
theorem dX12_readNamed_48 : decode cX12_readNamed 48 = .ok (.iconst 1, 1) := by decide +kernel
theorem dX12_readNamed_49 : decode cX12_readNamed 49 = .ok (.ireturn, 1) := by decide +kernel
def f_X12_readNamed (v0 : XM) (x0 : Int32) (x1 : Int32) : Option (Int32 × XM) :=
  x_bo (f_X12_isName v0) (fun y1 =>
  if y1 = (0 : Int32) then
  (x_lt (f_X12_bad v0 (1 : Int32)) (fun y6 =>
  some (y6.1, y6.2)))
  else (x_bo (f_X12_findIn (x_sub v0 7) x0 x1 (v0.2 0 12)) (fun y2 =>
  x_lt (x_si v0 0 13 y2) (fun m3 =>
  if ((m3.1 0 13) : Int32) = (-1 : Int32) then
  (x_lt (f_X12_bad m3 (3 : Int32)) (fun y5 =>
  some (y5.1, y5.2)))
  else (x_bo (f_X12_go m3) (fun y4 =>
  some ((1 : Int32), y4)))))))
set_option maxRecDepth 100000 in
set_option maxHeartbeats 4000000 in
theorem c_X12_readNamed {l : Launch}  {ad0 : Nat → Nat} {v0 : XM} {x0 : Int32} {x1 : Int32}  {o : Int32 × XM} (h : f_X12_readNamed v0 x0 x1 = some o) : CT l yX12_readNamed cX12_readNamed 3 (some .boolean) 3 [(shModel, ad0)] [v0] (fun aK => [.ref (ad0 0), .int x0, .int x1]) (some (.int o.1)) (x_Z o.1) [o.2] := by
  refine CT_of (by decide) (fun _ => Nat.le_of_ble_eq_true rfl) ?_
  intro p e s m args below meth c D tc aK aV A X
  have X : Cx p s m args meth c cX12_readNamed 3 (some .boolean) RX12 D tc aK aV A [(shModel, ad0)] := X
  show aW p l e (x_Rm 3) s m args below meth c D tc A 3 [(shModel, ad0)] (some (.int o.1)) (x_Z o.1) [o.2] 0 [(0, .ref (ad0 0)), (1, .int x0), (2, .int x1)] [] [v0]
  unfold f_X12_readNamed at h
  refine a_aload_n (pc := 0) X 0 dX12_readNamed_0 rfl rfl ?_
  obtain ⟨y1, e_y1, h⟩ := x_bo_elim h
  refine a_callV (pc := 1) (st2 := [.int y1]) (vs2 := [v0]) X [(0, 0, 20)] [none] 0 0 12 [] [] cv_RX12_170 (c_X12_isName (ad0 := ad0)  e_y1) rfl rfl rfl rfl rfl rfl rfl rfl rfl rfl rfl rfl rfl rfl rfl (Nat.le_of_ble_eq_true rfl) ⟨Nat.le_of_ble_eq_true rfl, Nat.le_of_ble_eq_true rfl⟩ dX12_readNamed_1 (fun z_1 => ?_)
  refine a_if_ne (pc := 4) X 13 dX12_readNamed_4 rfl (fun c_4 => ?_) (fun c_4 => ?_)
  · have h := x_ifn c_4 h
    refine a_aload_n (pc := 13) X 0 dX12_readNamed_13 rfl rfl ?_
    refine a_aload_n (pc := 14) X 0 dX12_readNamed_14 rfl rfl ?_
    refine a_getR (pc := 15) X 0 7 7 fl_RX12_113 rfl rfl rfl rfl rfl dX12_readNamed_15 ?_
    refine a_iload_n (pc := 18) X 1 dX12_readNamed_18 rfl rfl ?_
    refine a_iload_n (pc := 19) X 2 dX12_readNamed_19 rfl rfl ?_
    refine a_aload_n (pc := 20) X 0 dX12_readNamed_20 rfl rfl ?_
    refine a_getL (pc := 21) X 0 fl_RX12_43 rfl rfl rfl rfl dX12_readNamed_21 ?_
    obtain ⟨y2, e_y2, h⟩ := x_bo_elim h
    refine a_callS (pc := 24) (st2 := [.int y2, .ref (ad0 0)]) (vs2 := [v0]) X [(0, 7, 1)] [none] [.ref (ad0 7), .int x0, .int x1, .long (v0.2 0 12)] [.ref (ad0 0)] cv_RX12_166 (c_X12_findIn (ad0 := (fun i => ad0 (i + 7)))  e_y2) rfl rfl rfl rfl rfl rfl rfl rfl rfl rfl rfl (Nat.le_of_ble_eq_true rfl) ⟨Nat.le_of_ble_eq_true rfl, Nat.le_of_ble_eq_true rfl⟩ dX12_readNamed_24 (fun _ => ?_)
    refine a_putI (pc := 27) X 0 fl_RX12_79 rfl rfl rfl rfl dX12_readNamed_27 ?_
    obtain ⟨m3, e_m3, h⟩ := x_lt_elim h
    refine a_nm (vs2 := [m3]) (congrArg (fun q : XM => [q]) e_m3) ?_
    refine a_aload_n (pc := 30) X 0 dX12_readNamed_30 rfl rfl ?_
    refine a_getI (pc := 31) X 0 fl_RX12_79 rfl rfl rfl rfl dX12_readNamed_31 ?_
    refine a_iconst (pc := 34) X dX12_readNamed_34 q_ic_m1 ?_
    refine a_icmp_ne (pc := 35) X 44 dX12_readNamed_35 rfl (fun c_35 => ?_) (fun c_35 => ?_)
    · have h := x_ifn c_35 h
      refine a_aload_n (pc := 44) X 0 dX12_readNamed_44 rfl rfl ?_
      obtain ⟨y4, e_y4, h⟩ := x_bo_elim h
      refine a_callV (pc := 45) (st2 := []) (vs2 := [y4]) X [(0, 0, 20)] [some y4] 0 0 12 [] [] cv_RX12_82 (c_X12_go (ad0 := ad0)  e_y4) rfl rfl rfl rfl rfl rfl rfl rfl rfl rfl rfl rfl rfl rfl rfl (Nat.le_of_ble_eq_true rfl) ⟨Nat.le_of_ble_eq_true rfl, Nat.le_of_ble_eq_true rfl⟩ dX12_readNamed_45 (fun _ => ?_)
      refine a_iconst (pc := 48) X dX12_readNamed_48 q_ic_1 ?_
      have h := Option.some.inj h; subst h
      exact a_zret (pc := 49) X x_Z1 x_Z1 dX12_readNamed_49
    · have h := x_ifp c_35 h
      refine a_aload_n (pc := 38) X 0 dX12_readNamed_38 rfl rfl ?_
      refine a_iconst (pc := 39) X dX12_readNamed_39 q_ic_3 ?_
      obtain ⟨y5, e_y5, h⟩ := x_lt_elim h
      refine a_callV (pc := 40) (st2 := [.int y5.1]) (vs2 := [y5.2]) X [(0, 0, 20)] [some y5.2] 0 0 12 [.int (3 : Int32)] [] cv_RX12_72 (c_X12_bad (ad0 := ad0)  e_y5) rfl rfl rfl rfl rfl rfl rfl rfl rfl rfl rfl rfl rfl rfl rfl (Nat.le_of_ble_eq_true rfl) ⟨Nat.le_of_ble_eq_true rfl, Nat.le_of_ble_eq_true rfl⟩ dX12_readNamed_40 (fun z_40 => ?_)
      have h := Option.some.inj h; subst h
      exact a_zret (pc := 43) X z_40 z_40 dX12_readNamed_43
  · have h := x_ifp c_4 h
    refine a_aload_n (pc := 7) X 0 dX12_readNamed_7 rfl rfl ?_
    refine a_iconst (pc := 8) X dX12_readNamed_8 q_ic_1 ?_
    obtain ⟨y6, e_y6, h⟩ := x_lt_elim h
    refine a_callV (pc := 9) (st2 := [.int y6.1]) (vs2 := [y6.2]) X [(0, 0, 20)] [some y6.2] 0 0 12 [.int (1 : Int32)] [] cv_RX12_72 (c_X12_bad (ad0 := ad0)  e_y6) rfl rfl rfl rfl rfl rfl rfl rfl rfl rfl rfl rfl rfl rfl rfl (Nat.le_of_ble_eq_true rfl) ⟨Nat.le_of_ble_eq_true rfl, Nat.le_of_ble_eq_true rfl⟩ dX12_readNamed_9 (fun z_9 => ?_)
    have h := Option.some.inj h; subst h
    exact a_zret (pc := 12) X z_9 z_9 dX12_readNamed_12
theorem dX12_readFoldNumber_0 : decode cX12_readFoldNumber 0 = .ok (.aload_n 0, 1) := by decide +kernel
theorem dX12_readFoldNumber_1 : decode cX12_readFoldNumber 1 = .ok (.iconst 0, 1) := by decide +kernel
theorem dX12_readFoldNumber_2 : decode cX12_readFoldNumber 2 = .ok (.bipush 11, 2) := by decide +kernel
theorem dX12_readFoldNumber_4 : decode cX12_readFoldNumber 4 = .ok (.invokevirtual 196, 3) := by decide +kernel
theorem dX12_readFoldNumber_7 : decode cX12_readFoldNumber 7 = .ok (.ireturn, 1) := by decide +kernel
def f_X12_readFoldNumber (v0 : XM) : Option (Int32 × XM) :=
  x_bo (f_X12_readNumber v0 (0 : Int32) (11 : Int32)) (fun y1 =>
  some (y1.1, y1.2))
set_option maxRecDepth 100000 in
set_option maxHeartbeats 4000000 in
theorem c_X12_readFoldNumber {l : Launch}  {ad0 : Nat → Nat} {v0 : XM}   {o : Int32 × XM} (h : f_X12_readFoldNumber v0 = some o) : CT l yX12_readFoldNumber cX12_readFoldNumber 1 (some .boolean) 3 [(shModel, ad0)] [v0] (fun aK => [.ref (ad0 0)]) (some (.int o.1)) (x_Z o.1) [o.2] := by
  refine CT_of (by decide) (fun _ => Nat.le_of_ble_eq_true rfl) ?_
  intro p e s m args below meth c D tc aK aV A X
  have X : Cx p s m args meth c cX12_readFoldNumber 1 (some .boolean) RX12 D tc aK aV A [(shModel, ad0)] := X
  show aW p l e (x_Rm 3) s m args below meth c D tc A 1 [(shModel, ad0)] (some (.int o.1)) (x_Z o.1) [o.2] 0 [(0, .ref (ad0 0))] [] [v0]
  unfold f_X12_readFoldNumber at h
  refine a_aload_n (pc := 0) X 0 dX12_readFoldNumber_0 rfl rfl ?_
  refine a_iconst (pc := 1) X dX12_readFoldNumber_1 q_ic_0 ?_
  refine a_bipush (pc := 2) X dX12_readFoldNumber_2 q_bp_11 ?_
  obtain ⟨y1, e_y1, h⟩ := x_bo_elim h
  refine a_callV (pc := 4) (st2 := [.int y1.1]) (vs2 := [y1.2]) X [(0, 0, 20)] [some y1.2] 0 0 12 [.int (0 : Int32), .int (11 : Int32)] [] cv_RX12_196 (c_X12_readNumber (ad0 := ad0)  e_y1) rfl rfl rfl rfl rfl rfl rfl rfl rfl rfl rfl rfl rfl rfl rfl (Nat.le_of_ble_eq_true rfl) ⟨Nat.le_of_ble_eq_true rfl, Nat.le_of_ble_eq_true rfl⟩ dX12_readFoldNumber_4 (fun z_4 => ?_)
  have h := Option.some.inj h; subst h
  exact a_zret (pc := 7) X z_4 z_4 dX12_readFoldNumber_7
theorem dX12_readDoes_0 : decode cX12_readDoes 0 = .ok (.bipush 9, 2) := by decide +kernel
theorem dX12_readDoes_2 : decode cX12_readDoes 2 = .ok (.istore_n 2, 1) := by decide +kernel
theorem dX12_readDoes_3 : decode cX12_readDoes 3 = .ok (.iload_n 2, 1) := by decide +kernel
theorem dX12_readDoes_4 : decode cX12_readDoes 4 = .ok (.bipush 12, 2) := by decide +kernel
theorem dX12_readDoes_6 : decode cX12_readDoes 6 = .ok (.if_icmp .gt 17, 3) := by decide +kernel
theorem dX12_readDoes_9 : decode cX12_readDoes 9 = .ok (.aload_n 0, 1) := by decide +kernel
theorem dX12_readDoes_10 : decode cX12_readDoes 10 = .ok (.iload_n 2, 1) := by decide +kernel
theorem dX12_readDoes_11 : decode cX12_readDoes 11 = .ok (.invokevirtual 180, 3) := by decide +kernel
theorem dX12_readDoes_14 : decode cX12_readDoes 14 = .ok (.ifCond .ne 9, 3) := by decide +kernel
theorem dX12_readDoes_17 : decode cX12_readDoes 17 = .ok (.iinc 2 1, 3) := by decide +kernel
theorem dX12_readDoes_20 : decode cX12_readDoes 20 = .ok (.goto (-17), 3) := by decide +kernel
theorem dX12_readDoes_23 : decode cX12_readDoes 23 = .ok (.iload_n 2, 1) := by decide +kernel
theorem dX12_readDoes_24 : decode cX12_readDoes 24 = .ok (.bipush 12, 2) := by decide +kernel
theorem dX12_readDoes_26 : decode cX12_readDoes 26 = .ok (.if_icmp .le 9, 3) := by decide +kernel
theorem dX12_readDoes_29 : decode cX12_readDoes 29 = .ok (.aload_n 0, 1) := by decide +kernel
theorem dX12_readDoes_30 : decode cX12_readDoes 30 = .ok (.iconst 1, 1) := by decide +kernel
theorem dX12_readDoes_31 : decode cX12_readDoes 31 = .ok (.invokevirtual 72, 3) := by decide +kernel
theorem dX12_readDoes_34 : decode cX12_readDoes 34 = .ok (.ireturn, 1) := by decide +kernel
theorem dX12_readDoes_35 : decode cX12_readDoes 35 = .ok (.aload_n 0, 1) := by decide +kernel
theorem dX12_readDoes_36 : decode cX12_readDoes 36 = .ok (.getfield 154, 3) := by decide +kernel
theorem dX12_readDoes_39 : decode cX12_readDoes 39 = .ok (.iload_n 1, 1) := by decide +kernel
theorem dX12_readDoes_40 : decode cX12_readDoes 40 = .ok (.iload_n 2, 1) := by decide +kernel
theorem dX12_readDoes_41 : decode cX12_readDoes 41 = .ok (.bipush 9, 2) := by decide +kernel
theorem dX12_readDoes_43 : decode cX12_readDoes 43 = .ok (.isub, 1) := by decide +kernel
theorem dX12_readDoes_44 : decode cX12_readDoes 44 = .ok (.iastore, 1) := by decide +kernel
theorem dX12_readDoes_45 : decode cX12_readDoes 45 = .ok (.aload_n 0, 1) := by decide +kernel
theorem dX12_readDoes_46 : decode cX12_readDoes 46 = .ok (.invokevirtual 82, 3) := by decide +kernel
theorem dX12_readDoes_49 : decode cX12_readDoes 49 = .ok (.aload_n 0, 1) := by decide +kernel
theorem dX12_readDoes_50 : decode cX12_readDoes 50 = .ok (.getfield 154, 3) := by decide +kernel
theorem dX12_readDoes_53 : decode cX12_readDoes 53 = .ok (.iload_n 1, 1) := by decide +kernel
theorem dX12_readDoes_54 : decode cX12_readDoes 54 = .ok (.iaload, 1) := by decide +kernel
theorem dX12_readDoes_55 : decode cX12_readDoes 55 = .ok (.tableswitch 77 0 2 #[25, 37, 57], 25) := by decide +kernel
theorem dX12_readDoes_80 : decode cX12_readDoes 80 = .ok (.aload_n 0, 1) := by decide +kernel
theorem dX12_readDoes_81 : decode cX12_readDoes 81 = .ok (.iload_n 1, 1) := by decide +kernel
theorem dX12_readDoes_82 : decode cX12_readDoes 82 = .ok (.iconst 2, 1) := by decide +kernel
theorem dX12_readDoes_83 : decode cX12_readDoes 83 = .ok (.iadd, 1) := by decide +kernel
theorem dX12_readDoes_84 : decode cX12_readDoes 84 = .ok (.aload_n 0, 1) := by decide +kernel
theorem dX12_readDoes_85 : decode cX12_readDoes 85 = .ok (.invokevirtual 398, 3) := by decide +kernel
theorem dX12_readDoes_88 : decode cX12_readDoes 88 = .ok (.invokevirtual 401, 3) := by decide +kernel
theorem dX12_readDoes_91 : decode cX12_readDoes 91 = .ok (.ireturn, 1) := by decide +kernel
theorem dX12_readDoes_92 : decode cX12_readDoes 92 = .ok (.aload_n 0, 1) := by decide +kernel
theorem dX12_readDoes_93 : decode cX12_readDoes 93 = .ok (.iload_n 1, 1) := by decide +kernel
theorem dX12_readDoes_94 : decode cX12_readDoes 94 = .ok (.iconst 2, 1) := by decide +kernel
theorem dX12_readDoes_95 : decode cX12_readDoes 95 = .ok (.iadd, 1) := by decide +kernel
theorem dX12_readDoes_96 : decode cX12_readDoes 96 = .ok (.aload_n 0, 1) := by decide +kernel
theorem dX12_readDoes_97 : decode cX12_readDoes 97 = .ok (.bipush 8, 2) := by decide +kernel
theorem dX12_readDoes_99 : decode cX12_readDoes 99 = .ok (.aload_n 0, 1) := by decide +kernel
theorem dX12_readDoes_100 : decode cX12_readDoes 100 = .ok (.getfield 98, 3) := by decide +kernel
theorem dX12_readDoes_103 : decode cX12_readDoes 103 = .ok (.iconst 2, 1) := by decide +kernel
theorem dX12_readDoes_104 : decode cX12_readDoes 104 = .ok (.iaload, 1) := by decide +kernel
theorem dX12_readDoes_105 : decode cX12_readDoes 105 = .ok (.invokevirtual 404, 3) := by decide +kernel
theorem dX12_readDoes_108 : decode cX12_readDoes 108 = .ok (.invokevirtual 401, 3) := by decide +kernel
theorem dX12_readDoes_111 : decode cX12_readDoes 111 = .ok (.ireturn, 1) := by decide +kernel
theorem dX12_readDoes_112 : decode cX12_readDoes 112 = .ok (.aload_n 0, 1) := by decide +kernel
theorem dX12_readDoes_113 : decode cX12_readDoes 113 = .ok (.iload_n 1, 1) := by decide +kernel
theorem dX12_readDoes_114 : decode cX12_readDoes 114 = .ok (.iconst 2, 1) := by decide +kernel
theorem dX12_readDoes_115 : decode cX12_readDoes 115 = .ok (.iadd, 1) := by decide +kernel
theorem dX12_readDoes_116 : decode cX12_readDoes 116 = .ok (.aload_n 0, 1) := by decide +kernel
theorem dX12_readDoes_117 : decode cX12_readDoes 117 = .ok (.bipush 14, 2) := by decide +kernel
theorem dX12_readDoes_119 : decode cX12_readDoes 119 = .ok (.aload_n 0, 1) := by decide +kernel
theorem dX12_readDoes_120 : decode cX12_readDoes 120 = .ok (.getfield 98, 3) := by decide +kernel
theorem dX12_readDoes_123 : decode cX12_readDoes 123 = .ok (.iconst 3, 1) := by decide +kernel
theorem dX12_readDoes_124 : decode cX12_readDoes 124 = .ok (.iaload, 1) := by decide +kernel
theorem dX12_readDoes_125 : decode cX12_readDoes 125 = .ok (.invokevirtual 404, 3) := by decide +kernel
theorem dX12_readDoes_128 : decode cX12_readDoes 128 = .ok (.invokevirtual 401, 3) := by decide +kernel
theorem dX12_readDoes_131 : decode cX12_readDoes 131 = .ok (.ireturn, 1) := by decide +kernel
theorem dX12_readDoes_132 : decode cX12_readDoes 132 = .ok (.iconst 1, 1) := by decide +kernel
theorem dX12_readDoes_133 : decode cX12_readDoes 133 = .ok (.ireturn, 1) := by decide +kernel
def f_X12_readDoes_23 (w0 : XM) (l1 : Int32) (l2 : Int32) : Option (Int32 × XM) :=
  if (l2 : Int32) ≤ (12 : Int32) then
  (x_ck l1 120 (
  x_lt (x_pa w0 17 l1 (l2 - (9 : Int32))) (fun m1 =>
  x_bo (f_X12_go m1) (fun y2 =>
  x_ck l1 120 (
  if (x_ga y2 17 l1) = (0 : Int32) then
  (x_bo (f_X12_readFoldNumber y2) (fun y4 =>
  x_bo (f_X12_keep y4.2 (l1 + (2 : Int32)) y4.1) (fun y5 =>
  some (y5.1, y5.2))))
  else (if (x_ga y2 17 l1) = (1 : Int32) then
  (x_bo (f_X12_readNamed y2 (8 : Int32) (x_ga y2 2 (2 : Int32))) (fun y6 =>
  x_bo (f_X12_keep y6.2 (l1 + (2 : Int32)) y6.1) (fun y7 =>
  some (y7.1, y7.2))))
  else (if (x_ga y2 17 l1) = (2 : Int32) then
  (x_bo (f_X12_readNamed y2 (14 : Int32) (x_ga y2 2 (3 : Int32))) (fun y8 =>
  x_bo (f_X12_keep y8.2 (l1 + (2 : Int32)) y8.1) (fun y9 =>
  some (y9.1, y9.2))))
  else (some ((1 : Int32), y2)))))))))
  else (x_lt (f_X12_bad w0 (1 : Int32)) (fun y10 =>
  some (y10.1, y10.2)))
def f_X12_readDoes_3 (k3 : XM → Int32 → Int32 → Option (Int32 × XM)) (w0 : XM) (l1 : Int32) (l2 : Int32) : Option (Int32 × XM) :=
  if ((12 : Int32) : Int32) < l2 then
  (f_X12_readDoes_23   w0 l1 l2)
  else (x_lt (f_X12_isWord w0 l2) (fun y11 =>
  if y11 = (0 : Int32) then
  (k3 w0 l1 (l2 + 1))
  else (f_X12_readDoes_23   w0 l1 l2)))
def f_X12_readDoes (v0 : XM) (x0 : Int32) : Option (Int32 × XM) :=
  x_lp (φ := XM → Int32 → Int32 → Option (Int32 × XM)) (fun _ _ _ => none) (f_X12_readDoes_3  ) x_NN v0 x0 (9 : Int32)
set_option maxRecDepth 100000 in
set_option maxHeartbeats 4000000 in
theorem w_X12_readDoes_23 {p : Program} {l : Launch} {e : Env} {s : State} {m : MethodId} {args : Array Value} {below : List Frame} {meth : Method} {c : Code} {D : va_G} {tc : Nat → ClassId} {aK aV : Nat → Nat} {A : Nat → Prop} {ad0 : Nat → Nat}  (X : Cx p s m args meth c cX12_readDoes 3 (some .boolean) RX12 D tc aK aV A [(shModel, ad0)])  {o : Int32 × XM}  {w0 : XM} {l1 : Int32} {l2 : Int32}  (h : f_X12_readDoes_23   w0 l1 l2 = some o) : aW p l e (x_Rm 4) s m args below meth c D tc A 3 [(shModel, ad0)] (some (.int o.1)) (x_Z o.1) [o.2] 23 [(0, .ref (ad0 0)), (1, .int l1), (2, .int l2)] [] [w0] := by
  unfold f_X12_readDoes_23 at h
  refine a_iload_n (pc := 23) X 2 dX12_readDoes_23 rfl rfl ?_
  refine a_bipush (pc := 24) X dX12_readDoes_24 q_bp_12 ?_
  refine a_icmp_le (pc := 26) X 35 dX12_readDoes_26 rfl (fun c_26 => ?_) (fun c_26 => ?_)
  · have h := x_ifp c_26 h
    refine a_aload_n (pc := 35) X 0 dX12_readDoes_35 rfl rfl ?_
    refine a_getR (pc := 36) X 0 17 17 fl_RX12_154 rfl rfl rfl rfl rfl dX12_readDoes_36 ?_
    refine a_iload_n (pc := 39) X 1 dX12_readDoes_39 rfl rfl ?_
    refine a_iload_n (pc := 40) X 2 dX12_readDoes_40 rfl rfl ?_
    refine a_bipush (pc := 41) X dX12_readDoes_41 q_bp_9 ?_
    refine a_isub (pc := 43) X dX12_readDoes_43 ?_
    obtain ⟨c_44, h⟩ := x_ck_elim h
    refine a_iast (pc := 44) X 0 rfl rfl rfl c_44 dX12_readDoes_44 ?_
    obtain ⟨m1, e_m1, h⟩ := x_lt_elim h
    refine a_nm (vs2 := [m1]) (congrArg (fun q : XM => [q]) e_m1) ?_
    refine a_aload_n (pc := 45) X 0 dX12_readDoes_45 rfl rfl ?_
    obtain ⟨y2, e_y2, h⟩ := x_bo_elim h
    refine a_callV (pc := 46) (st2 := []) (vs2 := [y2]) X [(0, 0, 20)] [some y2] 0 0 12 [] [] cv_RX12_82 (c_X12_go (ad0 := ad0)  e_y2) rfl rfl rfl rfl rfl rfl rfl rfl rfl rfl rfl rfl rfl rfl rfl (Nat.le_of_ble_eq_true rfl) ⟨Nat.le_of_ble_eq_true rfl, Nat.le_of_ble_eq_true rfl⟩ dX12_readDoes_46 (fun _ => ?_)
    refine a_aload_n (pc := 49) X 0 dX12_readDoes_49 rfl rfl ?_
    refine a_getR (pc := 50) X 0 17 17 fl_RX12_154 rfl rfl rfl rfl rfl dX12_readDoes_50 ?_
    refine a_iload_n (pc := 53) X 1 dX12_readDoes_53 rfl rfl ?_
    obtain ⟨c_54, h⟩ := x_ck_elim h
    refine a_iald (pc := 54) X 0 rfl rfl rfl c_54 dX12_readDoes_54 ?_
    by_cases c_55_0 : (x_ga y2 17 l1) = (0 : Int32)
    · have h := x_ifp c_55_0 h
      refine a_tin (pc := 55) X 80 dX12_readDoes_55 c_55_0 (by decide) (by decide) rfl rfl ?_
      refine a_aload_n (pc := 80) X 0 dX12_readDoes_80 rfl rfl ?_
      refine a_iload_n (pc := 81) X 1 dX12_readDoes_81 rfl rfl ?_
      refine a_iconst (pc := 82) X dX12_readDoes_82 q_ic_2 ?_
      refine a_iadd (pc := 83) X dX12_readDoes_83 ?_
      refine a_aload_n (pc := 84) X 0 dX12_readDoes_84 rfl rfl ?_
      obtain ⟨y4, e_y4, h⟩ := x_bo_elim h
      refine a_callV (pc := 85) (st2 := [.int y4.1, .int (l1 + (2 : Int32)), .ref (ad0 0)]) (vs2 := [y4.2]) X [(0, 0, 20)] [some y4.2] 0 0 12 [] [.int (l1 + (2 : Int32)), .ref (ad0 0)] cv_RX12_398 (c_X12_readFoldNumber (ad0 := ad0)  e_y4) rfl rfl rfl rfl rfl rfl rfl rfl rfl rfl rfl rfl rfl rfl rfl (Nat.le_of_ble_eq_true rfl) ⟨Nat.le_of_ble_eq_true rfl, Nat.le_of_ble_eq_true rfl⟩ dX12_readDoes_85 (fun z_85 => ?_)
      obtain ⟨y5, e_y5, h⟩ := x_bo_elim h
      refine a_callV (pc := 88) (st2 := [.int y5.1]) (vs2 := [y5.2]) X [(0, 0, 20)] [some y5.2] 0 0 12 [.int (l1 + (2 : Int32)), .int y4.1] [] cv_RX12_401 (c_X12_keep (ad0 := ad0) z_85 e_y5) rfl rfl rfl rfl rfl rfl rfl rfl rfl rfl rfl rfl rfl rfl rfl (Nat.le_of_ble_eq_true rfl) ⟨Nat.le_of_ble_eq_true rfl, Nat.le_of_ble_eq_true rfl⟩ dX12_readDoes_88 (fun z_88 => ?_)
      have h := Option.some.inj h; subst h
      exact a_zret (pc := 91) X z_88 z_88 dX12_readDoes_91
    · have h := x_ifn c_55_0 h
      by_cases c_55_1 : (x_ga y2 17 l1) = (1 : Int32)
      · have h := x_ifp c_55_1 h
        refine a_tin (pc := 55) X 92 dX12_readDoes_55 c_55_1 (by decide) (by decide) rfl rfl ?_
        refine a_aload_n (pc := 92) X 0 dX12_readDoes_92 rfl rfl ?_
        refine a_iload_n (pc := 93) X 1 dX12_readDoes_93 rfl rfl ?_
        refine a_iconst (pc := 94) X dX12_readDoes_94 q_ic_2 ?_
        refine a_iadd (pc := 95) X dX12_readDoes_95 ?_
        refine a_aload_n (pc := 96) X 0 dX12_readDoes_96 rfl rfl ?_
        refine a_bipush (pc := 97) X dX12_readDoes_97 q_bp_8 ?_
        refine a_aload_n (pc := 99) X 0 dX12_readDoes_99 rfl rfl ?_
        refine a_getR (pc := 100) X 0 2 2 fl_RX12_98 rfl rfl rfl rfl rfl dX12_readDoes_100 ?_
        refine a_iconst (pc := 103) X dX12_readDoes_103 q_ic_2 ?_
        refine a_iald (pc := 104) X 0 rfl rfl rfl (x_inl (by decide)) dX12_readDoes_104 ?_
        obtain ⟨y6, e_y6, h⟩ := x_bo_elim h
        refine a_callV (pc := 105) (st2 := [.int y6.1, .int (l1 + (2 : Int32)), .ref (ad0 0)]) (vs2 := [y6.2]) X [(0, 0, 20)] [some y6.2] 0 0 12 [.int (8 : Int32), .int (x_ga y2 2 (2 : Int32))] [.int (l1 + (2 : Int32)), .ref (ad0 0)] cv_RX12_404 (c_X12_readNamed (ad0 := ad0)  e_y6) rfl rfl rfl rfl rfl rfl rfl rfl rfl rfl rfl rfl rfl rfl rfl (Nat.le_of_ble_eq_true rfl) ⟨Nat.le_of_ble_eq_true rfl, Nat.le_of_ble_eq_true rfl⟩ dX12_readDoes_105 (fun z_105 => ?_)
        obtain ⟨y7, e_y7, h⟩ := x_bo_elim h
        refine a_callV (pc := 108) (st2 := [.int y7.1]) (vs2 := [y7.2]) X [(0, 0, 20)] [some y7.2] 0 0 12 [.int (l1 + (2 : Int32)), .int y6.1] [] cv_RX12_401 (c_X12_keep (ad0 := ad0) z_105 e_y7) rfl rfl rfl rfl rfl rfl rfl rfl rfl rfl rfl rfl rfl rfl rfl (Nat.le_of_ble_eq_true rfl) ⟨Nat.le_of_ble_eq_true rfl, Nat.le_of_ble_eq_true rfl⟩ dX12_readDoes_108 (fun z_108 => ?_)
        have h := Option.some.inj h; subst h
        exact a_zret (pc := 111) X z_108 z_108 dX12_readDoes_111
      · have h := x_ifn c_55_1 h
        by_cases c_55_2 : (x_ga y2 17 l1) = (2 : Int32)
        · have h := x_ifp c_55_2 h
          refine a_tin (pc := 55) X 112 dX12_readDoes_55 c_55_2 (by decide) (by decide) rfl rfl ?_
          refine a_aload_n (pc := 112) X 0 dX12_readDoes_112 rfl rfl ?_
          refine a_iload_n (pc := 113) X 1 dX12_readDoes_113 rfl rfl ?_
          refine a_iconst (pc := 114) X dX12_readDoes_114 q_ic_2 ?_
          refine a_iadd (pc := 115) X dX12_readDoes_115 ?_
          refine a_aload_n (pc := 116) X 0 dX12_readDoes_116 rfl rfl ?_
          refine a_bipush (pc := 117) X dX12_readDoes_117 q_bp_14 ?_
          refine a_aload_n (pc := 119) X 0 dX12_readDoes_119 rfl rfl ?_
          refine a_getR (pc := 120) X 0 2 2 fl_RX12_98 rfl rfl rfl rfl rfl dX12_readDoes_120 ?_
          refine a_iconst (pc := 123) X dX12_readDoes_123 q_ic_3 ?_
          refine a_iald (pc := 124) X 0 rfl rfl rfl (x_inl (by decide)) dX12_readDoes_124 ?_
          obtain ⟨y8, e_y8, h⟩ := x_bo_elim h
          refine a_callV (pc := 125) (st2 := [.int y8.1, .int (l1 + (2 : Int32)), .ref (ad0 0)]) (vs2 := [y8.2]) X [(0, 0, 20)] [some y8.2] 0 0 12 [.int (14 : Int32), .int (x_ga y2 2 (3 : Int32))] [.int (l1 + (2 : Int32)), .ref (ad0 0)] cv_RX12_404 (c_X12_readNamed (ad0 := ad0)  e_y8) rfl rfl rfl rfl rfl rfl rfl rfl rfl rfl rfl rfl rfl rfl rfl (Nat.le_of_ble_eq_true rfl) ⟨Nat.le_of_ble_eq_true rfl, Nat.le_of_ble_eq_true rfl⟩ dX12_readDoes_125 (fun z_125 => ?_)
          obtain ⟨y9, e_y9, h⟩ := x_bo_elim h
          refine a_callV (pc := 128) (st2 := [.int y9.1]) (vs2 := [y9.2]) X [(0, 0, 20)] [some y9.2] 0 0 12 [.int (l1 + (2 : Int32)), .int y8.1] [] cv_RX12_401 (c_X12_keep (ad0 := ad0) z_125 e_y9) rfl rfl rfl rfl rfl rfl rfl rfl rfl rfl rfl rfl rfl rfl rfl (Nat.le_of_ble_eq_true rfl) ⟨Nat.le_of_ble_eq_true rfl, Nat.le_of_ble_eq_true rfl⟩ dX12_readDoes_128 (fun z_128 => ?_)
          have h := Option.some.inj h; subst h
          exact a_zret (pc := 131) X z_128 z_128 dX12_readDoes_131
        · have h := x_ifn c_55_2 h
          refine a_tout (pc := 55) X 132 dX12_readDoes_55 (by have q0 := x_ne c_55_0; have q1 := x_ne c_55_1; have q2 := x_ne c_55_2; have q0 : ((x_ga y2 17 l1) : Int32).toInt ≠ 0 := q0; have q1 : ((x_ga y2 17 l1) : Int32).toInt ≠ 1 := q1; have q2 : ((x_ga y2 17 l1) : Int32).toInt ≠ 2 := q2; omega) rfl ?_
          refine a_iconst (pc := 132) X dX12_readDoes_132 q_ic_1 ?_
          have h := Option.some.inj h; subst h
          exact a_zret (pc := 133) X x_Z1 x_Z1 dX12_readDoes_133
  · have h := x_ifn c_26 h
    refine a_aload_n (pc := 29) X 0 dX12_readDoes_29 rfl rfl ?_
    refine a_iconst (pc := 30) X dX12_readDoes_30 q_ic_1 ?_
    obtain ⟨y10, e_y10, h⟩ := x_lt_elim h
    refine a_callV (pc := 31) (st2 := [.int y10.1]) (vs2 := [y10.2]) X [(0, 0, 20)] [some y10.2] 0 0 12 [.int (1 : Int32)] [] cv_RX12_72 (c_X12_bad (ad0 := ad0)  e_y10) rfl rfl rfl rfl rfl rfl rfl rfl rfl rfl rfl rfl rfl rfl rfl (Nat.le_of_ble_eq_true rfl) ⟨Nat.le_of_ble_eq_true rfl, Nat.le_of_ble_eq_true rfl⟩ dX12_readDoes_31 (fun z_31 => ?_)
    have h := Option.some.inj h; subst h
    exact a_zret (pc := 34) X z_31 z_31 dX12_readDoes_34
set_option maxRecDepth 100000 in
set_option maxHeartbeats 4000000 in
theorem w_X12_readDoes_3 {p : Program} {l : Launch} {e : Env} {s : State} {m : MethodId} {args : Array Value} {below : List Frame} {meth : Method} {c : Code} {D : va_G} {tc : Nat → ClassId} {aK aV : Nat → Nat} {A : Nat → Prop} {ad0 : Nat → Nat}  (X : Cx p s m args meth c cX12_readDoes 3 (some .boolean) RX12 D tc aK aV A [(shModel, ad0)])  {o : Int32 × XM}  : ∀ (n : Nat), ∀ (w0 : XM) (l1 : Int32) (l2 : Int32), x_lp (φ := XM → Int32 → Int32 → Option (Int32 × XM)) (fun _ _ _ => none) (f_X12_readDoes_3  ) n w0 l1 l2 = some o → aW p l e (x_Rm 4) s m args below meth c D tc A 3 [(shModel, ad0)] (some (.int o.1)) (x_Z o.1) [o.2] 3 [(0, .ref (ad0 0)), (1, .int l1), (2, .int l2)] [] [w0] := by
  intro n
  induction n with
  | zero => intro w0 l1 l2 h; exact absurd h (fun q => by cases q)
  | succ n ih =>
    intro w0 l1 l2 h
    have h : f_X12_readDoes_3   (x_lp (φ := XM → Int32 → Int32 → Option (Int32 × XM)) (fun _ _ _ => none) (f_X12_readDoes_3  ) n) w0 l1 l2 = some o := h
    generalize x_lp (φ := XM → Int32 → Int32 → Option (Int32 × XM)) (fun _ _ _ => none) (f_X12_readDoes_3  ) n = k3 at h ih
    have hk3 := ih
    unfold f_X12_readDoes_3 at h
    refine a_iload_n (pc := 3) X 2 dX12_readDoes_3 rfl rfl ?_
    refine a_bipush (pc := 4) X dX12_readDoes_4 q_bp_12 ?_
    refine a_icmp_gt (pc := 6) X 23 dX12_readDoes_6 rfl (fun c_6 => ?_) (fun c_6 => ?_)
    · have h := x_ifp c_6 h
      exact w_X12_readDoes_23 X     h
    · have h := x_ifn c_6 h
      refine a_aload_n (pc := 9) X 0 dX12_readDoes_9 rfl rfl ?_
      refine a_iload_n (pc := 10) X 2 dX12_readDoes_10 rfl rfl ?_
      obtain ⟨y11, e_y11, h⟩ := x_lt_elim h
      refine a_callV (pc := 11) (st2 := [.int y11]) (vs2 := [w0]) X [(0, 0, 20)] [none] 0 0 12 [.int l2] [] cv_RX12_180 (c_X12_isWord (ad0 := ad0)  e_y11) rfl rfl rfl rfl rfl rfl rfl rfl rfl rfl rfl rfl rfl rfl rfl (Nat.le_of_ble_eq_true rfl) ⟨Nat.le_of_ble_eq_true rfl, Nat.le_of_ble_eq_true rfl⟩ dX12_readDoes_11 (fun z_11 => ?_)
      refine a_if_ne (pc := 14) X 23 dX12_readDoes_14 rfl (fun c_14 => ?_) (fun c_14 => ?_)
      · have h := x_ifn c_14 h
        exact w_X12_readDoes_23 X     h
      · have h := x_ifp c_14 h
        refine a_iinc (pc := 17) X 2 [(2, .int (l2 + 1)), (0, .ref (ad0 0)), (1, .int l1)] dX12_readDoes_17 rfl (congrArg (HAdd.hAdd l2) q_ic_1) (by decide) rfl ?_
        refine a_goto (pc := 20) X 3 dX12_readDoes_20 rfl ?_
        refine a_sub [1, 2, 0] rfl ?_
        exact hk3 _ _ _ h
set_option maxRecDepth 100000 in
set_option maxHeartbeats 4000000 in
theorem c_X12_readDoes {l : Launch}  {ad0 : Nat → Nat} {v0 : XM} {x0 : Int32}  {o : Int32 × XM} (h : f_X12_readDoes v0 x0 = some o) : CT l yX12_readDoes cX12_readDoes 3 (some .boolean) 4 [(shModel, ad0)] [v0] (fun aK => [.ref (ad0 0), .int x0]) (some (.int o.1)) (x_Z o.1) [o.2] := by
  refine CT_of (by decide) (fun _ => Nat.le_of_ble_eq_true rfl) ?_
  intro p e s m args below meth c D tc aK aV A X
  have X : Cx p s m args meth c cX12_readDoes 3 (some .boolean) RX12 D tc aK aV A [(shModel, ad0)] := X
  show aW p l e (x_Rm 4) s m args below meth c D tc A 3 [(shModel, ad0)] (some (.int o.1)) (x_Z o.1) [o.2] 0 [(0, .ref (ad0 0)), (1, .int x0)] [] [v0]
  unfold f_X12_readDoes at h
  refine a_bipush (pc := 0) X dX12_readDoes_0 q_bp_9 ?_
  refine a_istore_n (pc := 2) X [(2, .int (9 : Int32)), (0, .ref (ad0 0)), (1, .int x0)] dX12_readDoes_2 rfl (by decide) rfl ?_
  refine a_sub [1, 2, 0] rfl ?_
  exact w_X12_readDoes_3 X    x_NN _ _ _ h
