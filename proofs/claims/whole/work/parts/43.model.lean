-- model: functional forms and contracts, written by wip/whole/gen.py out of the bytecode.
theorem dX12_goBy_0 : decode cX12_goBy 0 = .ok (.aload_n 0, 1) := by decide +kernel
theorem dX12_goBy_1 : decode cX12_goBy 1 = .ok (.getfield 154, 3) := by decide +kernel
theorem dX12_goBy_4 : decode cX12_goBy 4 = .ok (.iload_n 1, 1) := by decide +kernel
theorem dX12_goBy_5 : decode cX12_goBy 5 = .ok (.iaload, 1) := by decide +kernel
theorem dX12_goBy_6 : decode cX12_goBy 6 = .ok (.istore_n 2, 1) := by decide +kernel
theorem dX12_goBy_7 : decode cX12_goBy 7 = .ok (.aload_n 0, 1) := by decide +kernel
theorem dX12_goBy_8 : decode cX12_goBy 8 = .ok (.getfield 154, 3) := by decide +kernel
theorem dX12_goBy_11 : decode cX12_goBy 11 = .ok (.iload_n 1, 1) := by decide +kernel
theorem dX12_goBy_12 : decode cX12_goBy 12 = .ok (.iconst 1, 1) := by decide +kernel
theorem dX12_goBy_13 : decode cX12_goBy 13 = .ok (.iadd, 1) := by decide +kernel
theorem dX12_goBy_14 : decode cX12_goBy 14 = .ok (.iaload, 1) := by decide +kernel
theorem dX12_goBy_15 : decode cX12_goBy 15 = .ok (.istore_n 3, 1) := by decide +kernel
theorem dX12_goBy_16 : decode cX12_goBy 16 = .ok (.aload_n 0, 1) := by decide +kernel
theorem dX12_goBy_17 : decode cX12_goBy 17 = .ok (.getfield 154, 3) := by decide +kernel
theorem dX12_goBy_20 : decode cX12_goBy 20 = .ok (.iload_n 1, 1) := by decide +kernel
theorem dX12_goBy_21 : decode cX12_goBy 21 = .ok (.iconst 2, 1) := by decide +kernel
theorem dX12_goBy_22 : decode cX12_goBy 22 = .ok (.iadd, 1) := by decide +kernel
theorem dX12_goBy_23 : decode cX12_goBy 23 = .ok (.iaload, 1) := by decide +kernel
theorem dX12_goBy_24 : decode cX12_goBy 24 = .ok (.istore 4, 2) := by decide +kernel
theorem dX12_goBy_26 : decode cX12_goBy 26 = .ok (.iload_n 2, 1) := by decide +kernel
theorem dX12_goBy_27 : decode cX12_goBy 27 = .ok (.bipush 7, 2) := by decide +kernel
theorem dX12_goBy_29 : decode cX12_goBy 29 = .ok (.if_icmp .ne 29, 3) := by decide +kernel
theorem dX12_goBy_32 : decode cX12_goBy 32 = .ok (.aload_n 0, 1) := by decide +kernel
theorem dX12_goBy_33 : decode cX12_goBy 33 = .ok (.getfield 98, 3) := by decide +kernel
theorem dX12_goBy_36 : decode cX12_goBy 36 = .ok (.bipush 70, 2) := by decide +kernel
theorem dX12_goBy_38 : decode cX12_goBy 38 = .ok (.iaload, 1) := by decide +kernel
theorem dX12_goBy_39 : decode cX12_goBy 39 = .ok (.iload_n 3, 1) := by decide +kernel
theorem dX12_goBy_40 : decode cX12_goBy 40 = .ok (.iadd, 1) := by decide +kernel
theorem dX12_goBy_41 : decode cX12_goBy 41 = .ok (.sipush 400, 3) := by decide +kernel
theorem dX12_goBy_44 : decode cX12_goBy 44 = .ok (.if_icmp .le 6, 3) := by decide +kernel
theorem dX12_goBy_47 : decode cX12_goBy 47 = .ok (.bipush 71, 2) := by decide +kernel
theorem dX12_goBy_49 : decode cX12_goBy 49 = .ok (.ireturn, 1) := by decide +kernel
theorem dX12_goBy_50 : decode cX12_goBy 50 = .ok (.aload_n 0, 1) := by decide +kernel
theorem dX12_goBy_51 : decode cX12_goBy 51 = .ok (.iload_n 3, 1) := by decide +kernel
theorem dX12_goBy_52 : decode cX12_goBy 52 = .ok (.invokevirtual 324, 3) := by decide +kernel
theorem dX12_goBy_55 : decode cX12_goBy 55 = .ok (.pop, 1) := by decide +kernel
theorem dX12_goBy_56 : decode cX12_goBy 56 = .ok (.iconst 0, 1) := by decide +kernel
theorem dX12_goBy_57 : decode cX12_goBy 57 = .ok (.ireturn, 1) := by decide +kernel
theorem dX12_goBy_58 : decode cX12_goBy 58 = .ok (.iload_n 2, 1) := by decide +kernel
theorem dX12_goBy_59 : decode cX12_goBy 59 = .ok (.ifCond .ne 12, 3) := by decide +kernel
theorem dX12_goBy_62 : decode cX12_goBy 62 = .ok (.aload_n 0, 1) := by decide +kernel
theorem dX12_goBy_63 : decode cX12_goBy 63 = .ok (.iload 4, 2) := by decide +kernel
theorem dX12_goBy_65 : decode cX12_goBy 65 = .ok (.invokevirtual 280, 3) := by decide +kernel
theorem dX12_goBy_68 : decode cX12_goBy 68 = .ok (.ifCond .eq 21, 3) := by decide +kernel
theorem dX12_goBy_71 : decode cX12_goBy 71 = .ok (.iload_n 2, 1) := by decide +kernel
theorem dX12_goBy_72 : decode cX12_goBy 72 = .ok (.iconst 4, 1) := by decide +kernel
theorem dX12_goBy_73 : decode cX12_goBy 73 = .ok (.if_icmp .eq 8, 3) := by decide +kernel
theorem dX12_goBy_76 : decode cX12_goBy 76 = .ok (.iload_n 2, 1) := by decide +kernel
theorem dX12_goBy_77 : decode cX12_goBy 77 = .ok (.iconst 5, 1) := by decide +kernel
theorem dX12_goBy_78 : decode cX12_goBy 78 = .ok (.if_icmp .ne 19, 3) := by decide +kernel
theorem dX12_goBy_81 : decode cX12_goBy 81 = .ok (.aload_n 0, 1) := by decide +kernel
theorem dX12_goBy_82 : decode cX12_goBy 82 = .ok (.iload_n 3, 1) := by decide +kernel
theorem dX12_goBy_83 : decode cX12_goBy 83 = .ok (.invokevirtual 280, 3) := by decide +kernel
theorem dX12_goBy_86 : decode cX12_goBy 86 = .ok (.ifCond .ne 11, 3) := by decide +kernel
theorem dX12_goBy_89 : decode cX12_goBy 89 = .ok (.bipush 10, 2) := by decide +kernel
theorem dX12_goBy_91 : decode cX12_goBy 91 = .ok (.iload_n 2, 1) := by decide +kernel
theorem dX12_goBy_92 : decode cX12_goBy 92 = .ok (.imul, 1) := by decide +kernel
theorem dX12_goBy_93 : decode cX12_goBy 93 = .ok (.bipush 9, 2) := by decide +kernel
theorem dX12_goBy_95 : decode cX12_goBy 95 = .ok (.iadd, 1) := by decide +kernel
theorem dX12_goBy_96 : decode cX12_goBy 96 = .ok (.ireturn, 1) := by decide +kernel
theorem dX12_goBy_97 : decode cX12_goBy 97 = .ok (.aload_n 0, 1) := by decide +kernel
theorem dX12_goBy_98 : decode cX12_goBy 98 = .ok (.iload_n 2, 1) := by decide +kernel
theorem dX12_goBy_99 : decode cX12_goBy 99 = .ok (.iload_n 3, 1) := by decide +kernel
theorem dX12_goBy_100 : decode cX12_goBy 100 = .ok (.iload 4, 2) := by decide +kernel
theorem dX12_goBy_102 : decode cX12_goBy 102 = .ok (.invokevirtual 298, 3) := by decide +kernel
theorem dX12_goBy_105 : decode cX12_goBy 105 = .ok (.istore 5, 2) := by decide +kernel
theorem dX12_goBy_107 : decode cX12_goBy 107 = .ok (.iload 5, 2) := by decide +kernel
theorem dX12_goBy_109 : decode cX12_goBy 109 = .ok (.ifCond .eq 11, 3) := by decide +kernel
theorem dX12_goBy_112 : decode cX12_goBy 112 = .ok (.bipush 10, 2) := by decide +kernel
theorem dX12_goBy_114 : decode cX12_goBy 114 = .ok (.iload_n 2, 1) := by decide +kernel
theorem dX12_goBy_115 : decode cX12_goBy 115 = .ok (.imul, 1) := by decide +kernel
theorem dX12_goBy_116 : decode cX12_goBy 116 = .ok (.iload 5, 2) := by decide +kernel
theorem dX12_goBy_118 : decode cX12_goBy 118 = .ok (.iadd, 1) := by decide +kernel
theorem dX12_goBy_119 : decode cX12_goBy 119 = .ok (.ireturn, 1) := by decide +kernel
theorem dX12_goBy_120 : decode cX12_goBy 120 = .ok (.aload_n 0, 1) := by decide +kernel
theorem dX12_goBy_121 : decode cX12_goBy 121 = .ok (.iload_n 2, 1) := by decide +kernel
theorem dX12_goBy_122 : decode cX12_goBy 122 = .ok (.iload_n 3, 1) := by decide +kernel
theorem dX12_goBy_123 : decode cX12_goBy 123 = .ok (.iload 4, 2) := by decide +kernel
theorem dX12_goBy_125 : decode cX12_goBy 125 = .ok (.invokevirtual 304, 3) := by decide +kernel
theorem dX12_goBy_128 : decode cX12_goBy 128 = .ok (.iconst 0, 1) := by decide +kernel
theorem dX12_goBy_129 : decode cX12_goBy 129 = .ok (.ireturn, 1) := by decide +kernel
def f_X12_goBy_89 (w0 : XM) (l2 : Int32) : Option (Int32 × XM) :=
  some ((10 * l2) + 9, w0)
def f_X12_goBy_97 (w0 : XM) (l2 : Int32) (l3 : Int32) (l4 : Int32) : Option (Int32 × XM) :=
  x_bo (f_X12_why w0 l2 l3 l4) (fun y1 =>
  if y1 = (0 : Int32) then
  (x_bo (f_X12_live w0 l2 l3 l4) (fun y2 =>
  some (0, y2)))
  else (some ((10 * l2) + y1, w0)))
def f_X12_goBy_81 (w0 : XM) (l2 : Int32) (l3 : Int32) (l4 : Int32) : Option (Int32 × XM) :=
  x_lt (f_X12_isFold w0 l3) (fun y3 =>
  if y3 = (0 : Int32) then
  (f_X12_goBy_89   w0 l2)
  else (f_X12_goBy_97   w0 l2 l3 l4))
def f_X12_goBy_71 (w0 : XM) (l2 : Int32) (l3 : Int32) (l4 : Int32) : Option (Int32 × XM) :=
  if (l2 : Int32) = 4 then
  (f_X12_goBy_81   w0 l2 l3 l4)
  else (if (l2 : Int32) = 5 then
  (f_X12_goBy_81   w0 l2 l3 l4)
  else (f_X12_goBy_97   w0 l2 l3 l4))
def f_X12_goBy (v0 : XM) (x0 : Int32) : Option (Int32 × XM) :=
  x_ck x0 120 (
  x_ck (x0 + 1) 120 (
  x_ck (x0 + 2) 120 (
  if ((x_ga v0 17 x0) : Int32) = 7 then
  (if (((x_ga v0 2 70) + (x_ga v0 17 (x0 + 1))) : Int32) ≤ 400 then
  (x_bo (f_X12_passHours v0 (x_ga v0 17 (x0 + 1))) (fun y5 =>
  some (0, y5.2)))
  else (some (71, v0)))
  else (if (x_ga v0 17 x0) = (0 : Int32) then
  (x_lt (f_X12_isFold v0 (x_ga v0 17 (x0 + 2))) (fun y4 =>
  if y4 = (0 : Int32) then
  (f_X12_goBy_89   v0 (x_ga v0 17 x0))
  else (f_X12_goBy_71   v0 (x_ga v0 17 x0) (x_ga v0 17 (x0 + 1)) (x_ga v0 17 (x0 + 2)))))
  else (f_X12_goBy_71   v0 (x_ga v0 17 x0) (x_ga v0 17 (x0 + 1)) (x_ga v0 17 (x0 + 2)))))))
set_option maxRecDepth 100000 in
set_option maxHeartbeats 4000000 in
theorem w_X12_goBy_89 {p : Program} {l : Launch} {e : Env} {s : State} {m : MethodId} {args : Array Value} {below : List Frame} {meth : Method} {c : Code} {D : va_G} {tc : Nat → ClassId} {aK aV : Nat → Nat} {A : Nat → Prop} {ad0 : Nat → Nat}  (X : Cx p s m args meth c cX12_goBy 6 (some .int) RX12 D tc aK aV A [(shModel, ad0)]) {o : Int32 × XM}  {w0 : XM} {l2 : Int32}  (h : f_X12_goBy_89   w0 l2 = some o) : aW p l e (x_Rm 6) s m args below meth c D tc A 6 [(shModel, ad0)] (some (.int o.1)) True [o.2] 89 [(2, .int l2)] [] [w0] := by
  unfold f_X12_goBy_89 at h
  refine a_bipush (pc := 89) X dX12_goBy_89 q_bp_10 ?_
  refine a_iload_n (pc := 91) X 0 dX12_goBy_91 rfl rfl ?_
  refine a_imul (pc := 92) X dX12_goBy_92 ?_
  refine a_bipush (pc := 93) X dX12_goBy_93 q_bp_9 ?_
  refine a_iadd (pc := 95) X dX12_goBy_95 ?_
  have h := Option.some.inj h; subst h
  exact a_iret (pc := 96) X trivial dX12_goBy_96
set_option maxRecDepth 100000 in
set_option maxHeartbeats 4000000 in
theorem w_X12_goBy_97 {p : Program} {l : Launch} {e : Env} {s : State} {m : MethodId} {args : Array Value} {below : List Frame} {meth : Method} {c : Code} {D : va_G} {tc : Nat → ClassId} {aK aV : Nat → Nat} {A : Nat → Prop} {ad0 : Nat → Nat}  (X : Cx p s m args meth c cX12_goBy 6 (some .int) RX12 D tc aK aV A [(shModel, ad0)]) {o : Int32 × XM}  {w0 : XM} {l2 : Int32} {l3 : Int32} {l4 : Int32}  (h : f_X12_goBy_97   w0 l2 l3 l4 = some o) : aW p l e (x_Rm 6) s m args below meth c D tc A 6 [(shModel, ad0)] (some (.int o.1)) True [o.2] 97 [(0, .ref (ad0 0)), (2, .int l2), (3, .int l3), (4, .int l4)] [] [w0] := by
  unfold f_X12_goBy_97 at h
  refine a_aload_n (pc := 97) X 0 dX12_goBy_97 rfl rfl ?_
  refine a_iload_n (pc := 98) X 1 dX12_goBy_98 rfl rfl ?_
  refine a_iload_n (pc := 99) X 2 dX12_goBy_99 rfl rfl ?_
  refine a_iload (pc := 100) X 3 dX12_goBy_100 rfl ?_
  obtain ⟨y1, e_y1, h⟩ := x_bo_elim h
  refine a_callV (pc := 102) (st2 := [.int y1]) (vs2 := [w0]) X [(0, 0, 20)] [none] 0 0 12 [.int l2, .int l3, .int l4] [] cv_RX12_298 (c_X12_why (ad0 := ad0)  e_y1) rfl rfl rfl rfl rfl rfl rfl rfl rfl rfl rfl rfl rfl rfl rfl (Nat.le_of_ble_eq_true rfl) ⟨Nat.le_of_ble_eq_true rfl, Nat.le_of_ble_eq_true rfl⟩ dX12_goBy_102 (fun _ => ?_)
  refine a_istore (pc := 105) X [(5, .int y1), (0, .ref (ad0 0)), (2, .int l2), (3, .int l3), (4, .int l4)] dX12_goBy_105 (by decide) rfl ?_
  refine a_iload (pc := 107) X 0 dX12_goBy_107 rfl ?_
  refine a_if_eq (pc := 109) X 120 dX12_goBy_109 rfl (fun c_109 => ?_) (fun c_109 => ?_)
  · have h := x_ifp c_109 h
    refine a_aload_n (pc := 120) X 1 dX12_goBy_120 rfl rfl ?_
    refine a_iload_n (pc := 121) X 2 dX12_goBy_121 rfl rfl ?_
    refine a_iload_n (pc := 122) X 3 dX12_goBy_122 rfl rfl ?_
    refine a_iload (pc := 123) X 4 dX12_goBy_123 rfl ?_
    obtain ⟨y2, e_y2, h⟩ := x_bo_elim h
    refine a_callV (pc := 125) (st2 := []) (vs2 := [y2]) X [(0, 0, 20)] [some y2] 0 0 12 [.int l2, .int l3, .int l4] [] cv_RX12_304 (c_X12_live (ad0 := ad0)  e_y2) rfl rfl rfl rfl rfl rfl rfl rfl rfl rfl rfl rfl rfl rfl rfl (Nat.le_of_ble_eq_true rfl) ⟨Nat.le_of_ble_eq_true rfl, Nat.le_of_ble_eq_true rfl⟩ dX12_goBy_125 (fun _ => ?_)
    refine a_iconst (pc := 128) X dX12_goBy_128 q_ic_0 ?_
    have h := Option.some.inj h; subst h
    exact a_iret (pc := 129) X trivial dX12_goBy_129
  · have h := x_ifn c_109 h
    refine a_bipush (pc := 112) X dX12_goBy_112 q_bp_10 ?_
    refine a_iload_n (pc := 114) X 2 dX12_goBy_114 rfl rfl ?_
    refine a_imul (pc := 115) X dX12_goBy_115 ?_
    refine a_iload (pc := 116) X 0 dX12_goBy_116 rfl ?_
    refine a_iadd (pc := 118) X dX12_goBy_118 ?_
    have h := Option.some.inj h; subst h
    exact a_iret (pc := 119) X trivial dX12_goBy_119
set_option maxRecDepth 100000 in
set_option maxHeartbeats 4000000 in
theorem w_X12_goBy_81 {p : Program} {l : Launch} {e : Env} {s : State} {m : MethodId} {args : Array Value} {below : List Frame} {meth : Method} {c : Code} {D : va_G} {tc : Nat → ClassId} {aK aV : Nat → Nat} {A : Nat → Prop} {ad0 : Nat → Nat}  (X : Cx p s m args meth c cX12_goBy 6 (some .int) RX12 D tc aK aV A [(shModel, ad0)]) {o : Int32 × XM}  {w0 : XM} {l2 : Int32} {l3 : Int32} {l4 : Int32}  (h : f_X12_goBy_81   w0 l2 l3 l4 = some o) : aW p l e (x_Rm 6) s m args below meth c D tc A 6 [(shModel, ad0)] (some (.int o.1)) True [o.2] 81 [(0, .ref (ad0 0)), (2, .int l2), (3, .int l3), (4, .int l4)] [] [w0] := by
  unfold f_X12_goBy_81 at h
  refine a_aload_n (pc := 81) X 0 dX12_goBy_81 rfl rfl ?_
  refine a_iload_n (pc := 82) X 2 dX12_goBy_82 rfl rfl ?_
  obtain ⟨y3, e_y3, h⟩ := x_lt_elim h
  refine a_callV (pc := 83) (st2 := [.int y3]) (vs2 := [w0]) X [(0, 0, 20)] [none] 0 0 12 [.int l3] [] cv_RX12_280 (c_X12_isFold (ad0 := ad0)  e_y3) rfl rfl rfl rfl rfl rfl rfl rfl rfl rfl rfl rfl rfl rfl rfl (Nat.le_of_ble_eq_true rfl) ⟨Nat.le_of_ble_eq_true rfl, Nat.le_of_ble_eq_true rfl⟩ dX12_goBy_83 (fun z_83 => ?_)
  refine a_if_ne (pc := 86) X 97 dX12_goBy_86 rfl (fun c_86 => ?_) (fun c_86 => ?_)
  · have h := x_ifn c_86 h
    exact w_X12_goBy_97 X    h
  · have h := x_ifp c_86 h
    refine a_sub [1] rfl ?_
    exact w_X12_goBy_89 X    h
set_option maxRecDepth 100000 in
set_option maxHeartbeats 4000000 in
theorem w_X12_goBy_71 {p : Program} {l : Launch} {e : Env} {s : State} {m : MethodId} {args : Array Value} {below : List Frame} {meth : Method} {c : Code} {D : va_G} {tc : Nat → ClassId} {aK aV : Nat → Nat} {A : Nat → Prop} {ad0 : Nat → Nat}  (X : Cx p s m args meth c cX12_goBy 6 (some .int) RX12 D tc aK aV A [(shModel, ad0)]) {o : Int32 × XM}  {w0 : XM} {l2 : Int32} {l3 : Int32} {l4 : Int32}  (h : f_X12_goBy_71   w0 l2 l3 l4 = some o) : aW p l e (x_Rm 6) s m args below meth c D tc A 6 [(shModel, ad0)] (some (.int o.1)) True [o.2] 71 [(0, .ref (ad0 0)), (2, .int l2), (3, .int l3), (4, .int l4)] [] [w0] := by
  unfold f_X12_goBy_71 at h
  refine a_iload_n (pc := 71) X 1 dX12_goBy_71 rfl rfl ?_
  refine a_iconst (pc := 72) X dX12_goBy_72 q_ic_4 ?_
  refine a_icmp_eq (pc := 73) X 81 dX12_goBy_73 rfl (fun c_73 => ?_) (fun c_73 => ?_)
  · have h := x_ifp c_73 h
    exact w_X12_goBy_81 X    h
  · have h := x_ifn c_73 h
    refine a_iload_n (pc := 76) X 1 dX12_goBy_76 rfl rfl ?_
    refine a_iconst (pc := 77) X dX12_goBy_77 q_ic_5 ?_
    refine a_icmp_ne (pc := 78) X 97 dX12_goBy_78 rfl (fun c_78 => ?_) (fun c_78 => ?_)
    · have h := x_ifn c_78 h
      exact w_X12_goBy_97 X    h
    · have h := x_ifp c_78 h
      exact w_X12_goBy_81 X    h
set_option maxRecDepth 100000 in
set_option maxHeartbeats 4000000 in
theorem c_X12_goBy {l : Launch} {ad0 : Nat → Nat} {v0 : XM} {x0 : Int32}  {o : Int32 × XM} (h : f_X12_goBy v0 x0 = some o) : CT l yX12_goBy cX12_goBy 6 (some .int) 6 [(shModel, ad0)] [v0] (fun aK => [.ref (ad0 0), .int x0]) (some (.int o.1)) True [o.2] := by
  refine CT_of (by decide) (fun _ => Nat.le_of_ble_eq_true rfl) ?_
  intro p e s m args below meth c D tc aK aV A X
  have X : Cx p s m args meth c cX12_goBy 6 (some .int) RX12 D tc aK aV A [(shModel, ad0)] := X
  show aW p l e (x_Rm 6) s m args below meth c D tc A 6 [(shModel, ad0)] (some (.int o.1)) True [o.2] 0 [(0, .ref (ad0 0)), (1, .int x0)] [] [v0]
  unfold f_X12_goBy at h
  refine a_aload_n (pc := 0) X 0 dX12_goBy_0 rfl rfl ?_
  refine a_getR (pc := 1) X 0 17 fl_RX12_154 rfl rfl rfl rfl dX12_goBy_1 ?_
  refine a_iload_n (pc := 4) X 1 dX12_goBy_4 rfl rfl ?_
  obtain ⟨c_5, h⟩ := x_ck_elim h
  refine a_iald (pc := 5) X 0 rfl rfl rfl c_5 dX12_goBy_5 ?_
  refine a_istore_n (pc := 6) X [(2, .int (x_ga v0 17 x0)), (0, .ref (ad0 0)), (1, .int x0)] dX12_goBy_6 rfl (by decide) rfl ?_
  refine a_aload_n (pc := 7) X 1 dX12_goBy_7 rfl rfl ?_
  refine a_getR (pc := 8) X 0 17 fl_RX12_154 rfl rfl rfl rfl dX12_goBy_8 ?_
  refine a_iload_n (pc := 11) X 2 dX12_goBy_11 rfl rfl ?_
  refine a_iconst (pc := 12) X dX12_goBy_12 q_ic_1 ?_
  refine a_iadd (pc := 13) X dX12_goBy_13 ?_
  obtain ⟨c_14, h⟩ := x_ck_elim h
  refine a_iald (pc := 14) X 0 rfl rfl rfl c_14 dX12_goBy_14 ?_
  refine a_istore_n (pc := 15) X [(3, .int (x_ga v0 17 (x0 + 1))), (2, .int (x_ga v0 17 x0)), (0, .ref (ad0 0)), (1, .int x0)] dX12_goBy_15 rfl (by decide) rfl ?_
  refine a_aload_n (pc := 16) X 2 dX12_goBy_16 rfl rfl ?_
  refine a_getR (pc := 17) X 0 17 fl_RX12_154 rfl rfl rfl rfl dX12_goBy_17 ?_
  refine a_iload_n (pc := 20) X 3 dX12_goBy_20 rfl rfl ?_
  refine a_iconst (pc := 21) X dX12_goBy_21 q_ic_2 ?_
  refine a_iadd (pc := 22) X dX12_goBy_22 ?_
  obtain ⟨c_23, h⟩ := x_ck_elim h
  refine a_iald (pc := 23) X 0 rfl rfl rfl c_23 dX12_goBy_23 ?_
  refine a_istore (pc := 24) X [(4, .int (x_ga v0 17 (x0 + 2))), (3, .int (x_ga v0 17 (x0 + 1))), (2, .int (x_ga v0 17 x0)), (0, .ref (ad0 0)), (1, .int x0)] dX12_goBy_24 (by decide) rfl ?_
  refine a_iload_n (pc := 26) X 2 dX12_goBy_26 rfl rfl ?_
  refine a_bipush (pc := 27) X dX12_goBy_27 q_bp_7 ?_
  refine a_icmp_ne (pc := 29) X 58 dX12_goBy_29 rfl (fun c_29 => ?_) (fun c_29 => ?_)
  · have h := x_ifn c_29 h
    refine a_iload_n (pc := 58) X 2 dX12_goBy_58 rfl rfl ?_
    refine a_if_ne (pc := 59) X 71 dX12_goBy_59 rfl (fun c_59 => ?_) (fun c_59 => ?_)
    · have h := x_ifn c_59 h
      refine a_sub [3, 2, 1, 0] rfl ?_
      exact w_X12_goBy_71 X    h
    · have h := x_ifp c_59 h
      refine a_aload_n (pc := 62) X 3 dX12_goBy_62 rfl rfl ?_
      refine a_iload (pc := 63) X 0 dX12_goBy_63 rfl ?_
      obtain ⟨y4, e_y4, h⟩ := x_lt_elim h
      refine a_callV (pc := 65) (st2 := [.int y4]) (vs2 := [v0]) X [(0, 0, 20)] [none] 0 0 12 [.int (x_ga v0 17 (x0 + 2))] [] cv_RX12_280 (c_X12_isFold (ad0 := ad0)  e_y4) rfl rfl rfl rfl rfl rfl rfl rfl rfl rfl rfl rfl rfl rfl rfl (Nat.le_of_ble_eq_true rfl) ⟨Nat.le_of_ble_eq_true rfl, Nat.le_of_ble_eq_true rfl⟩ dX12_goBy_65 (fun z_65 => ?_)
      refine a_if_eq (pc := 68) X 89 dX12_goBy_68 rfl (fun c_68 => ?_) (fun c_68 => ?_)
      · have h := x_ifp c_68 h
        refine a_sub [2] rfl ?_
        exact w_X12_goBy_89 X    h
      · have h := x_ifn c_68 h
        refine a_sub [3, 2, 1, 0] rfl ?_
        exact w_X12_goBy_71 X    h
  · have h := x_ifp c_29 h
    refine a_aload_n (pc := 32) X 3 dX12_goBy_32 rfl rfl ?_
    refine a_getR (pc := 33) X 0 2 fl_RX12_98 rfl rfl rfl rfl dX12_goBy_33 ?_
    refine a_bipush (pc := 36) X dX12_goBy_36 q_bp_70 ?_
    refine a_iald (pc := 38) X 0 rfl rfl rfl (x_inl (by decide)) dX12_goBy_38 ?_
    refine a_iload_n (pc := 39) X 1 dX12_goBy_39 rfl rfl ?_
    refine a_iadd (pc := 40) X dX12_goBy_40 ?_
    refine a_sipush (pc := 41) X dX12_goBy_41 q_sp_400 ?_
    refine a_icmp_le (pc := 44) X 50 dX12_goBy_44 rfl (fun c_44 => ?_) (fun c_44 => ?_)
    · have h := x_ifp c_44 h
      refine a_aload_n (pc := 50) X 3 dX12_goBy_50 rfl rfl ?_
      refine a_iload_n (pc := 51) X 1 dX12_goBy_51 rfl rfl ?_
      obtain ⟨y5, e_y5, h⟩ := x_bo_elim h
      refine a_callV (pc := 52) (st2 := [.int y5.1]) (vs2 := [y5.2]) X [(0, 0, 20)] [some y5.2] 0 0 12 [.int (x_ga v0 17 (x0 + 1))] [] cv_RX12_324 (c_X12_passHours (ad0 := ad0)  e_y5) rfl rfl rfl rfl rfl rfl rfl rfl rfl rfl rfl rfl rfl rfl rfl (Nat.le_of_ble_eq_true rfl) ⟨Nat.le_of_ble_eq_true rfl, Nat.le_of_ble_eq_true rfl⟩ dX12_goBy_52 (fun _ => ?_)
      refine a_pop (pc := 55) X dX12_goBy_55 rfl ?_
      refine a_iconst (pc := 56) X dX12_goBy_56 q_ic_0 ?_
      have h := Option.some.inj h; subst h
      exact a_iret (pc := 57) X trivial dX12_goBy_57
    · have h := x_ifn c_44 h
      refine a_bipush (pc := 47) X dX12_goBy_47 q_bp_71 ?_
      have h := Option.some.inj h; subst h
      exact a_iret (pc := 49) X trivial dX12_goBy_49
theorem dX12_stay_0 : decode cX12_stay 0 = .ok (.iconst 0, 1) := by decide +kernel
theorem dX12_stay_1 : decode cX12_stay 1 = .ok (.istore_n 2, 1) := by decide +kernel
theorem dX12_stay_2 : decode cX12_stay 2 = .ok (.iload_n 2, 1) := by decide +kernel
theorem dX12_stay_3 : decode cX12_stay 3 = .ok (.bipush 41, 2) := by decide +kernel
theorem dX12_stay_5 : decode cX12_stay 5 = .ok (.if_icmp .ge 41, 3) := by decide +kernel
theorem dX12_stay_8 : decode cX12_stay 8 = .ok (.aload_n 0, 1) := by decide +kernel
theorem dX12_stay_9 : decode cX12_stay 9 = .ok (.getfield 98, 3) := by decide +kernel
theorem dX12_stay_12 : decode cX12_stay 12 = .ok (.bipush 70, 2) := by decide +kernel
theorem dX12_stay_14 : decode cX12_stay 14 = .ok (.iload_n 2, 1) := by decide +kernel
theorem dX12_stay_15 : decode cX12_stay 15 = .ok (.iadd, 1) := by decide +kernel
theorem dX12_stay_16 : decode cX12_stay 16 = .ok (.iaload, 1) := by decide +kernel
theorem dX12_stay_17 : decode cX12_stay 17 = .ok (.istore_n 3, 1) := by decide +kernel
theorem dX12_stay_18 : decode cX12_stay 18 = .ok (.aload_n 0, 1) := by decide +kernel
theorem dX12_stay_19 : decode cX12_stay 19 = .ok (.getfield 98, 3) := by decide +kernel
theorem dX12_stay_22 : decode cX12_stay 22 = .ok (.bipush 70, 2) := by decide +kernel
theorem dX12_stay_24 : decode cX12_stay 24 = .ok (.iload_n 2, 1) := by decide +kernel
theorem dX12_stay_25 : decode cX12_stay 25 = .ok (.iadd, 1) := by decide +kernel
theorem dX12_stay_26 : decode cX12_stay 26 = .ok (.aload_n 0, 1) := by decide +kernel
theorem dX12_stay_27 : decode cX12_stay 27 = .ok (.getfield 110, 3) := by decide +kernel
theorem dX12_stay_30 : decode cX12_stay 30 = .ok (.iload_n 2, 1) := by decide +kernel
theorem dX12_stay_31 : decode cX12_stay 31 = .ok (.iaload, 1) := by decide +kernel
theorem dX12_stay_32 : decode cX12_stay 32 = .ok (.iastore, 1) := by decide +kernel
theorem dX12_stay_33 : decode cX12_stay 33 = .ok (.aload_n 0, 1) := by decide +kernel
theorem dX12_stay_34 : decode cX12_stay 34 = .ok (.getfield 110, 3) := by decide +kernel
theorem dX12_stay_37 : decode cX12_stay 37 = .ok (.iload_n 2, 1) := by decide +kernel
theorem dX12_stay_38 : decode cX12_stay 38 = .ok (.iload_n 3, 1) := by decide +kernel
theorem dX12_stay_39 : decode cX12_stay 39 = .ok (.iastore, 1) := by decide +kernel
theorem dX12_stay_40 : decode cX12_stay 40 = .ok (.iinc 2 1, 3) := by decide +kernel
theorem dX12_stay_43 : decode cX12_stay 43 = .ok (.goto (-41), 3) := by decide +kernel
theorem dX12_stay_46 : decode cX12_stay 46 = .ok (.iload_n 1, 1) := by decide +kernel
theorem dX12_stay_47 : decode cX12_stay 47 = .ok (.ifCond .ne 4, 3) := by decide +kernel
theorem dX12_stay_50 : decode cX12_stay 50 = .ok (.return_, 1) := by decide +kernel
theorem dX12_stay_51 : decode cX12_stay 51 = .ok (.aload_n 0, 1) := by decide +kernel
theorem dX12_stay_52 : decode cX12_stay 52 = .ok (.invokevirtual 301, 3) := by decide +kernel
theorem dX12_stay_55 : decode cX12_stay 55 = .ok (.aload_n 0, 1) := by decide +kernel
theorem dX12_stay_56 : decode cX12_stay 56 = .ok (.invokevirtual 395, 3) := by decide +kernel
theorem dX12_stay_59 : decode cX12_stay 59 = .ok (.return_, 1) := by decide +kernel
def f_X12_stay_2 (k2 : XM → Int32 → Int32 → Option (XM)) (w0 : XM) (l1 : Int32) (l2 : Int32) : Option (XM) :=
  if (41 : Int32) ≤ l2 then
  (if l1 = (0 : Int32) then
  (some w0)
  else (x_bo (f_X12_snap w0) (fun y1 =>
  x_bo (f_X12_takeBack y1) (fun y2 =>
  some y2))))
  else (x_ck (70 + l2) 353 (
  x_ck l2 41 (
  x_ck (70 + l2) 353 (
  x_lt (x_pa w0 2 (70 + l2) (x_ga w0 6 l2)) (fun m3 =>
  x_ck l2 41 (
  x_lt (x_pa m3 6 l2 (x_ga w0 2 (70 + l2))) (fun m4 =>
  k2 m4 l1 (l2 + 1))))))))
def f_X12_stay (v0 : XM) (x0 : Int32) : Option (XM) :=
  x_lp (φ := XM → Int32 → Int32 → Option (XM)) (fun _ _ _ => none) (f_X12_stay_2  ) x_NN v0 x0 0
set_option maxRecDepth 100000 in
set_option maxHeartbeats 4000000 in
theorem w_X12_stay_2 {p : Program} {l : Launch} {e : Env} {s : State} {m : MethodId} {args : Array Value} {below : List Frame} {meth : Method} {c : Code} {D : va_G} {tc : Nat → ClassId} {aK aV : Nat → Nat} {A : Nat → Prop} {ad0 : Nat → Nat}  (X : Cx p s m args meth c cX12_stay 4 none RX12 D tc aK aV A [(shModel, ad0)]) {o : XM}  : ∀ (n : Nat), ∀ (w0 : XM) (l1 : Int32) (l2 : Int32), x_lp (φ := XM → Int32 → Int32 → Option (XM)) (fun _ _ _ => none) (f_X12_stay_2  ) n w0 l1 l2 = some o → aW p l e (x_Rm 1) s m args below meth c D tc A 4 [(shModel, ad0)] none True [o] 2 [(0, .ref (ad0 0)), (1, .int l1), (2, .int l2)] [] [w0] := by
  intro n
  induction n with
  | zero => intro w0 l1 l2 h; exact absurd h (fun q => by cases q)
  | succ n ih =>
    intro w0 l1 l2 h
    have h : f_X12_stay_2   (x_lp (φ := XM → Int32 → Int32 → Option (XM)) (fun _ _ _ => none) (f_X12_stay_2  ) n) w0 l1 l2 = some o := h
    generalize x_lp (φ := XM → Int32 → Int32 → Option (XM)) (fun _ _ _ => none) (f_X12_stay_2  ) n = k2 at h ih
    have hk2 := ih
    unfold f_X12_stay_2 at h
    refine a_iload_n (pc := 2) X 2 dX12_stay_2 rfl rfl ?_
    refine a_bipush (pc := 3) X dX12_stay_3 q_bp_41 ?_
    refine a_icmp_ge (pc := 5) X 46 dX12_stay_5 rfl (fun c_5 => ?_) (fun c_5 => ?_)
    · have h := x_ifp c_5 h
      refine a_iload_n (pc := 46) X 1 dX12_stay_46 rfl rfl ?_
      refine a_if_ne (pc := 47) X 51 dX12_stay_47 rfl (fun c_47 => ?_) (fun c_47 => ?_)
      · have h := x_ifn c_47 h
        refine a_aload_n (pc := 51) X 0 dX12_stay_51 rfl rfl ?_
        obtain ⟨y1, e_y1, h⟩ := x_bo_elim h
        refine a_callV (pc := 52) (st2 := []) (vs2 := [y1]) X [(0, 0, 20)] [some y1] 0 0 12 [] [] cv_RX12_301 (c_X12_snap (ad0 := ad0)  e_y1) rfl rfl rfl rfl rfl rfl rfl rfl rfl rfl rfl rfl rfl rfl rfl (Nat.le_of_ble_eq_true rfl) ⟨Nat.le_of_ble_eq_true rfl, Nat.le_of_ble_eq_true rfl⟩ dX12_stay_52 (fun _ => ?_)
        refine a_aload_n (pc := 55) X 0 dX12_stay_55 rfl rfl ?_
        obtain ⟨y2, e_y2, h⟩ := x_bo_elim h
        refine a_callV (pc := 56) (st2 := []) (vs2 := [y2]) X [(0, 0, 20)] [some y2] 0 0 12 [] [] cv_RX12_395 (c_X12_takeBack (ad0 := ad0)  e_y2) rfl rfl rfl rfl rfl rfl rfl rfl rfl rfl rfl rfl rfl rfl rfl (Nat.le_of_ble_eq_true rfl) ⟨Nat.le_of_ble_eq_true rfl, Nat.le_of_ble_eq_true rfl⟩ dX12_stay_56 (fun _ => ?_)
        have h := Option.some.inj h; subst h
        exact a_vret (pc := 59) X trivial dX12_stay_59
      · have h := x_ifp c_47 h
        have h := Option.some.inj h; subst h
        exact a_vret (pc := 50) X trivial dX12_stay_50
    · have h := x_ifn c_5 h
      refine a_aload_n (pc := 8) X 0 dX12_stay_8 rfl rfl ?_
      refine a_getR (pc := 9) X 0 2 fl_RX12_98 rfl rfl rfl rfl dX12_stay_9 ?_
      refine a_bipush (pc := 12) X dX12_stay_12 q_bp_70 ?_
      refine a_iload_n (pc := 14) X 2 dX12_stay_14 rfl rfl ?_
      refine a_iadd (pc := 15) X dX12_stay_15 ?_
      obtain ⟨c_16, h⟩ := x_ck_elim h
      refine a_iald (pc := 16) X 0 rfl rfl rfl c_16 dX12_stay_16 ?_
      refine a_istore_n (pc := 17) X [(3, .int (x_ga w0 2 (70 + l2))), (0, .ref (ad0 0)), (1, .int l1), (2, .int l2)] dX12_stay_17 rfl (by decide) rfl ?_
      refine a_aload_n (pc := 18) X 1 dX12_stay_18 rfl rfl ?_
      refine a_getR (pc := 19) X 0 2 fl_RX12_98 rfl rfl rfl rfl dX12_stay_19 ?_
      refine a_bipush (pc := 22) X dX12_stay_22 q_bp_70 ?_
      refine a_iload_n (pc := 24) X 3 dX12_stay_24 rfl rfl ?_
      refine a_iadd (pc := 25) X dX12_stay_25 ?_
      refine a_aload_n (pc := 26) X 1 dX12_stay_26 rfl rfl ?_
      refine a_getR (pc := 27) X 0 6 fl_RX12_110 rfl rfl rfl rfl dX12_stay_27 ?_
      refine a_iload_n (pc := 30) X 3 dX12_stay_30 rfl rfl ?_
      obtain ⟨c_31, h⟩ := x_ck_elim h
      refine a_iald (pc := 31) X 0 rfl rfl rfl c_31 dX12_stay_31 ?_
      obtain ⟨c_32, h⟩ := x_ck_elim h
      refine a_iast (pc := 32) X 0 rfl rfl rfl c_32 dX12_stay_32 ?_
      obtain ⟨m3, e_m3, h⟩ := x_lt_elim h
      refine a_nm (vs2 := [m3]) (congrArg (fun q : XM => [q]) e_m3) ?_
      refine a_aload_n (pc := 33) X 1 dX12_stay_33 rfl rfl ?_
      refine a_getR (pc := 34) X 0 6 fl_RX12_110 rfl rfl rfl rfl dX12_stay_34 ?_
      refine a_iload_n (pc := 37) X 3 dX12_stay_37 rfl rfl ?_
      refine a_iload_n (pc := 38) X 0 dX12_stay_38 rfl rfl ?_
      obtain ⟨c_39, h⟩ := x_ck_elim h
      refine a_iast (pc := 39) X 0 rfl rfl rfl c_39 dX12_stay_39 ?_
      obtain ⟨m4, e_m4, h⟩ := x_lt_elim h
      refine a_nm (vs2 := [m4]) (congrArg (fun q : XM => [q]) e_m4) ?_
      refine a_iinc (pc := 40) X 3 [(2, .int (l2 + 1)), (3, .int (x_ga w0 2 (70 + l2))), (0, .ref (ad0 0)), (1, .int l1)] dX12_stay_40 rfl (congrArg (HAdd.hAdd l2) q_ic_1) (by decide) rfl ?_
      refine a_goto (pc := 43) X 2 dX12_stay_43 rfl ?_
      refine a_sub [2, 3, 0] rfl ?_
      exact hk2 _ _ _ h
set_option maxRecDepth 100000 in
set_option maxHeartbeats 4000000 in
theorem c_X12_stay {l : Launch} {ad0 : Nat → Nat} {v0 : XM} {x0 : Int32} (hz0 : x_Z x0) {o : XM} (h : f_X12_stay v0 x0 = some o) : CT l yX12_stay cX12_stay 4 none 1 [(shModel, ad0)] [v0] (fun aK => [.ref (ad0 0), .int x0]) none True [o] := by
  refine CT_of (by decide) (fun _ => Nat.le_of_ble_eq_true rfl) ?_
  intro p e s m args below meth c D tc aK aV A X
  have X : Cx p s m args meth c cX12_stay 4 none RX12 D tc aK aV A [(shModel, ad0)] := X
  show aW p l e (x_Rm 1) s m args below meth c D tc A 4 [(shModel, ad0)] none True [o] 0 [(0, .ref (ad0 0)), (1, .int x0)] [] [v0]
  unfold f_X12_stay at h
  refine a_iconst (pc := 0) X dX12_stay_0 q_ic_0 ?_
  refine a_istore_n (pc := 1) X [(2, .int 0), (0, .ref (ad0 0)), (1, .int x0)] dX12_stay_1 rfl (by decide) rfl ?_
  refine a_sub [1, 2, 0] rfl ?_
  exact w_X12_stay_2 X   x_NN _ _ _ h
theorem dX12_book_0 : decode cX12_book 0 = .ok (.aload_n 0, 1) := by decide +kernel
theorem dX12_book_1 : decode cX12_book 1 = .ok (.iconst 0, 1) := by decide +kernel
theorem dX12_book_2 : decode cX12_book 2 = .ok (.putfield 1, 3) := by decide +kernel
theorem dX12_book_5 : decode cX12_book 5 = .ok (.iload_n 1, 1) := by decide +kernel
theorem dX12_book_6 : decode cX12_book 6 = .ok (.iconst 0, 1) := by decide +kernel
theorem dX12_book_7 : decode cX12_book 7 = .ok (.iconst 1, 1) := by decide +kernel
theorem dX12_book_8 : decode cX12_book 8 = .ok (.invokestatic 75, 3) := by decide +kernel
theorem dX12_book_11 : decode cX12_book 11 = .ok (.ifCond .ne 7, 3) := by decide +kernel
theorem dX12_book_14 : decode cX12_book 14 = .ok (.sipush (-1000), 3) := by decide +kernel
theorem dX12_book_17 : decode cX12_book 17 = .ok (.ireturn, 1) := by decide +kernel
theorem dX12_book_18 : decode cX12_book 18 = .ok (.aload_n 0, 1) := by decide +kernel
theorem dX12_book_19 : decode cX12_book 19 = .ok (.sipush 400, 3) := by decide +kernel
theorem dX12_book_22 : decode cX12_book 22 = .ok (.invokevirtual 225, 3) := by decide +kernel
theorem dX12_book_25 : decode cX12_book 25 = .ok (.aload_n 0, 1) := by decide +kernel
theorem dX12_book_26 : decode cX12_book 26 = .ok (.iconst 0, 1) := by decide +kernel
theorem dX12_book_27 : decode cX12_book 27 = .ok (.putfield 407, 3) := by decide +kernel
theorem dX12_book_30 : decode cX12_book 30 = .ok (.aload_n 0, 1) := by decide +kernel
theorem dX12_book_31 : decode cX12_book 31 = .ok (.getfield 30, 3) := by decide +kernel
theorem dX12_book_34 : decode cX12_book 34 = .ok (.ifCond .eq 31, 3) := by decide +kernel
theorem dX12_book_37 : decode cX12_book 37 = .ok (.aload_n 0, 1) := by decide +kernel
theorem dX12_book_38 : decode cX12_book 38 = .ok (.invokevirtual 413, 3) := by decide +kernel
theorem dX12_book_41 : decode cX12_book 41 = .ok (.ifCond .ne 11, 3) := by decide +kernel
theorem dX12_book_44 : decode cX12_book 44 = .ok (.bipush (-2), 2) := by decide +kernel
theorem dX12_book_46 : decode cX12_book 46 = .ok (.aload_n 0, 1) := by decide +kernel
theorem dX12_book_47 : decode cX12_book 47 = .ok (.getfield 69, 3) := by decide +kernel
theorem dX12_book_50 : decode cX12_book 50 = .ok (.isub, 1) := by decide +kernel
theorem dX12_book_51 : decode cX12_book 51 = .ok (.ireturn, 1) := by decide +kernel
theorem dX12_book_52 : decode cX12_book 52 = .ok (.aload_n 0, 1) := by decide +kernel
theorem dX12_book_53 : decode cX12_book 53 = .ok (.dup, 1) := by decide +kernel
theorem dX12_book_54 : decode cX12_book 54 = .ok (.getfield 407, 3) := by decide +kernel
theorem dX12_book_57 : decode cX12_book 57 = .ok (.iconst 1, 1) := by decide +kernel
theorem dX12_book_58 : decode cX12_book 58 = .ok (.iadd, 1) := by decide +kernel
theorem dX12_book_59 : decode cX12_book 59 = .ok (.putfield 407, 3) := by decide +kernel
theorem dX12_book_62 : decode cX12_book 62 = .ok (.goto (-32), 3) := by decide +kernel
theorem dX12_book_65 : decode cX12_book 65 = .ok (.aload_n 0, 1) := by decide +kernel
theorem dX12_book_66 : decode cX12_book 66 = .ok (.invokevirtual 392, 3) := by decide +kernel
theorem dX12_book_69 : decode cX12_book 69 = .ok (.iconst 0, 1) := by decide +kernel
theorem dX12_book_70 : decode cX12_book 70 = .ok (.istore_n 2, 1) := by decide +kernel
theorem dX12_book_71 : decode cX12_book 71 = .ok (.iconst 0, 1) := by decide +kernel
theorem dX12_book_72 : decode cX12_book 72 = .ok (.istore_n 3, 1) := by decide +kernel
theorem dX12_book_73 : decode cX12_book 73 = .ok (.iload_n 2, 1) := by decide +kernel
theorem dX12_book_74 : decode cX12_book 74 = .ok (.aload_n 0, 1) := by decide +kernel
theorem dX12_book_75 : decode cX12_book 75 = .ok (.getfield 407, 3) := by decide +kernel
theorem dX12_book_78 : decode cX12_book 78 = .ok (.if_icmp .ge 25, 3) := by decide +kernel
theorem dX12_book_81 : decode cX12_book 81 = .ok (.iload_n 3, 1) := by decide +kernel
theorem dX12_book_82 : decode cX12_book 82 = .ok (.ifCond .ne 21, 3) := by decide +kernel
theorem dX12_book_85 : decode cX12_book 85 = .ok (.aload_n 0, 1) := by decide +kernel
theorem dX12_book_86 : decode cX12_book 86 = .ok (.iconst 3, 1) := by decide +kernel
theorem dX12_book_87 : decode cX12_book 87 = .ok (.iload_n 2, 1) := by decide +kernel
theorem dX12_book_88 : decode cX12_book 88 = .ok (.imul, 1) := by decide +kernel
theorem dX12_book_89 : decode cX12_book 89 = .ok (.invokevirtual 416, 3) := by decide +kernel
theorem dX12_book_92 : decode cX12_book 92 = .ok (.istore_n 3, 1) := by decide +kernel
theorem dX12_book_93 : decode cX12_book 93 = .ok (.iload_n 3, 1) := by decide +kernel
theorem dX12_book_94 : decode cX12_book 94 = .ok (.ifCond .ne (-21), 3) := by decide +kernel
theorem dX12_book_97 : decode cX12_book 97 = .ok (.iinc 2 1, 3) := by decide +kernel
theorem dX12_book_100 : decode cX12_book 100 = .ok (.goto (-27), 3) := by decide +kernel
theorem dX12_book_103 : decode cX12_book 103 = .ok (.aload_n 0, 1) := by decide +kernel
theorem dX12_book_104 : decode cX12_book 104 = .ok (.getfield 157, 3) := by decide +kernel
theorem dX12_book_107 : decode cX12_book 107 = .ok (.iconst 0, 1) := by decide +kernel
theorem dX12_book_108 : decode cX12_book 108 = .ok (.iload_n 3, 1) := by decide +kernel
theorem dX12_book_109 : decode cX12_book 109 = .ok (.iastore, 1) := by decide +kernel
theorem dX12_book_110 : decode cX12_book 110 = .ok (.aload_n 0, 1) := by decide +kernel
theorem dX12_book_111 : decode cX12_book 111 = .ok (.getfield 157, 3) := by decide +kernel
theorem dX12_book_114 : decode cX12_book 114 = .ok (.iconst 1, 1) := by decide +kernel
theorem dX12_book_115 : decode cX12_book 115 = .ok (.iload_n 2, 1) := by decide +kernel
theorem dX12_book_116 : decode cX12_book 116 = .ok (.iastore, 1) := by decide +kernel
theorem dX12_book_117 : decode cX12_book 117 = .ok (.aload_n 0, 1) := by decide +kernel
theorem dX12_book_118 : decode cX12_book 118 = .ok (.getfield 157, 3) := by decide +kernel
theorem dX12_book_121 : decode cX12_book 121 = .ok (.iconst 2, 1) := by decide +kernel
theorem dX12_book_122 : decode cX12_book 122 = .ok (.aload_n 0, 1) := by decide +kernel
theorem dX12_book_123 : decode cX12_book 123 = .ok (.getfield 98, 3) := by decide +kernel
theorem dX12_book_126 : decode cX12_book 126 = .ok (.bipush 70, 2) := by decide +kernel
theorem dX12_book_128 : decode cX12_book 128 = .ok (.iaload, 1) := by decide +kernel
theorem dX12_book_129 : decode cX12_book 129 = .ok (.iastore, 1) := by decide +kernel
theorem dX12_book_130 : decode cX12_book 130 = .ok (.aload_n 0, 1) := by decide +kernel
theorem dX12_book_131 : decode cX12_book 131 = .ok (.getfield 157, 3) := by decide +kernel
theorem dX12_book_134 : decode cX12_book 134 = .ok (.iconst 3, 1) := by decide +kernel
theorem dX12_book_135 : decode cX12_book 135 = .ok (.aload_n 0, 1) := by decide +kernel
theorem dX12_book_136 : decode cX12_book 136 = .ok (.invokevirtual 289, 3) := by decide +kernel
theorem dX12_book_139 : decode cX12_book 139 = .ok (.iastore, 1) := by decide +kernel
theorem dX12_book_140 : decode cX12_book 140 = .ok (.aload_n 0, 1) := by decide +kernel
theorem dX12_book_141 : decode cX12_book 141 = .ok (.iconst 1, 1) := by decide +kernel
theorem dX12_book_142 : decode cX12_book 142 = .ok (.putfield 419, 3) := by decide +kernel
theorem dX12_book_145 : decode cX12_book 145 = .ok (.aload_n 0, 1) := by decide +kernel
theorem dX12_book_146 : decode cX12_book 146 = .ok (.iload_n 1, 1) := by decide +kernel
theorem dX12_book_147 : decode cX12_book 147 = .ok (.iconst 1, 1) := by decide +kernel
theorem dX12_book_148 : decode cX12_book 148 = .ok (.if_icmp .ne 11, 3) := by decide +kernel
theorem dX12_book_151 : decode cX12_book 151 = .ok (.iload_n 2, 1) := by decide +kernel
theorem dX12_book_152 : decode cX12_book 152 = .ok (.ifCond .le 7, 3) := by decide +kernel
theorem dX12_book_155 : decode cX12_book 155 = .ok (.iconst 1, 1) := by decide +kernel
theorem dX12_book_156 : decode cX12_book 156 = .ok (.goto 4, 3) := by decide +kernel
theorem dX12_book_159 : decode cX12_book 159 = .ok (.iconst 0, 1) := by decide +kernel
theorem dX12_book_160 : decode cX12_book 160 = .ok (.invokevirtual 422, 3) := by decide +kernel
theorem dX12_book_163 : decode cX12_book 163 = .ok (.iload_n 3, 1) := by decide +kernel
theorem dX12_book_164 : decode cX12_book 164 = .ok (.ifCond .ne 7, 3) := by decide +kernel
theorem dX12_book_167 : decode cX12_book 167 = .ok (.iconst (-1), 1) := by decide +kernel
theorem dX12_book_168 : decode cX12_book 168 = .ok (.goto 4, 3) := by decide +kernel
theorem dX12_book_171 : decode cX12_book 171 = .ok (.iload_n 2, 1) := by decide +kernel
theorem dX12_book_172 : decode cX12_book 172 = .ok (.ireturn, 1) := by decide +kernel
def f_X12_book_160 (w0 : XM) (l2 : Int32) (l3 : Int32) (s1 : Int32) : Option (Int32 × XM) :=
  x_bo (f_X12_stay w0 s1) (fun y1 =>
  if l3 = (0 : Int32) then
  (some ((-1), y1))
  else (some (l2, y1)))
def f_X12_book_159 (w0 : XM) (l2 : Int32) (l3 : Int32) : Option (Int32 × XM) :=
  f_X12_book_160   w0 l2 l3 0
def f_X12_book_103 (w0 : XM) (l1 : Int32) (l2 : Int32) (l3 : Int32) : Option (Int32 × XM) :=
  x_lt (x_pa w0 18 0 l3) (fun m2 =>
  x_lt (x_pa m2 18 1 l2) (fun m3 =>
  x_lt (x_pa m3 18 2 (x_ga m3 2 70)) (fun m4 =>
  x_bo (f_X12_known m4) (fun y5 =>
  x_lt (x_pa m4 18 3 y5) (fun m6 =>
  x_lt (x_si m6 0 41 1) (fun m7 =>
  if (l1 : Int32) = 1 then
  (if l2 ≤ (0 : Int32) then
  (f_X12_book_159   m7 l2 l3)
  else (f_X12_book_160   m7 l2 l3 1))
  else (f_X12_book_159   m7 l2 l3)))))))
def f_X12_book_73 (k73 : XM → Int32 → Int32 → Int32 → Option (Int32 × XM)) (w0 : XM) (l1 : Int32) (l2 : Int32) (l3 : Int32) : Option (Int32 × XM) :=
  if ((w0.1 0 40) : Int32) ≤ l2 then
  (f_X12_book_103   w0 l1 l2 l3)
  else (if l3 = (0 : Int32) then
  (x_bo (f_X12_goBy w0 (3 * l2)) (fun y8 =>
  if y8.1 = (0 : Int32) then
  (k73 y8.2 l1 (l2 + 1) y8.1)
  else (k73 y8.2 l1 l2 y8.1)))
  else (f_X12_book_103   w0 l1 l2 l3))
def f_X12_book_30 (k30 : XM → Int32 → Option (Int32 × XM)) (w0 : XM) (l1 : Int32) : Option (Int32 × XM) :=
  if (w0.1 0 7) = (0 : Int32) then
  (x_bo (f_X12_layAside w0) (fun y9 =>
  x_lp (φ := XM → Int32 → Int32 → Int32 → Option (Int32 × XM)) (fun _ _ _ _ => none) (f_X12_book_73  ) x_NN y9 l1 0 0))
  else (x_bo (f_X12_readBookLine w0) (fun y10 =>
  if y10.1 = (0 : Int32) then
  (some ((-2) - (y10.2.1 0 11), y10.2))
  else (x_lt (x_si y10.2 0 40 ((y10.2.1 0 40) + 1)) (fun m11 =>
  k30 m11 l1))))
def f_X12_book (v0 : XM) (x0 : Int32) : Option (Int32 × XM) :=
  x_lt (x_si v0 0 0 0) (fun m12 =>
  x_lt (f_X12_isIn x0 0 1) (fun y13 =>
  if y13 = (0 : Int32) then
  (some ((-1000), m12))
  else (x_bo (f_X12_begin m12 400) (fun y14 =>
  x_lt (x_si y14 0 40 0) (fun m15 =>
  x_lp (φ := XM → Int32 → Option (Int32 × XM)) (fun _ _ => none) (f_X12_book_30  ) x_NN m15 x0)))))
set_option maxRecDepth 100000 in
set_option maxHeartbeats 4000000 in
theorem w_X12_book_160 {p : Program} {l : Launch} {e : Env} {s : State} {m : MethodId} {args : Array Value} {below : List Frame} {meth : Method} {c : Code} {D : va_G} {tc : Nat → ClassId} {aK aV : Nat → Nat} {A : Nat → Prop} {ad0 : Nat → Nat}  (X : Cx p s m args meth c cX12_book 4 (some .int) RX12 D tc aK aV A [(shModel, ad0)]) {o : Int32 × XM}  {w0 : XM} {l2 : Int32} {l3 : Int32} {s1 : Int32} (hzs1 : x_Z s1) (h : f_X12_book_160   w0 l2 l3 s1 = some o) : aW p l e (x_Rm 7) s m args below meth c D tc A 4 [(shModel, ad0)] (some (.int o.1)) True [o.2] 160 [(2, .int l2), (3, .int l3)] [.int s1, .ref (ad0 0)] [w0] := by
  unfold f_X12_book_160 at h
  obtain ⟨y1, e_y1, h⟩ := x_bo_elim h
  refine a_callV (pc := 160) (st2 := []) (vs2 := [y1]) X [(0, 0, 20)] [some y1] 0 0 12 [.int s1] [] cv_RX12_422 (c_X12_stay (ad0 := ad0) hzs1 e_y1) rfl rfl rfl rfl rfl rfl rfl rfl rfl rfl rfl rfl rfl rfl rfl (Nat.le_of_ble_eq_true rfl) ⟨Nat.le_of_ble_eq_true rfl, Nat.le_of_ble_eq_true rfl⟩ dX12_book_160 (fun _ => ?_)
  refine a_iload_n (pc := 163) X 1 dX12_book_163 rfl rfl ?_
  refine a_if_ne (pc := 164) X 171 dX12_book_164 rfl (fun c_164 => ?_) (fun c_164 => ?_)
  · have h := x_ifn c_164 h
    refine a_iload_n (pc := 171) X 0 dX12_book_171 rfl rfl ?_
    have h := Option.some.inj h; subst h
    exact a_iret (pc := 172) X trivial dX12_book_172
  · have h := x_ifp c_164 h
    refine a_iconst (pc := 167) X dX12_book_167 q_ic_m1 ?_
    refine a_goto (pc := 168) X 172 dX12_book_168 rfl ?_
    have h := Option.some.inj h; subst h
    exact a_iret (pc := 172) X trivial dX12_book_172
set_option maxRecDepth 100000 in
set_option maxHeartbeats 4000000 in
theorem w_X12_book_159 {p : Program} {l : Launch} {e : Env} {s : State} {m : MethodId} {args : Array Value} {below : List Frame} {meth : Method} {c : Code} {D : va_G} {tc : Nat → ClassId} {aK aV : Nat → Nat} {A : Nat → Prop} {ad0 : Nat → Nat}  (X : Cx p s m args meth c cX12_book 4 (some .int) RX12 D tc aK aV A [(shModel, ad0)]) {o : Int32 × XM}  {w0 : XM} {l2 : Int32} {l3 : Int32}  (h : f_X12_book_159   w0 l2 l3 = some o) : aW p l e (x_Rm 7) s m args below meth c D tc A 4 [(shModel, ad0)] (some (.int o.1)) True [o.2] 159 [(2, .int l2), (3, .int l3)] [.ref (ad0 0)] [w0] := by
  unfold f_X12_book_159 at h
  refine a_iconst (pc := 159) X dX12_book_159 q_ic_0 ?_
  exact w_X12_book_160 X   x_Z0 h
set_option maxRecDepth 100000 in
set_option maxHeartbeats 4000000 in
theorem w_X12_book_103 {p : Program} {l : Launch} {e : Env} {s : State} {m : MethodId} {args : Array Value} {below : List Frame} {meth : Method} {c : Code} {D : va_G} {tc : Nat → ClassId} {aK aV : Nat → Nat} {A : Nat → Prop} {ad0 : Nat → Nat}  (X : Cx p s m args meth c cX12_book 4 (some .int) RX12 D tc aK aV A [(shModel, ad0)]) {o : Int32 × XM}  {w0 : XM} {l1 : Int32} {l2 : Int32} {l3 : Int32}  (h : f_X12_book_103   w0 l1 l2 l3 = some o) : aW p l e (x_Rm 7) s m args below meth c D tc A 4 [(shModel, ad0)] (some (.int o.1)) True [o.2] 103 [(0, .ref (ad0 0)), (1, .int l1), (2, .int l2), (3, .int l3)] [] [w0] := by
  unfold f_X12_book_103 at h
  refine a_aload_n (pc := 103) X 0 dX12_book_103 rfl rfl ?_
  refine a_getR (pc := 104) X 0 18 fl_RX12_157 rfl rfl rfl rfl dX12_book_104 ?_
  refine a_iconst (pc := 107) X dX12_book_107 q_ic_0 ?_
  refine a_iload_n (pc := 108) X 3 dX12_book_108 rfl rfl ?_
  refine a_iast (pc := 109) X 0 rfl rfl rfl (x_inl (by decide)) dX12_book_109 ?_
  obtain ⟨m2, e_m2, h⟩ := x_lt_elim h
  refine a_nm (vs2 := [m2]) (congrArg (fun q : XM => [q]) e_m2) ?_
  refine a_aload_n (pc := 110) X 0 dX12_book_110 rfl rfl ?_
  refine a_getR (pc := 111) X 0 18 fl_RX12_157 rfl rfl rfl rfl dX12_book_111 ?_
  refine a_iconst (pc := 114) X dX12_book_114 q_ic_1 ?_
  refine a_iload_n (pc := 115) X 2 dX12_book_115 rfl rfl ?_
  refine a_iast (pc := 116) X 0 rfl rfl rfl (x_inl (by decide)) dX12_book_116 ?_
  obtain ⟨m3, e_m3, h⟩ := x_lt_elim h
  refine a_nm (vs2 := [m3]) (congrArg (fun q : XM => [q]) e_m3) ?_
  refine a_aload_n (pc := 117) X 0 dX12_book_117 rfl rfl ?_
  refine a_getR (pc := 118) X 0 18 fl_RX12_157 rfl rfl rfl rfl dX12_book_118 ?_
  refine a_iconst (pc := 121) X dX12_book_121 q_ic_2 ?_
  refine a_aload_n (pc := 122) X 0 dX12_book_122 rfl rfl ?_
  refine a_getR (pc := 123) X 0 2 fl_RX12_98 rfl rfl rfl rfl dX12_book_123 ?_
  refine a_bipush (pc := 126) X dX12_book_126 q_bp_70 ?_
  refine a_iald (pc := 128) X 0 rfl rfl rfl (x_inl (by decide)) dX12_book_128 ?_
  refine a_iast (pc := 129) X 0 rfl rfl rfl (x_inl (by decide)) dX12_book_129 ?_
  obtain ⟨m4, e_m4, h⟩ := x_lt_elim h
  refine a_nm (vs2 := [m4]) (congrArg (fun q : XM => [q]) e_m4) ?_
  refine a_aload_n (pc := 130) X 0 dX12_book_130 rfl rfl ?_
  refine a_getR (pc := 131) X 0 18 fl_RX12_157 rfl rfl rfl rfl dX12_book_131 ?_
  refine a_iconst (pc := 134) X dX12_book_134 q_ic_3 ?_
  refine a_aload_n (pc := 135) X 0 dX12_book_135 rfl rfl ?_
  obtain ⟨y5, e_y5, h⟩ := x_bo_elim h
  refine a_callV (pc := 136) (st2 := [.int y5, .int 3, .ref (ad0 18)]) (vs2 := [m4]) X [(0, 0, 20)] [none] 0 0 12 [] [.int 3, .ref (ad0 18)] cv_RX12_289 (c_X12_known (ad0 := ad0)  e_y5) rfl rfl rfl rfl rfl rfl rfl rfl rfl rfl rfl rfl rfl rfl rfl (Nat.le_of_ble_eq_true rfl) ⟨Nat.le_of_ble_eq_true rfl, Nat.le_of_ble_eq_true rfl⟩ dX12_book_136 (fun _ => ?_)
  refine a_iast (pc := 139) X 0 rfl rfl rfl (x_inl (by decide)) dX12_book_139 ?_
  obtain ⟨m6, e_m6, h⟩ := x_lt_elim h
  refine a_nm (vs2 := [m6]) (congrArg (fun q : XM => [q]) e_m6) ?_
  refine a_aload_n (pc := 140) X 0 dX12_book_140 rfl rfl ?_
  refine a_iconst (pc := 141) X dX12_book_141 q_ic_1 ?_
  refine a_putZ (pc := 142) X 0 x_Z1 fl_RX12_419 rfl rfl rfl rfl dX12_book_142 ?_
  obtain ⟨m7, e_m7, h⟩ := x_lt_elim h
  refine a_nm (vs2 := [m7]) (congrArg (fun q : XM => [q]) e_m7) ?_
  refine a_aload_n (pc := 145) X 0 dX12_book_145 rfl rfl ?_
  refine a_iload_n (pc := 146) X 1 dX12_book_146 rfl rfl ?_
  refine a_iconst (pc := 147) X dX12_book_147 q_ic_1 ?_
  refine a_icmp_ne (pc := 148) X 159 dX12_book_148 rfl (fun c_148 => ?_) (fun c_148 => ?_)
  · have h := x_ifn c_148 h
    refine a_sub [2, 3] rfl ?_
    exact w_X12_book_159 X    h
  · have h := x_ifp c_148 h
    refine a_iload_n (pc := 151) X 2 dX12_book_151 rfl rfl ?_
    refine a_if_le (pc := 152) X 159 dX12_book_152 rfl (fun c_152 => ?_) (fun c_152 => ?_)
    · have h := x_ifp c_152 h
      refine a_sub [2, 3] rfl ?_
      exact w_X12_book_159 X    h
    · have h := x_ifn c_152 h
      refine a_iconst (pc := 155) X dX12_book_155 q_ic_1 ?_
      refine a_goto (pc := 156) X 160 dX12_book_156 rfl ?_
      refine a_sub [2, 3] rfl ?_
      exact w_X12_book_160 X   x_Z1 h
set_option maxRecDepth 100000 in
set_option maxHeartbeats 4000000 in
theorem w_X12_book_73 {p : Program} {l : Launch} {e : Env} {s : State} {m : MethodId} {args : Array Value} {below : List Frame} {meth : Method} {c : Code} {D : va_G} {tc : Nat → ClassId} {aK aV : Nat → Nat} {A : Nat → Prop} {ad0 : Nat → Nat}  (X : Cx p s m args meth c cX12_book 4 (some .int) RX12 D tc aK aV A [(shModel, ad0)]) {o : Int32 × XM}  : ∀ (n : Nat), ∀ (w0 : XM) (l1 : Int32) (l2 : Int32) (l3 : Int32), x_lp (φ := XM → Int32 → Int32 → Int32 → Option (Int32 × XM)) (fun _ _ _ _ => none) (f_X12_book_73  ) n w0 l1 l2 l3 = some o → aW p l e (x_Rm 7) s m args below meth c D tc A 4 [(shModel, ad0)] (some (.int o.1)) True [o.2] 73 [(0, .ref (ad0 0)), (1, .int l1), (2, .int l2), (3, .int l3)] [] [w0] := by
  intro n
  induction n with
  | zero => intro w0 l1 l2 l3 h; exact absurd h (fun q => by cases q)
  | succ n ih =>
    intro w0 l1 l2 l3 h
    have h : f_X12_book_73   (x_lp (φ := XM → Int32 → Int32 → Int32 → Option (Int32 × XM)) (fun _ _ _ _ => none) (f_X12_book_73  ) n) w0 l1 l2 l3 = some o := h
    generalize x_lp (φ := XM → Int32 → Int32 → Int32 → Option (Int32 × XM)) (fun _ _ _ _ => none) (f_X12_book_73  ) n = k73 at h ih
    have hk73 := ih
    unfold f_X12_book_73 at h
    refine a_iload_n (pc := 73) X 2 dX12_book_73 rfl rfl ?_
    refine a_aload_n (pc := 74) X 0 dX12_book_74 rfl rfl ?_
    refine a_getI (pc := 75) X 0 fl_RX12_407 rfl rfl rfl rfl dX12_book_75 ?_
    refine a_icmp_ge (pc := 78) X 103 dX12_book_78 rfl (fun c_78 => ?_) (fun c_78 => ?_)
    · have h := x_ifp c_78 h
      exact w_X12_book_103 X    h
    · have h := x_ifn c_78 h
      refine a_iload_n (pc := 81) X 3 dX12_book_81 rfl rfl ?_
      refine a_if_ne (pc := 82) X 103 dX12_book_82 rfl (fun c_82 => ?_) (fun c_82 => ?_)
      · have h := x_ifn c_82 h
        exact w_X12_book_103 X    h
      · have h := x_ifp c_82 h
        refine a_aload_n (pc := 85) X 0 dX12_book_85 rfl rfl ?_
        refine a_iconst (pc := 86) X dX12_book_86 q_ic_3 ?_
        refine a_iload_n (pc := 87) X 2 dX12_book_87 rfl rfl ?_
        refine a_imul (pc := 88) X dX12_book_88 ?_
        obtain ⟨y8, e_y8, h⟩ := x_bo_elim h
        refine a_callV (pc := 89) (st2 := [.int y8.1]) (vs2 := [y8.2]) X [(0, 0, 20)] [some y8.2] 0 0 12 [.int (3 * l2)] [] cv_RX12_416 (c_X12_goBy (ad0 := ad0)  e_y8) rfl rfl rfl rfl rfl rfl rfl rfl rfl rfl rfl rfl rfl rfl rfl (Nat.le_of_ble_eq_true rfl) ⟨Nat.le_of_ble_eq_true rfl, Nat.le_of_ble_eq_true rfl⟩ dX12_book_89 (fun _ => ?_)
        refine a_istore_n (pc := 92) X [(3, .int y8.1), (0, .ref (ad0 0)), (1, .int l1), (2, .int l2)] dX12_book_92 rfl (by decide) rfl ?_
        refine a_iload_n (pc := 93) X 0 dX12_book_93 rfl rfl ?_
        refine a_if_ne (pc := 94) X 73 dX12_book_94 rfl (fun c_94 => ?_) (fun c_94 => ?_)
        · have h := x_ifn c_94 h
          refine a_sub [1, 2, 3, 0] rfl ?_
          exact hk73 _ _ _ _ h
        · have h := x_ifp c_94 h
          refine a_iinc (pc := 97) X 3 [(2, .int (l2 + 1)), (3, .int y8.1), (0, .ref (ad0 0)), (1, .int l1)] dX12_book_97 rfl (congrArg (HAdd.hAdd l2) q_ic_1) (by decide) rfl ?_
          refine a_goto (pc := 100) X 73 dX12_book_100 rfl ?_
          refine a_sub [2, 3, 0, 1] rfl ?_
          exact hk73 _ _ _ _ h
set_option maxRecDepth 100000 in
set_option maxHeartbeats 4000000 in
theorem w_X12_book_30 {p : Program} {l : Launch} {e : Env} {s : State} {m : MethodId} {args : Array Value} {below : List Frame} {meth : Method} {c : Code} {D : va_G} {tc : Nat → ClassId} {aK aV : Nat → Nat} {A : Nat → Prop} {ad0 : Nat → Nat}  (X : Cx p s m args meth c cX12_book 4 (some .int) RX12 D tc aK aV A [(shModel, ad0)]) {o : Int32 × XM}  : ∀ (n : Nat), ∀ (w0 : XM) (l1 : Int32), x_lp (φ := XM → Int32 → Option (Int32 × XM)) (fun _ _ => none) (f_X12_book_30  ) n w0 l1 = some o → aW p l e (x_Rm 7) s m args below meth c D tc A 4 [(shModel, ad0)] (some (.int o.1)) True [o.2] 30 [(0, .ref (ad0 0)), (1, .int l1)] [] [w0] := by
  intro n
  induction n with
  | zero => intro w0 l1 h; exact absurd h (fun q => by cases q)
  | succ n ih =>
    intro w0 l1 h
    have h : f_X12_book_30   (x_lp (φ := XM → Int32 → Option (Int32 × XM)) (fun _ _ => none) (f_X12_book_30  ) n) w0 l1 = some o := h
    generalize x_lp (φ := XM → Int32 → Option (Int32 × XM)) (fun _ _ => none) (f_X12_book_30  ) n = k30 at h ih
    have hk30 := ih
    unfold f_X12_book_30 at h
    refine a_aload_n (pc := 30) X 0 dX12_book_30 rfl rfl ?_
    refine a_getI (pc := 31) X 0 fl_RX12_30 rfl rfl rfl rfl dX12_book_31 ?_
    refine a_if_eq (pc := 34) X 65 dX12_book_34 rfl (fun c_34 => ?_) (fun c_34 => ?_)
    · have h := x_ifp c_34 h
      refine a_aload_n (pc := 65) X 0 dX12_book_65 rfl rfl ?_
      obtain ⟨y9, e_y9, h⟩ := x_bo_elim h
      refine a_callV (pc := 66) (st2 := []) (vs2 := [y9]) X [(0, 0, 20)] [some y9] 0 0 12 [] [] cv_RX12_392 (c_X12_layAside (ad0 := ad0)  e_y9) rfl rfl rfl rfl rfl rfl rfl rfl rfl rfl rfl rfl rfl rfl rfl (Nat.le_of_ble_eq_true rfl) ⟨Nat.le_of_ble_eq_true rfl, Nat.le_of_ble_eq_true rfl⟩ dX12_book_66 (fun _ => ?_)
      refine a_iconst (pc := 69) X dX12_book_69 q_ic_0 ?_
      refine a_istore_n (pc := 70) X [(2, .int 0), (0, .ref (ad0 0)), (1, .int l1)] dX12_book_70 rfl (by decide) rfl ?_
      refine a_iconst (pc := 71) X dX12_book_71 q_ic_0 ?_
      refine a_istore_n (pc := 72) X [(3, .int 0), (2, .int 0), (0, .ref (ad0 0)), (1, .int l1)] dX12_book_72 rfl (by decide) rfl ?_
      refine a_sub [2, 3, 1, 0] rfl ?_
      exact w_X12_book_73 X   x_NN _ _ _ _ h
    · have h := x_ifn c_34 h
      refine a_aload_n (pc := 37) X 0 dX12_book_37 rfl rfl ?_
      obtain ⟨y10, e_y10, h⟩ := x_bo_elim h
      refine a_callV (pc := 38) (st2 := [.int y10.1]) (vs2 := [y10.2]) X [(0, 0, 20)] [some y10.2] 0 0 12 [] [] cv_RX12_413 (c_X12_readBookLine (ad0 := ad0)  e_y10) rfl rfl rfl rfl rfl rfl rfl rfl rfl rfl rfl rfl rfl rfl rfl (Nat.le_of_ble_eq_true rfl) ⟨Nat.le_of_ble_eq_true rfl, Nat.le_of_ble_eq_true rfl⟩ dX12_book_38 (fun z_38 => ?_)
      refine a_if_ne (pc := 41) X 52 dX12_book_41 rfl (fun c_41 => ?_) (fun c_41 => ?_)
      · have h := x_ifn c_41 h
        refine a_aload_n (pc := 52) X 0 dX12_book_52 rfl rfl ?_
        refine a_dup (pc := 53) X dX12_book_53 rfl ?_
        refine a_getI (pc := 54) X 0 fl_RX12_407 rfl rfl rfl rfl dX12_book_54 ?_
        refine a_iconst (pc := 57) X dX12_book_57 q_ic_1 ?_
        refine a_iadd (pc := 58) X dX12_book_58 ?_
        refine a_putI (pc := 59) X 0 fl_RX12_407 rfl rfl rfl rfl dX12_book_59 ?_
        obtain ⟨m11, e_m11, h⟩ := x_lt_elim h
        refine a_nm (vs2 := [m11]) (congrArg (fun q : XM => [q]) e_m11) ?_
        refine a_goto (pc := 62) X 30 dX12_book_62 rfl ?_
        exact hk30 _ _ h
      · have h := x_ifp c_41 h
        refine a_bipush (pc := 44) X dX12_book_44 q_bp_m2 ?_
        refine a_aload_n (pc := 46) X 0 dX12_book_46 rfl rfl ?_
        refine a_getI (pc := 47) X 0 fl_RX12_69 rfl rfl rfl rfl dX12_book_47 ?_
        refine a_isub (pc := 50) X dX12_book_50 ?_
        have h := Option.some.inj h; subst h
        exact a_iret (pc := 51) X trivial dX12_book_51
set_option maxRecDepth 100000 in
set_option maxHeartbeats 4000000 in
theorem c_X12_book {l : Launch} {ad0 : Nat → Nat} {v0 : XM} {x0 : Int32}  {o : Int32 × XM} (h : f_X12_book v0 x0 = some o) : CT l yX12_book cX12_book 4 (some .int) 7 [(shModel, ad0)] [v0] (fun aK => [.ref (ad0 0), .int x0]) (some (.int o.1)) True [o.2] := by
  refine CT_of (by decide) (fun _ => Nat.le_of_ble_eq_true rfl) ?_
  intro p e s m args below meth c D tc aK aV A X
  have X : Cx p s m args meth c cX12_book 4 (some .int) RX12 D tc aK aV A [(shModel, ad0)] := X
  show aW p l e (x_Rm 7) s m args below meth c D tc A 4 [(shModel, ad0)] (some (.int o.1)) True [o.2] 0 [(0, .ref (ad0 0)), (1, .int x0)] [] [v0]
  unfold f_X12_book at h
  refine a_aload_n (pc := 0) X 0 dX12_book_0 rfl rfl ?_
  refine a_iconst (pc := 1) X dX12_book_1 q_ic_0 ?_
  refine a_putI (pc := 2) X 0 fl_RX12_1 rfl rfl rfl rfl dX12_book_2 ?_
  obtain ⟨m12, e_m12, h⟩ := x_lt_elim h
  refine a_nm (vs2 := [m12]) (congrArg (fun q : XM => [q]) e_m12) ?_
  refine a_iload_n (pc := 5) X 1 dX12_book_5 rfl rfl ?_
  refine a_iconst (pc := 6) X dX12_book_6 q_ic_0 ?_
  refine a_iconst (pc := 7) X dX12_book_7 q_ic_1 ?_
  obtain ⟨y13, e_y13, h⟩ := x_lt_elim h
  refine a_callS (pc := 8) (st2 := [.int y13]) (vs2 := [m12]) X [] [] [.int x0, .int 0, .int 1] [] cv_RX12_75 (c_X12_isIn   e_y13) rfl rfl rfl rfl rfl rfl rfl rfl rfl rfl rfl (Nat.le_of_ble_eq_true rfl) ⟨Nat.le_of_ble_eq_true rfl, Nat.le_of_ble_eq_true rfl⟩ dX12_book_8 (fun z_8 => ?_)
  refine a_if_ne (pc := 11) X 18 dX12_book_11 rfl (fun c_11 => ?_) (fun c_11 => ?_)
  · have h := x_ifn c_11 h
    refine a_aload_n (pc := 18) X 0 dX12_book_18 rfl rfl ?_
    refine a_sipush (pc := 19) X dX12_book_19 q_sp_400 ?_
    obtain ⟨y14, e_y14, h⟩ := x_bo_elim h
    refine a_callV (pc := 22) (st2 := []) (vs2 := [y14]) X [(0, 0, 20)] [some y14] 0 0 12 [.int 400] [] cv_RX12_225 (c_X12_begin (ad0 := ad0)  e_y14) rfl rfl rfl rfl rfl rfl rfl rfl rfl rfl rfl rfl rfl rfl rfl (Nat.le_of_ble_eq_true rfl) ⟨Nat.le_of_ble_eq_true rfl, Nat.le_of_ble_eq_true rfl⟩ dX12_book_22 (fun _ => ?_)
    refine a_aload_n (pc := 25) X 0 dX12_book_25 rfl rfl ?_
    refine a_iconst (pc := 26) X dX12_book_26 q_ic_0 ?_
    refine a_putI (pc := 27) X 0 fl_RX12_407 rfl rfl rfl rfl dX12_book_27 ?_
    obtain ⟨m15, e_m15, h⟩ := x_lt_elim h
    refine a_nm (vs2 := [m15]) (congrArg (fun q : XM => [q]) e_m15) ?_
    exact w_X12_book_30 X   x_NN _ _ h
  · have h := x_ifp c_11 h
    refine a_sipush (pc := 14) X dX12_book_14 q_sp_m1000 ?_
    have h := Option.some.inj h; subst h
    exact a_iret (pc := 17) X trivial dX12_book_17
theorem dX12_told_0 : decode cX12_told 0 = .ok (.aload_n 0, 1) := by decide +kernel
theorem dX12_told_1 : decode cX12_told 1 = .ok (.iconst 0, 1) := by decide +kernel
theorem dX12_told_2 : decode cX12_told 2 = .ok (.putfield 1, 3) := by decide +kernel
theorem dX12_told_5 : decode cX12_told 5 = .ok (.aload_n 0, 1) := by decide +kernel
theorem dX12_told_6 : decode cX12_told 6 = .ok (.getfield 419, 3) := by decide +kernel
theorem dX12_told_9 : decode cX12_told 9 = .ok (.ifCond .eq 21, 3) := by decide +kernel
theorem dX12_told_12 : decode cX12_told 12 = .ok (.iload_n 1, 1) := by decide +kernel
theorem dX12_told_13 : decode cX12_told 13 = .ok (.iconst 0, 1) := by decide +kernel
theorem dX12_told_14 : decode cX12_told 14 = .ok (.iconst 3, 1) := by decide +kernel
theorem dX12_told_15 : decode cX12_told 15 = .ok (.invokestatic 75, 3) := by decide +kernel
theorem dX12_told_18 : decode cX12_told 18 = .ok (.ifCond .eq 12, 3) := by decide +kernel
theorem dX12_told_21 : decode cX12_told 21 = .ok (.aload_n 0, 1) := by decide +kernel
theorem dX12_told_22 : decode cX12_told 22 = .ok (.getfield 157, 3) := by decide +kernel
theorem dX12_told_25 : decode cX12_told 25 = .ok (.iload_n 1, 1) := by decide +kernel
theorem dX12_told_26 : decode cX12_told 26 = .ok (.iaload, 1) := by decide +kernel
theorem dX12_told_27 : decode cX12_told 27 = .ok (.goto 4, 3) := by decide +kernel
theorem dX12_told_30 : decode cX12_told 30 = .ok (.iconst (-1), 1) := by decide +kernel
theorem dX12_told_31 : decode cX12_told 31 = .ok (.ireturn, 1) := by decide +kernel
def f_X12_told (v0 : XM) (x0 : Int32) : Option (Int32 × XM) :=
  x_lt (x_si v0 0 0 0) (fun m1 =>
  if (m1.1 0 41) = (0 : Int32) then
  (some ((-1), m1))
  else (x_lt (f_X12_isIn x0 0 3) (fun y2 =>
  if y2 = (0 : Int32) then
  (some ((-1), m1))
  else (x_ck x0 4 (
  some (x_ga m1 18 x0, m1))))))
set_option maxRecDepth 100000 in
set_option maxHeartbeats 4000000 in
theorem c_X12_told {l : Launch} {ad0 : Nat → Nat} {v0 : XM} {x0 : Int32}  {o : Int32 × XM} (h : f_X12_told v0 x0 = some o) : CT l yX12_told cX12_told 2 (some .int) 1 [(shModel, ad0)] [v0] (fun aK => [.ref (ad0 0), .int x0]) (some (.int o.1)) True [o.2] := by
  refine CT_of (by decide) (fun _ => Nat.le_of_ble_eq_true rfl) ?_
  intro p e s m args below meth c D tc aK aV A X
  have X : Cx p s m args meth c cX12_told 2 (some .int) RX12 D tc aK aV A [(shModel, ad0)] := X
  show aW p l e (x_Rm 1) s m args below meth c D tc A 2 [(shModel, ad0)] (some (.int o.1)) True [o.2] 0 [(0, .ref (ad0 0)), (1, .int x0)] [] [v0]
  unfold f_X12_told at h
  refine a_aload_n (pc := 0) X 0 dX12_told_0 rfl rfl ?_
  refine a_iconst (pc := 1) X dX12_told_1 q_ic_0 ?_
  refine a_putI (pc := 2) X 0 fl_RX12_1 rfl rfl rfl rfl dX12_told_2 ?_
  obtain ⟨m1, e_m1, h⟩ := x_lt_elim h
  refine a_nm (vs2 := [m1]) (congrArg (fun q : XM => [q]) e_m1) ?_
  refine a_aload_n (pc := 5) X 0 dX12_told_5 rfl rfl ?_
  refine a_getI (pc := 6) X 0 fl_RX12_419 rfl rfl rfl rfl dX12_told_6 ?_
  refine a_if_eq (pc := 9) X 30 dX12_told_9 rfl (fun c_9 => ?_) (fun c_9 => ?_)
  · have h := x_ifp c_9 h
    refine a_iconst (pc := 30) X dX12_told_30 q_ic_m1 ?_
    have h := Option.some.inj h; subst h
    exact a_iret (pc := 31) X trivial dX12_told_31
  · have h := x_ifn c_9 h
    refine a_iload_n (pc := 12) X 1 dX12_told_12 rfl rfl ?_
    refine a_iconst (pc := 13) X dX12_told_13 q_ic_0 ?_
    refine a_iconst (pc := 14) X dX12_told_14 q_ic_3 ?_
    obtain ⟨y2, e_y2, h⟩ := x_lt_elim h
    refine a_callS (pc := 15) (st2 := [.int y2]) (vs2 := [m1]) X [] [] [.int x0, .int 0, .int 3] [] cv_RX12_75 (c_X12_isIn   e_y2) rfl rfl rfl rfl rfl rfl rfl rfl rfl rfl rfl (Nat.le_of_ble_eq_true rfl) ⟨Nat.le_of_ble_eq_true rfl, Nat.le_of_ble_eq_true rfl⟩ dX12_told_15 (fun z_15 => ?_)
    refine a_if_eq (pc := 18) X 30 dX12_told_18 rfl (fun c_18 => ?_) (fun c_18 => ?_)
    · have h := x_ifp c_18 h
      refine a_iconst (pc := 30) X dX12_told_30 q_ic_m1 ?_
      have h := Option.some.inj h; subst h
      exact a_iret (pc := 31) X trivial dX12_told_31
    · have h := x_ifn c_18 h
      refine a_aload_n (pc := 21) X 0 dX12_told_21 rfl rfl ?_
      refine a_getR (pc := 22) X 0 18 fl_RX12_157 rfl rfl rfl rfl dX12_told_22 ?_
      refine a_iload_n (pc := 25) X 1 dX12_told_25 rfl rfl ?_
      obtain ⟨c_26, h⟩ := x_ck_elim h
      refine a_iald (pc := 26) X 0 rfl rfl rfl c_26 dX12_told_26 ?_
      refine a_goto (pc := 27) X 31 dX12_told_27 rfl ?_
      have h := Option.some.inj h; subst h
      exact a_iret (pc := 31) X trivial dX12_told_31
theorem dX12_saysOne_0 : decode cX12_saysOne 0 = .ok (.iconst 4, 1) := by decide +kernel
theorem dX12_saysOne_1 : decode cX12_saysOne 1 = .ok (.aload_n 0, 1) := by decide +kernel
theorem dX12_saysOne_2 : decode cX12_saysOne 2 = .ok (.getfield 426, 3) := by decide +kernel
theorem dX12_saysOne_5 : decode cX12_saysOne 5 = .ok (.imul, 1) := by decide +kernel
theorem dX12_saysOne_6 : decode cX12_saysOne 6 = .ok (.istore 5, 2) := by decide +kernel
theorem dX12_saysOne_8 : decode cX12_saysOne 8 = .ok (.aload_n 0, 1) := by decide +kernel
theorem dX12_saysOne_9 : decode cX12_saysOne 9 = .ok (.getfield 160, 3) := by decide +kernel
theorem dX12_saysOne_12 : decode cX12_saysOne 12 = .ok (.iload 5, 2) := by decide +kernel
theorem dX12_saysOne_14 : decode cX12_saysOne 14 = .ok (.iload_n 1, 1) := by decide +kernel
theorem dX12_saysOne_15 : decode cX12_saysOne 15 = .ok (.iastore, 1) := by decide +kernel
theorem dX12_saysOne_16 : decode cX12_saysOne 16 = .ok (.aload_n 0, 1) := by decide +kernel
theorem dX12_saysOne_17 : decode cX12_saysOne 17 = .ok (.getfield 160, 3) := by decide +kernel
theorem dX12_saysOne_20 : decode cX12_saysOne 20 = .ok (.iload 5, 2) := by decide +kernel
theorem dX12_saysOne_22 : decode cX12_saysOne 22 = .ok (.iconst 1, 1) := by decide +kernel
theorem dX12_saysOne_23 : decode cX12_saysOne 23 = .ok (.iadd, 1) := by decide +kernel
theorem dX12_saysOne_24 : decode cX12_saysOne 24 = .ok (.iload_n 2, 1) := by decide +kernel
theorem dX12_saysOne_25 : decode cX12_saysOne 25 = .ok (.iastore, 1) := by decide +kernel
theorem dX12_saysOne_26 : decode cX12_saysOne 26 = .ok (.aload_n 0, 1) := by decide +kernel
theorem dX12_saysOne_27 : decode cX12_saysOne 27 = .ok (.getfield 160, 3) := by decide +kernel
theorem dX12_saysOne_30 : decode cX12_saysOne 30 = .ok (.iload 5, 2) := by decide +kernel
theorem dX12_saysOne_32 : decode cX12_saysOne 32 = .ok (.iconst 2, 1) := by decide +kernel
theorem dX12_saysOne_33 : decode cX12_saysOne 33 = .ok (.iadd, 1) := by decide +kernel
theorem dX12_saysOne_34 : decode cX12_saysOne 34 = .ok (.iload_n 3, 1) := by decide +kernel
theorem dX12_saysOne_35 : decode cX12_saysOne 35 = .ok (.iastore, 1) := by decide +kernel
theorem dX12_saysOne_36 : decode cX12_saysOne 36 = .ok (.aload_n 0, 1) := by decide +kernel
theorem dX12_saysOne_37 : decode cX12_saysOne 37 = .ok (.getfield 160, 3) := by decide +kernel
theorem dX12_saysOne_40 : decode cX12_saysOne 40 = .ok (.iload 5, 2) := by decide +kernel
theorem dX12_saysOne_42 : decode cX12_saysOne 42 = .ok (.iconst 3, 1) := by decide +kernel
theorem dX12_saysOne_43 : decode cX12_saysOne 43 = .ok (.iadd, 1) := by decide +kernel
theorem dX12_saysOne_44 : decode cX12_saysOne 44 = .ok (.iload 4, 2) := by decide +kernel
theorem dX12_saysOne_46 : decode cX12_saysOne 46 = .ok (.iastore, 1) := by decide +kernel
theorem dX12_saysOne_47 : decode cX12_saysOne 47 = .ok (.aload_n 0, 1) := by decide +kernel
theorem dX12_saysOne_48 : decode cX12_saysOne 48 = .ok (.dup, 1) := by decide +kernel
theorem dX12_saysOne_49 : decode cX12_saysOne 49 = .ok (.getfield 426, 3) := by decide +kernel
theorem dX12_saysOne_52 : decode cX12_saysOne 52 = .ok (.iconst 1, 1) := by decide +kernel
theorem dX12_saysOne_53 : decode cX12_saysOne 53 = .ok (.iadd, 1) := by decide +kernel
theorem dX12_saysOne_54 : decode cX12_saysOne 54 = .ok (.putfield 426, 3) := by decide +kernel
theorem dX12_saysOne_57 : decode cX12_saysOne 57 = .ok (.aload_n 0, 1) := by decide +kernel
theorem dX12_saysOne_58 : decode cX12_saysOne 58 = .ok (.getfield 426, 3) := by decide +kernel
theorem dX12_saysOne_61 : decode cX12_saysOne 61 = .ok (.iconst 1, 1) := by decide +kernel
theorem dX12_saysOne_62 : decode cX12_saysOne 62 = .ok (.isub, 1) := by decide +kernel
theorem dX12_saysOne_63 : decode cX12_saysOne 63 = .ok (.ireturn, 1) := by decide +kernel
def f_X12_saysOne (v0 : XM) (x0 : Int32) (x1 : Int32) (x2 : Int32) (x3 : Int32) : Option (Int32 × XM) :=
  x_ck (4 * (v0.1 0 43)) 240 (
  x_lt (x_pa v0 19 (4 * (v0.1 0 43)) x0) (fun m1 =>
  x_ck ((4 * (v0.1 0 43)) + 1) 240 (
  x_lt (x_pa m1 19 ((4 * (v0.1 0 43)) + 1) x1) (fun m2 =>
  x_ck ((4 * (v0.1 0 43)) + 2) 240 (
  x_lt (x_pa m2 19 ((4 * (v0.1 0 43)) + 2) x2) (fun m3 =>
  x_ck ((4 * (v0.1 0 43)) + 3) 240 (
  x_lt (x_pa m3 19 ((4 * (v0.1 0 43)) + 3) x3) (fun m4 =>
  x_lt (x_si m4 0 43 ((m4.1 0 43) + 1)) (fun m5 =>
  some ((m5.1 0 43) - 1, m5))))))))))
set_option maxRecDepth 100000 in
set_option maxHeartbeats 4000000 in
theorem c_X12_saysOne {l : Launch} {ad0 : Nat → Nat} {v0 : XM} {x0 : Int32} {x1 : Int32} {x2 : Int32} {x3 : Int32}  {o : Int32 × XM} (h : f_X12_saysOne v0 x0 x1 x2 x3 = some o) : CT l yX12_saysOne cX12_saysOne 6 (some .int) 0 [(shModel, ad0)] [v0] (fun aK => [.ref (ad0 0), .int x0, .int x1, .int x2, .int x3]) (some (.int o.1)) True [o.2] := by
  refine CT_of (by decide) (fun _ => Nat.le_of_ble_eq_true rfl) ?_
  intro p e s m args below meth c D tc aK aV A X
  have X : Cx p s m args meth c cX12_saysOne 6 (some .int) RX12 D tc aK aV A [(shModel, ad0)] := X
  show aW p l e (x_Rm 0) s m args below meth c D tc A 6 [(shModel, ad0)] (some (.int o.1)) True [o.2] 0 [(0, .ref (ad0 0)), (1, .int x0), (2, .int x1), (3, .int x2), (4, .int x3)] [] [v0]
  unfold f_X12_saysOne at h
  refine a_iconst (pc := 0) X dX12_saysOne_0 q_ic_4 ?_
  refine a_aload_n (pc := 1) X 0 dX12_saysOne_1 rfl rfl ?_
  refine a_getI (pc := 2) X 0 fl_RX12_426 rfl rfl rfl rfl dX12_saysOne_2 ?_
  refine a_imul (pc := 5) X dX12_saysOne_5 ?_
  refine a_istore (pc := 6) X [(5, .int (4 * (v0.1 0 43))), (0, .ref (ad0 0)), (1, .int x0), (2, .int x1), (3, .int x2), (4, .int x3)] dX12_saysOne_6 (by decide) rfl ?_
  refine a_aload_n (pc := 8) X 1 dX12_saysOne_8 rfl rfl ?_
  refine a_getR (pc := 9) X 0 19 fl_RX12_160 rfl rfl rfl rfl dX12_saysOne_9 ?_
  refine a_iload (pc := 12) X 0 dX12_saysOne_12 rfl ?_
  refine a_iload_n (pc := 14) X 2 dX12_saysOne_14 rfl rfl ?_
  obtain ⟨c_15, h⟩ := x_ck_elim h
  refine a_iast (pc := 15) X 0 rfl rfl rfl c_15 dX12_saysOne_15 ?_
  obtain ⟨m1, e_m1, h⟩ := x_lt_elim h
  refine a_nm (vs2 := [m1]) (congrArg (fun q : XM => [q]) e_m1) ?_
  refine a_aload_n (pc := 16) X 1 dX12_saysOne_16 rfl rfl ?_
  refine a_getR (pc := 17) X 0 19 fl_RX12_160 rfl rfl rfl rfl dX12_saysOne_17 ?_
  refine a_iload (pc := 20) X 0 dX12_saysOne_20 rfl ?_
  refine a_iconst (pc := 22) X dX12_saysOne_22 q_ic_1 ?_
  refine a_iadd (pc := 23) X dX12_saysOne_23 ?_
  refine a_iload_n (pc := 24) X 3 dX12_saysOne_24 rfl rfl ?_
  obtain ⟨c_25, h⟩ := x_ck_elim h
  refine a_iast (pc := 25) X 0 rfl rfl rfl c_25 dX12_saysOne_25 ?_
  obtain ⟨m2, e_m2, h⟩ := x_lt_elim h
  refine a_nm (vs2 := [m2]) (congrArg (fun q : XM => [q]) e_m2) ?_
  refine a_aload_n (pc := 26) X 1 dX12_saysOne_26 rfl rfl ?_
  refine a_getR (pc := 27) X 0 19 fl_RX12_160 rfl rfl rfl rfl dX12_saysOne_27 ?_
  refine a_iload (pc := 30) X 0 dX12_saysOne_30 rfl ?_
  refine a_iconst (pc := 32) X dX12_saysOne_32 q_ic_2 ?_
  refine a_iadd (pc := 33) X dX12_saysOne_33 ?_
  refine a_iload_n (pc := 34) X 4 dX12_saysOne_34 rfl rfl ?_
  obtain ⟨c_35, h⟩ := x_ck_elim h
  refine a_iast (pc := 35) X 0 rfl rfl rfl c_35 dX12_saysOne_35 ?_
  obtain ⟨m3, e_m3, h⟩ := x_lt_elim h
  refine a_nm (vs2 := [m3]) (congrArg (fun q : XM => [q]) e_m3) ?_
  refine a_aload_n (pc := 36) X 1 dX12_saysOne_36 rfl rfl ?_
  refine a_getR (pc := 37) X 0 19 fl_RX12_160 rfl rfl rfl rfl dX12_saysOne_37 ?_
  refine a_iload (pc := 40) X 0 dX12_saysOne_40 rfl ?_
  refine a_iconst (pc := 42) X dX12_saysOne_42 q_ic_3 ?_
  refine a_iadd (pc := 43) X dX12_saysOne_43 ?_
  refine a_iload (pc := 44) X 5 dX12_saysOne_44 rfl ?_
  obtain ⟨c_46, h⟩ := x_ck_elim h
  refine a_iast (pc := 46) X 0 rfl rfl rfl c_46 dX12_saysOne_46 ?_
  obtain ⟨m4, e_m4, h⟩ := x_lt_elim h
  refine a_nm (vs2 := [m4]) (congrArg (fun q : XM => [q]) e_m4) ?_
  refine a_aload_n (pc := 47) X 1 dX12_saysOne_47 rfl rfl ?_
  refine a_dup (pc := 48) X dX12_saysOne_48 rfl ?_
  refine a_getI (pc := 49) X 0 fl_RX12_426 rfl rfl rfl rfl dX12_saysOne_49 ?_
  refine a_iconst (pc := 52) X dX12_saysOne_52 q_ic_1 ?_
  refine a_iadd (pc := 53) X dX12_saysOne_53 ?_
  refine a_putI (pc := 54) X 0 fl_RX12_426 rfl rfl rfl rfl dX12_saysOne_54 ?_
  obtain ⟨m5, e_m5, h⟩ := x_lt_elim h
  refine a_nm (vs2 := [m5]) (congrArg (fun q : XM => [q]) e_m5) ?_
  refine a_aload_n (pc := 57) X 1 dX12_saysOne_57 rfl rfl ?_
  refine a_getI (pc := 58) X 0 fl_RX12_426 rfl rfl rfl rfl dX12_saysOne_58 ?_
  refine a_iconst (pc := 61) X dX12_saysOne_61 q_ic_1 ?_
  refine a_isub (pc := 62) X dX12_saysOne_62 ?_
  have h := Option.some.inj h; subst h
  exact a_iret (pc := 63) X trivial dX12_saysOne_63
theorem dX12_readOf_0 : decode cX12_readOf 0 = .ok (.aload_n 0, 1) := by decide +kernel
theorem dX12_readOf_1 : decode cX12_readOf 1 = .ok (.iload_n 1, 1) := by decide +kernel
theorem dX12_readOf_2 : decode cX12_readOf 2 = .ok (.bipush 23, 2) := by decide +kernel
theorem dX12_readOf_4 : decode cX12_readOf 4 = .ok (.if_icmp .ne 7, 3) := by decide +kernel
theorem dX12_readOf_7 : decode cX12_readOf 7 = .ok (.iconst 0, 1) := by decide +kernel
theorem dX12_readOf_8 : decode cX12_readOf 8 = .ok (.goto 5, 3) := by decide +kernel
theorem dX12_readOf_11 : decode cX12_readOf 11 = .ok (.bipush 8, 2) := by decide +kernel
theorem dX12_readOf_13 : decode cX12_readOf 13 = .ok (.aload_n 0, 1) := by decide +kernel
theorem dX12_readOf_14 : decode cX12_readOf 14 = .ok (.getfield 98, 3) := by decide +kernel
theorem dX12_readOf_17 : decode cX12_readOf 17 = .ok (.iload_n 1, 1) := by decide +kernel
theorem dX12_readOf_18 : decode cX12_readOf 18 = .ok (.bipush 23, 2) := by decide +kernel
theorem dX12_readOf_20 : decode cX12_readOf 20 = .ok (.if_icmp .ne 7, 3) := by decide +kernel
theorem dX12_readOf_23 : decode cX12_readOf 23 = .ok (.iconst 0, 1) := by decide +kernel
theorem dX12_readOf_24 : decode cX12_readOf 24 = .ok (.goto 4, 3) := by decide +kernel
theorem dX12_readOf_27 : decode cX12_readOf 27 = .ok (.iconst 2, 1) := by decide +kernel
theorem dX12_readOf_28 : decode cX12_readOf 28 = .ok (.iaload, 1) := by decide +kernel
theorem dX12_readOf_29 : decode cX12_readOf 29 = .ok (.invokevirtual 404, 3) := by decide +kernel
theorem dX12_readOf_32 : decode cX12_readOf 32 = .ok (.ifCond .ne 5, 3) := by decide +kernel
theorem dX12_readOf_35 : decode cX12_readOf 35 = .ok (.iconst 0, 1) := by decide +kernel
theorem dX12_readOf_36 : decode cX12_readOf 36 = .ok (.ireturn, 1) := by decide +kernel
theorem dX12_readOf_37 : decode cX12_readOf 37 = .ok (.aload_n 0, 1) := by decide +kernel
theorem dX12_readOf_38 : decode cX12_readOf 38 = .ok (.aload_n 0, 1) := by decide +kernel
theorem dX12_readOf_39 : decode cX12_readOf 39 = .ok (.bipush 50, 2) := by decide +kernel
theorem dX12_readOf_41 : decode cX12_readOf 41 = .ok (.iload_n 1, 1) := by decide +kernel
theorem dX12_readOf_42 : decode cX12_readOf 42 = .ok (.iadd, 1) := by decide +kernel
theorem dX12_readOf_43 : decode cX12_readOf 43 = .ok (.aload_n 0, 1) := by decide +kernel
theorem dX12_readOf_44 : decode cX12_readOf 44 = .ok (.getfield 79, 3) := by decide +kernel
theorem dX12_readOf_47 : decode cX12_readOf 47 = .ok (.iconst 0, 1) := by decide +kernel
theorem dX12_readOf_48 : decode cX12_readOf 48 = .ok (.iconst 0, 1) := by decide +kernel
theorem dX12_readOf_49 : decode cX12_readOf 49 = .ok (.invokevirtual 435, 3) := by decide +kernel
theorem dX12_readOf_52 : decode cX12_readOf 52 = .ok (.putfield 432, 3) := by decide +kernel
theorem dX12_readOf_55 : decode cX12_readOf 55 = .ok (.iconst 1, 1) := by decide +kernel
theorem dX12_readOf_56 : decode cX12_readOf 56 = .ok (.ireturn, 1) := by decide +kernel
def f_X12_readOf_28 (w0 : XM) (l1 : Int32) (s1 : Int32) (s3 : Int32) : Option (Int32 × XM) :=
  x_ck s3 353 (
  x_bo (f_X12_readNamed w0 s1 (x_ga w0 2 s3)) (fun y1 =>
  if y1.1 = (0 : Int32) then
  (some (0, y1.2))
  else (x_bo (f_X12_saysOne y1.2 (50 + l1) (y1.2.1 0 13) 0 0) (fun y2 =>
  x_lt (x_si y2.2 0 46 y2.1) (fun m3 =>
  some (1, m3))))))
def f_X12_readOf_13 (w0 : XM) (l1 : Int32) (s1 : Int32) : Option (Int32 × XM) :=
  if (l1 : Int32) = 23 then
  (f_X12_readOf_28   w0 l1 s1 0)
  else (f_X12_readOf_28   w0 l1 s1 2)
def f_X12_readOf (v0 : XM) (x0 : Int32) : Option (Int32 × XM) :=
  if (x0 : Int32) = 23 then
  (f_X12_readOf_13   v0 x0 0)
  else (f_X12_readOf_13   v0 x0 8)
set_option maxRecDepth 100000 in
set_option maxHeartbeats 4000000 in
theorem w_X12_readOf_28 {p : Program} {l : Launch} {e : Env} {s : State} {m : MethodId} {args : Array Value} {below : List Frame} {meth : Method} {c : Code} {D : va_G} {tc : Nat → ClassId} {aK aV : Nat → Nat} {A : Nat → Prop} {ad0 : Nat → Nat}  (X : Cx p s m args meth c cX12_readOf 2 (some .boolean) RX12 D tc aK aV A [(shModel, ad0)]) {o : Int32 × XM}  {w0 : XM} {l1 : Int32} {s1 : Int32} {s3 : Int32}  (h : f_X12_readOf_28   w0 l1 s1 s3 = some o) : aW p l e (x_Rm 4) s m args below meth c D tc A 2 [(shModel, ad0)] (some (.int o.1)) (x_Z o.1) [o.2] 28 [(0, .ref (ad0 0)), (1, .int l1)] [.int s3, .ref (ad0 2), .int s1, .ref (ad0 0)] [w0] := by
  unfold f_X12_readOf_28 at h
  obtain ⟨c_28, h⟩ := x_ck_elim h
  refine a_iald (pc := 28) X 0 rfl rfl rfl c_28 dX12_readOf_28 ?_
  obtain ⟨y1, e_y1, h⟩ := x_bo_elim h
  refine a_callV (pc := 29) (st2 := [.int y1.1]) (vs2 := [y1.2]) X [(0, 0, 20)] [some y1.2] 0 0 12 [.int s1, .int (x_ga w0 2 s3)] [] cv_RX12_404 (c_X12_readNamed (ad0 := ad0)  e_y1) rfl rfl rfl rfl rfl rfl rfl rfl rfl rfl rfl rfl rfl rfl rfl (Nat.le_of_ble_eq_true rfl) ⟨Nat.le_of_ble_eq_true rfl, Nat.le_of_ble_eq_true rfl⟩ dX12_readOf_29 (fun z_29 => ?_)
  refine a_if_ne (pc := 32) X 37 dX12_readOf_32 rfl (fun c_32 => ?_) (fun c_32 => ?_)
  · have h := x_ifn c_32 h
    refine a_aload_n (pc := 37) X 0 dX12_readOf_37 rfl rfl ?_
    refine a_aload_n (pc := 38) X 0 dX12_readOf_38 rfl rfl ?_
    refine a_bipush (pc := 39) X dX12_readOf_39 q_bp_50 ?_
    refine a_iload_n (pc := 41) X 1 dX12_readOf_41 rfl rfl ?_
    refine a_iadd (pc := 42) X dX12_readOf_42 ?_
    refine a_aload_n (pc := 43) X 0 dX12_readOf_43 rfl rfl ?_
    refine a_getI (pc := 44) X 0 fl_RX12_79 rfl rfl rfl rfl dX12_readOf_44 ?_
    refine a_iconst (pc := 47) X dX12_readOf_47 q_ic_0 ?_
    refine a_iconst (pc := 48) X dX12_readOf_48 q_ic_0 ?_
    obtain ⟨y2, e_y2, h⟩ := x_bo_elim h
    refine a_callV (pc := 49) (st2 := [.int y2.1, .ref (ad0 0)]) (vs2 := [y2.2]) X [(0, 0, 20)] [some y2.2] 0 0 12 [.int (50 + l1), .int (y1.2.1 0 13), .int 0, .int 0] [.ref (ad0 0)] cv_RX12_435 (c_X12_saysOne (ad0 := ad0)  e_y2) rfl rfl rfl rfl rfl rfl rfl rfl rfl rfl rfl rfl rfl rfl rfl (Nat.le_of_ble_eq_true rfl) ⟨Nat.le_of_ble_eq_true rfl, Nat.le_of_ble_eq_true rfl⟩ dX12_readOf_49 (fun _ => ?_)
    refine a_putI (pc := 52) X 0 fl_RX12_432 rfl rfl rfl rfl dX12_readOf_52 ?_
    obtain ⟨m3, e_m3, h⟩ := x_lt_elim h
    refine a_nm (vs2 := [m3]) (congrArg (fun q : XM => [q]) e_m3) ?_
    refine a_iconst (pc := 55) X dX12_readOf_55 q_ic_1 ?_
    have h := Option.some.inj h; subst h
    exact a_zret (pc := 56) X x_Z1 x_Z1 dX12_readOf_56
  · have h := x_ifp c_32 h
    refine a_iconst (pc := 35) X dX12_readOf_35 q_ic_0 ?_
    have h := Option.some.inj h; subst h
    exact a_zret (pc := 36) X x_Z0 x_Z0 dX12_readOf_36
set_option maxRecDepth 100000 in
set_option maxHeartbeats 4000000 in
theorem w_X12_readOf_13 {p : Program} {l : Launch} {e : Env} {s : State} {m : MethodId} {args : Array Value} {below : List Frame} {meth : Method} {c : Code} {D : va_G} {tc : Nat → ClassId} {aK aV : Nat → Nat} {A : Nat → Prop} {ad0 : Nat → Nat}  (X : Cx p s m args meth c cX12_readOf 2 (some .boolean) RX12 D tc aK aV A [(shModel, ad0)]) {o : Int32 × XM}  {w0 : XM} {l1 : Int32} {s1 : Int32}  (h : f_X12_readOf_13   w0 l1 s1 = some o) : aW p l e (x_Rm 4) s m args below meth c D tc A 2 [(shModel, ad0)] (some (.int o.1)) (x_Z o.1) [o.2] 13 [(0, .ref (ad0 0)), (1, .int l1)] [.int s1, .ref (ad0 0)] [w0] := by
  unfold f_X12_readOf_13 at h
  refine a_aload_n (pc := 13) X 0 dX12_readOf_13 rfl rfl ?_
  refine a_getR (pc := 14) X 0 2 fl_RX12_98 rfl rfl rfl rfl dX12_readOf_14 ?_
  refine a_iload_n (pc := 17) X 1 dX12_readOf_17 rfl rfl ?_
  refine a_bipush (pc := 18) X dX12_readOf_18 q_bp_23 ?_
  refine a_icmp_ne (pc := 20) X 27 dX12_readOf_20 rfl (fun c_20 => ?_) (fun c_20 => ?_)
  · have h := x_ifn c_20 h
    refine a_iconst (pc := 27) X dX12_readOf_27 q_ic_2 ?_
    exact w_X12_readOf_28 X    h
  · have h := x_ifp c_20 h
    refine a_iconst (pc := 23) X dX12_readOf_23 q_ic_0 ?_
    refine a_goto (pc := 24) X 28 dX12_readOf_24 rfl ?_
    exact w_X12_readOf_28 X    h
set_option maxRecDepth 100000 in
set_option maxHeartbeats 4000000 in
theorem c_X12_readOf {l : Launch} {ad0 : Nat → Nat} {v0 : XM} {x0 : Int32}  {o : Int32 × XM} (h : f_X12_readOf v0 x0 = some o) : CT l yX12_readOf cX12_readOf 2 (some .boolean) 4 [(shModel, ad0)] [v0] (fun aK => [.ref (ad0 0), .int x0]) (some (.int o.1)) (x_Z o.1) [o.2] := by
  refine CT_of (by decide) (fun _ => Nat.le_of_ble_eq_true rfl) ?_
  intro p e s m args below meth c D tc aK aV A X
  have X : Cx p s m args meth c cX12_readOf 2 (some .boolean) RX12 D tc aK aV A [(shModel, ad0)] := X
  show aW p l e (x_Rm 4) s m args below meth c D tc A 2 [(shModel, ad0)] (some (.int o.1)) (x_Z o.1) [o.2] 0 [(0, .ref (ad0 0)), (1, .int x0)] [] [v0]
  unfold f_X12_readOf at h
  refine a_aload_n (pc := 0) X 0 dX12_readOf_0 rfl rfl ?_
  refine a_iload_n (pc := 1) X 1 dX12_readOf_1 rfl rfl ?_
  refine a_bipush (pc := 2) X dX12_readOf_2 q_bp_23 ?_
  refine a_icmp_ne (pc := 4) X 11 dX12_readOf_4 rfl (fun c_4 => ?_) (fun c_4 => ?_)
  · have h := x_ifn c_4 h
    refine a_bipush (pc := 11) X dX12_readOf_11 q_bp_8 ?_
    exact w_X12_readOf_13 X    h
  · have h := x_ifp c_4 h
    refine a_iconst (pc := 7) X dX12_readOf_7 q_ic_0 ?_
    refine a_goto (pc := 8) X 13 dX12_readOf_8 rfl ?_
    exact w_X12_readOf_13 X    h
theorem dX12_readCompare_0 : decode cX12_readCompare 0 = .ok (.aload_n 0, 1) := by decide +kernel
theorem dX12_readCompare_1 : decode cX12_readCompare 1 = .ok (.bipush 60, 2) := by decide +kernel
theorem dX12_readCompare_3 : decode cX12_readCompare 3 = .ok (.invokevirtual 86, 3) := by decide +kernel
theorem dX12_readCompare_6 : decode cX12_readCompare 6 = .ok (.ifCond .ne 27, 3) := by decide +kernel
theorem dX12_readCompare_9 : decode cX12_readCompare 9 = .ok (.aload_n 0, 1) := by decide +kernel
theorem dX12_readCompare_10 : decode cX12_readCompare 10 = .ok (.bipush 61, 2) := by decide +kernel
theorem dX12_readCompare_12 : decode cX12_readCompare 12 = .ok (.invokevirtual 86, 3) := by decide +kernel
theorem dX12_readCompare_15 : decode cX12_readCompare 15 = .ok (.ifCond .ne 18, 3) := by decide +kernel
theorem dX12_readCompare_18 : decode cX12_readCompare 18 = .ok (.aload_n 0, 1) := by decide +kernel
theorem dX12_readCompare_19 : decode cX12_readCompare 19 = .ok (.bipush 62, 2) := by decide +kernel
theorem dX12_readCompare_21 : decode cX12_readCompare 21 = .ok (.invokevirtual 86, 3) := by decide +kernel
theorem dX12_readCompare_24 : decode cX12_readCompare 24 = .ok (.ifCond .ne 9, 3) := by decide +kernel
theorem dX12_readCompare_27 : decode cX12_readCompare 27 = .ok (.aload_n 0, 1) := by decide +kernel
theorem dX12_readCompare_28 : decode cX12_readCompare 28 = .ok (.iconst 1, 1) := by decide +kernel
theorem dX12_readCompare_29 : decode cX12_readCompare 29 = .ok (.invokevirtual 72, 3) := by decide +kernel
theorem dX12_readCompare_32 : decode cX12_readCompare 32 = .ok (.ireturn, 1) := by decide +kernel
theorem dX12_readCompare_33 : decode cX12_readCompare 33 = .ok (.aload_n 0, 1) := by decide +kernel
theorem dX12_readCompare_34 : decode cX12_readCompare 34 = .ok (.getfield 40, 3) := by decide +kernel
theorem dX12_readCompare_37 : decode cX12_readCompare 37 = .ok (.istore_n 2, 1) := by decide +kernel
theorem dX12_readCompare_38 : decode cX12_readCompare 38 = .ok (.aload_n 0, 1) := by decide +kernel
theorem dX12_readCompare_39 : decode cX12_readCompare 39 = .ok (.invokevirtual 82, 3) := by decide +kernel
theorem dX12_readCompare_42 : decode cX12_readCompare 42 = .ok (.aload_n 0, 1) := by decide +kernel
theorem dX12_readCompare_43 : decode cX12_readCompare 43 = .ok (.iconst 0, 1) := by decide +kernel
theorem dX12_readCompare_44 : decode cX12_readCompare 44 = .ok (.sipush 999, 3) := by decide +kernel
theorem dX12_readCompare_47 : decode cX12_readCompare 47 = .ok (.invokevirtual 196, 3) := by decide +kernel
theorem dX12_readCompare_50 : decode cX12_readCompare 50 = .ok (.ifCond .ne 5, 3) := by decide +kernel
theorem dX12_readCompare_53 : decode cX12_readCompare 53 = .ok (.iconst 0, 1) := by decide +kernel
theorem dX12_readCompare_54 : decode cX12_readCompare 54 = .ok (.ireturn, 1) := by decide +kernel
theorem dX12_readCompare_55 : decode cX12_readCompare 55 = .ok (.aload_n 0, 1) := by decide +kernel
theorem dX12_readCompare_56 : decode cX12_readCompare 56 = .ok (.aload_n 0, 1) := by decide +kernel
theorem dX12_readCompare_57 : decode cX12_readCompare 57 = .ok (.bipush 50, 2) := by decide +kernel
theorem dX12_readCompare_59 : decode cX12_readCompare 59 = .ok (.iload_n 1, 1) := by decide +kernel
theorem dX12_readCompare_60 : decode cX12_readCompare 60 = .ok (.iadd, 1) := by decide +kernel
theorem dX12_readCompare_61 : decode cX12_readCompare 61 = .ok (.iconst 0, 1) := by decide +kernel
theorem dX12_readCompare_62 : decode cX12_readCompare 62 = .ok (.aload_n 0, 1) := by decide +kernel
theorem dX12_readCompare_63 : decode cX12_readCompare 63 = .ok (.getfield 79, 3) := by decide +kernel
theorem dX12_readCompare_66 : decode cX12_readCompare 66 = .ok (.iload_n 2, 1) := by decide +kernel
theorem dX12_readCompare_67 : decode cX12_readCompare 67 = .ok (.invokevirtual 435, 3) := by decide +kernel
theorem dX12_readCompare_70 : decode cX12_readCompare 70 = .ok (.putfield 432, 3) := by decide +kernel
theorem dX12_readCompare_73 : decode cX12_readCompare 73 = .ok (.iconst 1, 1) := by decide +kernel
theorem dX12_readCompare_74 : decode cX12_readCompare 74 = .ok (.ireturn, 1) := by decide +kernel
def f_X12_readCompare_33 (w0 : XM) (l1 : Int32) : Option (Int32 × XM) :=
  x_bo (f_X12_go w0) (fun y1 =>
  x_bo (f_X12_readNumber y1 0 999) (fun y2 =>
  if y2.1 = (0 : Int32) then
  (some (0, y2.2))
  else (x_bo (f_X12_saysOne y2.2 (50 + l1) 0 (y2.2.1 0 13) (w0.1 0 9)) (fun y3 =>
  x_lt (x_si y3.2 0 46 y3.1) (fun m4 =>
  some (1, m4))))))
def f_X12_readCompare (v0 : XM) (x0 : Int32) : Option (Int32 × XM) :=
  x_lt (f_X12_isSign v0 60) (fun y5 =>
  if y5 = (0 : Int32) then
  (x_lt (f_X12_isSign v0 61) (fun y6 =>
  if y6 = (0 : Int32) then
  (x_lt (f_X12_isSign v0 62) (fun y7 =>
  if y7 = (0 : Int32) then
  (x_lt (f_X12_bad v0 1) (fun y8 =>
  some (y8.1, y8.2)))
  else (f_X12_readCompare_33   v0 x0)))
  else (f_X12_readCompare_33   v0 x0)))
  else (f_X12_readCompare_33   v0 x0))
set_option maxRecDepth 100000 in
set_option maxHeartbeats 4000000 in
theorem w_X12_readCompare_33 {p : Program} {l : Launch} {e : Env} {s : State} {m : MethodId} {args : Array Value} {below : List Frame} {meth : Method} {c : Code} {D : va_G} {tc : Nat → ClassId} {aK aV : Nat → Nat} {A : Nat → Prop} {ad0 : Nat → Nat}  (X : Cx p s m args meth c cX12_readCompare 3 (some .boolean) RX12 D tc aK aV A [(shModel, ad0)]) {o : Int32 × XM}  {w0 : XM} {l1 : Int32}  (h : f_X12_readCompare_33   w0 l1 = some o) : aW p l e (x_Rm 3) s m args below meth c D tc A 3 [(shModel, ad0)] (some (.int o.1)) (x_Z o.1) [o.2] 33 [(0, .ref (ad0 0)), (1, .int l1)] [] [w0] := by
  unfold f_X12_readCompare_33 at h
  refine a_aload_n (pc := 33) X 0 dX12_readCompare_33 rfl rfl ?_
  refine a_getI (pc := 34) X 0 fl_RX12_40 rfl rfl rfl rfl dX12_readCompare_34 ?_
  refine a_istore_n (pc := 37) X [(2, .int (w0.1 0 9)), (0, .ref (ad0 0)), (1, .int l1)] dX12_readCompare_37 rfl (by decide) rfl ?_
  refine a_aload_n (pc := 38) X 1 dX12_readCompare_38 rfl rfl ?_
  obtain ⟨y1, e_y1, h⟩ := x_bo_elim h
  refine a_callV (pc := 39) (st2 := []) (vs2 := [y1]) X [(0, 0, 20)] [some y1] 0 0 12 [] [] cv_RX12_82 (c_X12_go (ad0 := ad0)  e_y1) rfl rfl rfl rfl rfl rfl rfl rfl rfl rfl rfl rfl rfl rfl rfl (Nat.le_of_ble_eq_true rfl) ⟨Nat.le_of_ble_eq_true rfl, Nat.le_of_ble_eq_true rfl⟩ dX12_readCompare_39 (fun _ => ?_)
  refine a_aload_n (pc := 42) X 1 dX12_readCompare_42 rfl rfl ?_
  refine a_iconst (pc := 43) X dX12_readCompare_43 q_ic_0 ?_
  refine a_sipush (pc := 44) X dX12_readCompare_44 q_sp_999 ?_
  obtain ⟨y2, e_y2, h⟩ := x_bo_elim h
  refine a_callV (pc := 47) (st2 := [.int y2.1]) (vs2 := [y2.2]) X [(0, 0, 20)] [some y2.2] 0 0 12 [.int 0, .int 999] [] cv_RX12_196 (c_X12_readNumber (ad0 := ad0)  e_y2) rfl rfl rfl rfl rfl rfl rfl rfl rfl rfl rfl rfl rfl rfl rfl (Nat.le_of_ble_eq_true rfl) ⟨Nat.le_of_ble_eq_true rfl, Nat.le_of_ble_eq_true rfl⟩ dX12_readCompare_47 (fun z_47 => ?_)
  refine a_if_ne (pc := 50) X 55 dX12_readCompare_50 rfl (fun c_50 => ?_) (fun c_50 => ?_)
  · have h := x_ifn c_50 h
    refine a_aload_n (pc := 55) X 1 dX12_readCompare_55 rfl rfl ?_
    refine a_aload_n (pc := 56) X 1 dX12_readCompare_56 rfl rfl ?_
    refine a_bipush (pc := 57) X dX12_readCompare_57 q_bp_50 ?_
    refine a_iload_n (pc := 59) X 2 dX12_readCompare_59 rfl rfl ?_
    refine a_iadd (pc := 60) X dX12_readCompare_60 ?_
    refine a_iconst (pc := 61) X dX12_readCompare_61 q_ic_0 ?_
    refine a_aload_n (pc := 62) X 1 dX12_readCompare_62 rfl rfl ?_
    refine a_getI (pc := 63) X 0 fl_RX12_79 rfl rfl rfl rfl dX12_readCompare_63 ?_
    refine a_iload_n (pc := 66) X 0 dX12_readCompare_66 rfl rfl ?_
    obtain ⟨y3, e_y3, h⟩ := x_bo_elim h
    refine a_callV (pc := 67) (st2 := [.int y3.1, .ref (ad0 0)]) (vs2 := [y3.2]) X [(0, 0, 20)] [some y3.2] 0 0 12 [.int (50 + l1), .int 0, .int (y2.2.1 0 13), .int (w0.1 0 9)] [.ref (ad0 0)] cv_RX12_435 (c_X12_saysOne (ad0 := ad0)  e_y3) rfl rfl rfl rfl rfl rfl rfl rfl rfl rfl rfl rfl rfl rfl rfl (Nat.le_of_ble_eq_true rfl) ⟨Nat.le_of_ble_eq_true rfl, Nat.le_of_ble_eq_true rfl⟩ dX12_readCompare_67 (fun _ => ?_)
    refine a_putI (pc := 70) X 0 fl_RX12_432 rfl rfl rfl rfl dX12_readCompare_70 ?_
    obtain ⟨m4, e_m4, h⟩ := x_lt_elim h
    refine a_nm (vs2 := [m4]) (congrArg (fun q : XM => [q]) e_m4) ?_
    refine a_iconst (pc := 73) X dX12_readCompare_73 q_ic_1 ?_
    have h := Option.some.inj h; subst h
    exact a_zret (pc := 74) X x_Z1 x_Z1 dX12_readCompare_74
  · have h := x_ifp c_50 h
    refine a_iconst (pc := 53) X dX12_readCompare_53 q_ic_0 ?_
    have h := Option.some.inj h; subst h
    exact a_zret (pc := 54) X x_Z0 x_Z0 dX12_readCompare_54
set_option maxRecDepth 100000 in
set_option maxHeartbeats 4000000 in
theorem c_X12_readCompare {l : Launch} {ad0 : Nat → Nat} {v0 : XM} {x0 : Int32}  {o : Int32 × XM} (h : f_X12_readCompare v0 x0 = some o) : CT l yX12_readCompare cX12_readCompare 3 (some .boolean) 3 [(shModel, ad0)] [v0] (fun aK => [.ref (ad0 0), .int x0]) (some (.int o.1)) (x_Z o.1) [o.2] := by
  refine CT_of (by decide) (fun _ => Nat.le_of_ble_eq_true rfl) ?_
  intro p e s m args below meth c D tc aK aV A X
  have X : Cx p s m args meth c cX12_readCompare 3 (some .boolean) RX12 D tc aK aV A [(shModel, ad0)] := X
  show aW p l e (x_Rm 3) s m args below meth c D tc A 3 [(shModel, ad0)] (some (.int o.1)) (x_Z o.1) [o.2] 0 [(0, .ref (ad0 0)), (1, .int x0)] [] [v0]
  unfold f_X12_readCompare at h
  refine a_aload_n (pc := 0) X 0 dX12_readCompare_0 rfl rfl ?_
  refine a_bipush (pc := 1) X dX12_readCompare_1 q_bp_60 ?_
  obtain ⟨y5, e_y5, h⟩ := x_lt_elim h
  refine a_callV (pc := 3) (st2 := [.int y5]) (vs2 := [v0]) X [(0, 0, 20)] [none] 0 0 12 [.int 60] [] cv_RX12_86 (c_X12_isSign (ad0 := ad0)  e_y5) rfl rfl rfl rfl rfl rfl rfl rfl rfl rfl rfl rfl rfl rfl rfl (Nat.le_of_ble_eq_true rfl) ⟨Nat.le_of_ble_eq_true rfl, Nat.le_of_ble_eq_true rfl⟩ dX12_readCompare_3 (fun z_3 => ?_)
  refine a_if_ne (pc := 6) X 33 dX12_readCompare_6 rfl (fun c_6 => ?_) (fun c_6 => ?_)
  · have h := x_ifn c_6 h
    exact w_X12_readCompare_33 X    h
  · have h := x_ifp c_6 h
    refine a_aload_n (pc := 9) X 0 dX12_readCompare_9 rfl rfl ?_
    refine a_bipush (pc := 10) X dX12_readCompare_10 q_bp_61 ?_
    obtain ⟨y6, e_y6, h⟩ := x_lt_elim h
    refine a_callV (pc := 12) (st2 := [.int y6]) (vs2 := [v0]) X [(0, 0, 20)] [none] 0 0 12 [.int 61] [] cv_RX12_86 (c_X12_isSign (ad0 := ad0)  e_y6) rfl rfl rfl rfl rfl rfl rfl rfl rfl rfl rfl rfl rfl rfl rfl (Nat.le_of_ble_eq_true rfl) ⟨Nat.le_of_ble_eq_true rfl, Nat.le_of_ble_eq_true rfl⟩ dX12_readCompare_12 (fun z_12 => ?_)
    refine a_if_ne (pc := 15) X 33 dX12_readCompare_15 rfl (fun c_15 => ?_) (fun c_15 => ?_)
    · have h := x_ifn c_15 h
      exact w_X12_readCompare_33 X    h
    · have h := x_ifp c_15 h
      refine a_aload_n (pc := 18) X 0 dX12_readCompare_18 rfl rfl ?_
      refine a_bipush (pc := 19) X dX12_readCompare_19 q_bp_62 ?_
      obtain ⟨y7, e_y7, h⟩ := x_lt_elim h
      refine a_callV (pc := 21) (st2 := [.int y7]) (vs2 := [v0]) X [(0, 0, 20)] [none] 0 0 12 [.int 62] [] cv_RX12_86 (c_X12_isSign (ad0 := ad0)  e_y7) rfl rfl rfl rfl rfl rfl rfl rfl rfl rfl rfl rfl rfl rfl rfl (Nat.le_of_ble_eq_true rfl) ⟨Nat.le_of_ble_eq_true rfl, Nat.le_of_ble_eq_true rfl⟩ dX12_readCompare_21 (fun z_21 => ?_)
      refine a_if_ne (pc := 24) X 33 dX12_readCompare_24 rfl (fun c_24 => ?_) (fun c_24 => ?_)
      · have h := x_ifn c_24 h
        exact w_X12_readCompare_33 X    h
      · have h := x_ifp c_24 h
        refine a_aload_n (pc := 27) X 0 dX12_readCompare_27 rfl rfl ?_
        refine a_iconst (pc := 28) X dX12_readCompare_28 q_ic_1 ?_
        obtain ⟨y8, e_y8, h⟩ := x_lt_elim h
        refine a_callV (pc := 29) (st2 := [.int y8.1]) (vs2 := [y8.2]) X [(0, 0, 20)] [some y8.2] 0 0 12 [.int 1] [] cv_RX12_72 (c_X12_bad (ad0 := ad0)  e_y8) rfl rfl rfl rfl rfl rfl rfl rfl rfl rfl rfl rfl rfl rfl rfl (Nat.le_of_ble_eq_true rfl) ⟨Nat.le_of_ble_eq_true rfl, Nat.le_of_ble_eq_true rfl⟩ dX12_readCompare_29 (fun z_29 => ?_)
        have h := Option.some.inj h; subst h
        exact a_zret (pc := 32) X z_29 z_29 dX12_readCompare_32
theorem dX12_image_0 : decode cX12_image 0 = .ok (.aload_n 0, 1) := by decide +kernel
theorem dX12_image_1 : decode cX12_image 1 = .ok (.iconst 0, 1) := by decide +kernel
theorem dX12_image_2 : decode cX12_image 2 = .ok (.putfield 1, 3) := by decide +kernel
theorem dX12_image_5 : decode cX12_image 5 = .ok (.iload_n 1, 1) := by decide +kernel
theorem dX12_image_6 : decode cX12_image 6 = .ok (.iconst 0, 1) := by decide +kernel
theorem dX12_image_7 : decode cX12_image 7 = .ok (.iconst 1, 1) := by decide +kernel
theorem dX12_image_8 : decode cX12_image 8 = .ok (.invokestatic 75, 3) := by decide +kernel
theorem dX12_image_11 : decode cX12_image 11 = .ok (.ifCond .ne 5, 3) := by decide +kernel
theorem dX12_image_14 : decode cX12_image 14 = .ok (.iconst 0, 1) := by decide +kernel
theorem dX12_image_15 : decode cX12_image 15 = .ok (.ireturn, 1) := by decide +kernel
theorem dX12_image_16 : decode cX12_image 16 = .ok (.iconst 0, 1) := by decide +kernel
theorem dX12_image_17 : decode cX12_image 17 = .ok (.istore_n 2, 1) := by decide +kernel
theorem dX12_image_18 : decode cX12_image 18 = .ok (.iload_n 2, 1) := by decide +kernel
theorem dX12_image_19 : decode cX12_image 19 = .ok (.sipush 353, 3) := by decide +kernel
theorem dX12_image_22 : decode cX12_image 22 = .ok (.if_icmp .ge 27, 3) := by decide +kernel
theorem dX12_image_25 : decode cX12_image 25 = .ok (.aload_n 0, 1) := by decide +kernel
theorem dX12_image_26 : decode cX12_image 26 = .ok (.getfield 104, 3) := by decide +kernel
theorem dX12_image_29 : decode cX12_image 29 = .ok (.sipush 353, 3) := by decide +kernel
theorem dX12_image_32 : decode cX12_image 32 = .ok (.iload_n 1, 1) := by decide +kernel
theorem dX12_image_33 : decode cX12_image 33 = .ok (.imul, 1) := by decide +kernel
theorem dX12_image_34 : decode cX12_image 34 = .ok (.iload_n 2, 1) := by decide +kernel
theorem dX12_image_35 : decode cX12_image 35 = .ok (.iadd, 1) := by decide +kernel
theorem dX12_image_36 : decode cX12_image 36 = .ok (.aload_n 0, 1) := by decide +kernel
theorem dX12_image_37 : decode cX12_image 37 = .ok (.getfield 98, 3) := by decide +kernel
theorem dX12_image_40 : decode cX12_image 40 = .ok (.iload_n 2, 1) := by decide +kernel
theorem dX12_image_41 : decode cX12_image 41 = .ok (.iaload, 1) := by decide +kernel
theorem dX12_image_42 : decode cX12_image 42 = .ok (.iastore, 1) := by decide +kernel
theorem dX12_image_43 : decode cX12_image 43 = .ok (.iinc 2 1, 3) := by decide +kernel
theorem dX12_image_46 : decode cX12_image 46 = .ok (.goto (-28), 3) := by decide +kernel
theorem dX12_image_49 : decode cX12_image 49 = .ok (.iconst 0, 1) := by decide +kernel
theorem dX12_image_50 : decode cX12_image 50 = .ok (.istore_n 2, 1) := by decide +kernel
theorem dX12_image_51 : decode cX12_image 51 = .ok (.iload_n 2, 1) := by decide +kernel
theorem dX12_image_52 : decode cX12_image 52 = .ok (.bipush 19, 2) := by decide +kernel
theorem dX12_image_54 : decode cX12_image 54 = .ok (.if_icmp .ge 26, 3) := by decide +kernel
theorem dX12_image_57 : decode cX12_image 57 = .ok (.aload_n 0, 1) := by decide +kernel
theorem dX12_image_58 : decode cX12_image 58 = .ok (.getfield 120, 3) := by decide +kernel
theorem dX12_image_61 : decode cX12_image 61 = .ok (.bipush 19, 2) := by decide +kernel
theorem dX12_image_63 : decode cX12_image 63 = .ok (.iload_n 1, 1) := by decide +kernel
theorem dX12_image_64 : decode cX12_image 64 = .ok (.imul, 1) := by decide +kernel
theorem dX12_image_65 : decode cX12_image 65 = .ok (.iload_n 2, 1) := by decide +kernel
theorem dX12_image_66 : decode cX12_image 66 = .ok (.iadd, 1) := by decide +kernel
theorem dX12_image_67 : decode cX12_image 67 = .ok (.aload_n 0, 1) := by decide +kernel
theorem dX12_image_68 : decode cX12_image 68 = .ok (.getfield 113, 3) := by decide +kernel
theorem dX12_image_71 : decode cX12_image 71 = .ok (.iload_n 2, 1) := by decide +kernel
theorem dX12_image_72 : decode cX12_image 72 = .ok (.laload, 1) := by decide +kernel
theorem dX12_image_73 : decode cX12_image 73 = .ok (.lastore, 1) := by decide +kernel
theorem dX12_image_74 : decode cX12_image 74 = .ok (.iinc 2 1, 3) := by decide +kernel
theorem dX12_image_77 : decode cX12_image 77 = .ok (.goto (-26), 3) := by decide +kernel
theorem dX12_image_80 : decode cX12_image 80 = .ok (.aload_n 0, 1) := by decide +kernel
theorem dX12_image_81 : decode cX12_image 81 = .ok (.getfield 123, 3) := by decide +kernel
theorem dX12_image_84 : decode cX12_image 84 = .ok (.iload_n 1, 1) := by decide +kernel
theorem dX12_image_85 : decode cX12_image 85 = .ok (.iconst 1, 1) := by decide +kernel
theorem dX12_image_86 : decode cX12_image 86 = .ok (.bastore, 1) := by decide +kernel
theorem dX12_image_87 : decode cX12_image 87 = .ok (.iconst 1, 1) := by decide +kernel
theorem dX12_image_88 : decode cX12_image 88 = .ok (.ireturn, 1) := by decide +kernel
def f_X12_image_51 (k51 : XM → Int32 → Int32 → Option (Int32 × XM)) (w0 : XM) (l1 : Int32) (l2 : Int32) : Option (Int32 × XM) :=
  if (19 : Int32) ≤ l2 then
  (x_ck l1 2 (
  x_lt (x_pa w0 10 l1 1) (fun m1 =>
  some (1, m1))))
  else (x_ck l2 19 (
  x_ck ((19 * l1) + l2) 38 (
  x_lt (x_pl w0 9 ((19 * l1) + l2) (x_gl w0 7 l2)) (fun m2 =>
  k51 m2 l1 (l2 + 1)))))
def f_X12_image_18 (k18 : XM → Int32 → Int32 → Option (Int32 × XM)) (w0 : XM) (l1 : Int32) (l2 : Int32) : Option (Int32 × XM) :=
  if (353 : Int32) ≤ l2 then
  (x_lp (φ := XM → Int32 → Int32 → Option (Int32 × XM)) (fun _ _ _ => none) (f_X12_image_51  ) x_NN w0 l1 0)
  else (x_ck l2 353 (
  x_ck ((353 * l1) + l2) 706 (
  x_lt (x_pa w0 4 ((353 * l1) + l2) (x_ga w0 2 l2)) (fun m3 =>
  k18 m3 l1 (l2 + 1)))))
def f_X12_image (v0 : XM) (x0 : Int32) : Option (Int32 × XM) :=
  x_lt (x_si v0 0 0 0) (fun m4 =>
  x_lt (f_X12_isIn x0 0 1) (fun y5 =>
  if y5 = (0 : Int32) then
  (some (0, m4))
  else (x_lp (φ := XM → Int32 → Int32 → Option (Int32 × XM)) (fun _ _ _ => none) (f_X12_image_18  ) x_NN m4 x0 0)))
set_option maxRecDepth 100000 in
set_option maxHeartbeats 4000000 in
theorem w_X12_image_51 {p : Program} {l : Launch} {e : Env} {s : State} {m : MethodId} {args : Array Value} {below : List Frame} {meth : Method} {c : Code} {D : va_G} {tc : Nat → ClassId} {aK aV : Nat → Nat} {A : Nat → Prop} {ad0 : Nat → Nat}  (X : Cx p s m args meth c cX12_image 3 (some .boolean) RX12 D tc aK aV A [(shModel, ad0)]) {o : Int32 × XM}  : ∀ (n : Nat), ∀ (w0 : XM) (l1 : Int32) (l2 : Int32), x_lp (φ := XM → Int32 → Int32 → Option (Int32 × XM)) (fun _ _ _ => none) (f_X12_image_51  ) n w0 l1 l2 = some o → aW p l e (x_Rm 1) s m args below meth c D tc A 3 [(shModel, ad0)] (some (.int o.1)) (x_Z o.1) [o.2] 51 [(0, .ref (ad0 0)), (1, .int l1), (2, .int l2)] [] [w0] := by
  intro n
  induction n with
  | zero => intro w0 l1 l2 h; exact absurd h (fun q => by cases q)
  | succ n ih =>
    intro w0 l1 l2 h
    have h : f_X12_image_51   (x_lp (φ := XM → Int32 → Int32 → Option (Int32 × XM)) (fun _ _ _ => none) (f_X12_image_51  ) n) w0 l1 l2 = some o := h
    generalize x_lp (φ := XM → Int32 → Int32 → Option (Int32 × XM)) (fun _ _ _ => none) (f_X12_image_51  ) n = k51 at h ih
    have hk51 := ih
    unfold f_X12_image_51 at h
    refine a_iload_n (pc := 51) X 2 dX12_image_51 rfl rfl ?_
    refine a_bipush (pc := 52) X dX12_image_52 q_bp_19 ?_
    refine a_icmp_ge (pc := 54) X 80 dX12_image_54 rfl (fun c_54 => ?_) (fun c_54 => ?_)
    · have h := x_ifp c_54 h
      refine a_aload_n (pc := 80) X 0 dX12_image_80 rfl rfl ?_
      refine a_getR (pc := 81) X 0 10 fl_RX12_123 rfl rfl rfl rfl dX12_image_81 ?_
      refine a_iload_n (pc := 84) X 1 dX12_image_84 rfl rfl ?_
      refine a_iconst (pc := 85) X dX12_image_85 q_ic_1 ?_
      obtain ⟨c_86, h⟩ := x_ck_elim h
      refine a_zast (pc := 86) X 0 x_Z1 rfl rfl rfl c_86 dX12_image_86 ?_
      obtain ⟨m1, e_m1, h⟩ := x_lt_elim h
      refine a_nm (vs2 := [m1]) (congrArg (fun q : XM => [q]) e_m1) ?_
      refine a_iconst (pc := 87) X dX12_image_87 q_ic_1 ?_
      have h := Option.some.inj h; subst h
      exact a_zret (pc := 88) X x_Z1 x_Z1 dX12_image_88
    · have h := x_ifn c_54 h
      refine a_aload_n (pc := 57) X 0 dX12_image_57 rfl rfl ?_
      refine a_getR (pc := 58) X 0 9 fl_RX12_120 rfl rfl rfl rfl dX12_image_58 ?_
      refine a_bipush (pc := 61) X dX12_image_61 q_bp_19 ?_
      refine a_iload_n (pc := 63) X 1 dX12_image_63 rfl rfl ?_
      refine a_imul (pc := 64) X dX12_image_64 ?_
      refine a_iload_n (pc := 65) X 2 dX12_image_65 rfl rfl ?_
      refine a_iadd (pc := 66) X dX12_image_66 ?_
      refine a_aload_n (pc := 67) X 0 dX12_image_67 rfl rfl ?_
      refine a_getR (pc := 68) X 0 7 fl_RX12_113 rfl rfl rfl rfl dX12_image_68 ?_
      refine a_iload_n (pc := 71) X 2 dX12_image_71 rfl rfl ?_
      obtain ⟨c_72, h⟩ := x_ck_elim h
      refine a_lald (pc := 72) X 0 rfl rfl rfl c_72 dX12_image_72 ?_
      obtain ⟨c_73, h⟩ := x_ck_elim h
      refine a_last (pc := 73) X 0 rfl rfl rfl c_73 dX12_image_73 ?_
      obtain ⟨m2, e_m2, h⟩ := x_lt_elim h
      refine a_nm (vs2 := [m2]) (congrArg (fun q : XM => [q]) e_m2) ?_
      refine a_iinc (pc := 74) X 2 [(2, .int (l2 + 1)), (0, .ref (ad0 0)), (1, .int l1)] dX12_image_74 rfl (congrArg (HAdd.hAdd l2) q_ic_1) (by decide) rfl ?_
      refine a_goto (pc := 77) X 51 dX12_image_77 rfl ?_
      refine a_sub [1, 2, 0] rfl ?_
      exact hk51 _ _ _ h
set_option maxRecDepth 100000 in
set_option maxHeartbeats 4000000 in
theorem w_X12_image_18 {p : Program} {l : Launch} {e : Env} {s : State} {m : MethodId} {args : Array Value} {below : List Frame} {meth : Method} {c : Code} {D : va_G} {tc : Nat → ClassId} {aK aV : Nat → Nat} {A : Nat → Prop} {ad0 : Nat → Nat}  (X : Cx p s m args meth c cX12_image 3 (some .boolean) RX12 D tc aK aV A [(shModel, ad0)]) {o : Int32 × XM}  : ∀ (n : Nat), ∀ (w0 : XM) (l1 : Int32) (l2 : Int32), x_lp (φ := XM → Int32 → Int32 → Option (Int32 × XM)) (fun _ _ _ => none) (f_X12_image_18  ) n w0 l1 l2 = some o → aW p l e (x_Rm 1) s m args below meth c D tc A 3 [(shModel, ad0)] (some (.int o.1)) (x_Z o.1) [o.2] 18 [(0, .ref (ad0 0)), (1, .int l1), (2, .int l2)] [] [w0] := by
  intro n
  induction n with
  | zero => intro w0 l1 l2 h; exact absurd h (fun q => by cases q)
  | succ n ih =>
    intro w0 l1 l2 h
    have h : f_X12_image_18   (x_lp (φ := XM → Int32 → Int32 → Option (Int32 × XM)) (fun _ _ _ => none) (f_X12_image_18  ) n) w0 l1 l2 = some o := h
    generalize x_lp (φ := XM → Int32 → Int32 → Option (Int32 × XM)) (fun _ _ _ => none) (f_X12_image_18  ) n = k18 at h ih
    have hk18 := ih
    unfold f_X12_image_18 at h
    refine a_iload_n (pc := 18) X 2 dX12_image_18 rfl rfl ?_
    refine a_sipush (pc := 19) X dX12_image_19 q_sp_353 ?_
    refine a_icmp_ge (pc := 22) X 49 dX12_image_22 rfl (fun c_22 => ?_) (fun c_22 => ?_)
    · have h := x_ifp c_22 h
      refine a_iconst (pc := 49) X dX12_image_49 q_ic_0 ?_
      refine a_istore_n (pc := 50) X [(2, .int 0), (0, .ref (ad0 0)), (1, .int l1)] dX12_image_50 rfl (by decide) rfl ?_
      refine a_sub [1, 2, 0] rfl ?_
      exact w_X12_image_51 X   x_NN _ _ _ h
    · have h := x_ifn c_22 h
      refine a_aload_n (pc := 25) X 0 dX12_image_25 rfl rfl ?_
      refine a_getR (pc := 26) X 0 4 fl_RX12_104 rfl rfl rfl rfl dX12_image_26 ?_
      refine a_sipush (pc := 29) X dX12_image_29 q_sp_353 ?_
      refine a_iload_n (pc := 32) X 1 dX12_image_32 rfl rfl ?_
      refine a_imul (pc := 33) X dX12_image_33 ?_
      refine a_iload_n (pc := 34) X 2 dX12_image_34 rfl rfl ?_
      refine a_iadd (pc := 35) X dX12_image_35 ?_
      refine a_aload_n (pc := 36) X 0 dX12_image_36 rfl rfl ?_
      refine a_getR (pc := 37) X 0 2 fl_RX12_98 rfl rfl rfl rfl dX12_image_37 ?_
      refine a_iload_n (pc := 40) X 2 dX12_image_40 rfl rfl ?_
      obtain ⟨c_41, h⟩ := x_ck_elim h
      refine a_iald (pc := 41) X 0 rfl rfl rfl c_41 dX12_image_41 ?_
      obtain ⟨c_42, h⟩ := x_ck_elim h
      refine a_iast (pc := 42) X 0 rfl rfl rfl c_42 dX12_image_42 ?_
      obtain ⟨m3, e_m3, h⟩ := x_lt_elim h
      refine a_nm (vs2 := [m3]) (congrArg (fun q : XM => [q]) e_m3) ?_
      refine a_iinc (pc := 43) X 2 [(2, .int (l2 + 1)), (0, .ref (ad0 0)), (1, .int l1)] dX12_image_43 rfl (congrArg (HAdd.hAdd l2) q_ic_1) (by decide) rfl ?_
      refine a_goto (pc := 46) X 18 dX12_image_46 rfl ?_
      refine a_sub [1, 2, 0] rfl ?_
      exact hk18 _ _ _ h
set_option maxRecDepth 100000 in
set_option maxHeartbeats 4000000 in
theorem c_X12_image {l : Launch} {ad0 : Nat → Nat} {v0 : XM} {x0 : Int32}  {o : Int32 × XM} (h : f_X12_image v0 x0 = some o) : CT l yX12_image cX12_image 3 (some .boolean) 1 [(shModel, ad0)] [v0] (fun aK => [.ref (ad0 0), .int x0]) (some (.int o.1)) (x_Z o.1) [o.2] := by
  refine CT_of (by decide) (fun _ => Nat.le_of_ble_eq_true rfl) ?_
  intro p e s m args below meth c D tc aK aV A X
  have X : Cx p s m args meth c cX12_image 3 (some .boolean) RX12 D tc aK aV A [(shModel, ad0)] := X
  show aW p l e (x_Rm 1) s m args below meth c D tc A 3 [(shModel, ad0)] (some (.int o.1)) (x_Z o.1) [o.2] 0 [(0, .ref (ad0 0)), (1, .int x0)] [] [v0]
  unfold f_X12_image at h
  refine a_aload_n (pc := 0) X 0 dX12_image_0 rfl rfl ?_
  refine a_iconst (pc := 1) X dX12_image_1 q_ic_0 ?_
  refine a_putI (pc := 2) X 0 fl_RX12_1 rfl rfl rfl rfl dX12_image_2 ?_
  obtain ⟨m4, e_m4, h⟩ := x_lt_elim h
  refine a_nm (vs2 := [m4]) (congrArg (fun q : XM => [q]) e_m4) ?_
  refine a_iload_n (pc := 5) X 1 dX12_image_5 rfl rfl ?_
  refine a_iconst (pc := 6) X dX12_image_6 q_ic_0 ?_
  refine a_iconst (pc := 7) X dX12_image_7 q_ic_1 ?_
  obtain ⟨y5, e_y5, h⟩ := x_lt_elim h
  refine a_callS (pc := 8) (st2 := [.int y5]) (vs2 := [m4]) X [] [] [.int x0, .int 0, .int 1] [] cv_RX12_75 (c_X12_isIn   e_y5) rfl rfl rfl rfl rfl rfl rfl rfl rfl rfl rfl (Nat.le_of_ble_eq_true rfl) ⟨Nat.le_of_ble_eq_true rfl, Nat.le_of_ble_eq_true rfl⟩ dX12_image_8 (fun z_8 => ?_)
  refine a_if_ne (pc := 11) X 16 dX12_image_11 rfl (fun c_11 => ?_) (fun c_11 => ?_)
  · have h := x_ifn c_11 h
    refine a_iconst (pc := 16) X dX12_image_16 q_ic_0 ?_
    refine a_istore_n (pc := 17) X [(2, .int 0), (0, .ref (ad0 0)), (1, .int x0)] dX12_image_17 rfl (by decide) rfl ?_
    refine a_sub [1, 2, 0] rfl ?_
    exact w_X12_image_18 X   x_NN _ _ _ h
  · have h := x_ifp c_11 h
    refine a_iconst (pc := 14) X dX12_image_14 q_ic_0 ?_
    have h := Option.some.inj h; subst h
    exact a_zret (pc := 15) X x_Z0 x_Z0 dX12_image_15
theorem dX12_restore_0 : decode cX12_restore 0 = .ok (.aload_n 0, 1) := by decide +kernel
theorem dX12_restore_1 : decode cX12_restore 1 = .ok (.iconst 0, 1) := by decide +kernel
theorem dX12_restore_2 : decode cX12_restore 2 = .ok (.putfield 1, 3) := by decide +kernel
theorem dX12_restore_5 : decode cX12_restore 5 = .ok (.iload_n 1, 1) := by decide +kernel
theorem dX12_restore_6 : decode cX12_restore 6 = .ok (.iconst 0, 1) := by decide +kernel
theorem dX12_restore_7 : decode cX12_restore 7 = .ok (.iconst 1, 1) := by decide +kernel
theorem dX12_restore_8 : decode cX12_restore 8 = .ok (.invokestatic 75, 3) := by decide +kernel
theorem dX12_restore_11 : decode cX12_restore 11 = .ok (.ifCond .eq 12, 3) := by decide +kernel
theorem dX12_restore_14 : decode cX12_restore 14 = .ok (.aload_n 0, 1) := by decide +kernel
theorem dX12_restore_15 : decode cX12_restore 15 = .ok (.getfield 123, 3) := by decide +kernel
theorem dX12_restore_18 : decode cX12_restore 18 = .ok (.iload_n 1, 1) := by decide +kernel
theorem dX12_restore_19 : decode cX12_restore 19 = .ok (.baload, 1) := by decide +kernel
theorem dX12_restore_20 : decode cX12_restore 20 = .ok (.ifCond .ne 5, 3) := by decide +kernel
theorem dX12_restore_23 : decode cX12_restore 23 = .ok (.iconst 0, 1) := by decide +kernel
theorem dX12_restore_24 : decode cX12_restore 24 = .ok (.ireturn, 1) := by decide +kernel
theorem dX12_restore_25 : decode cX12_restore 25 = .ok (.iconst 0, 1) := by decide +kernel
theorem dX12_restore_26 : decode cX12_restore 26 = .ok (.istore_n 2, 1) := by decide +kernel
theorem dX12_restore_27 : decode cX12_restore 27 = .ok (.iload_n 2, 1) := by decide +kernel
theorem dX12_restore_28 : decode cX12_restore 28 = .ok (.sipush 353, 3) := by decide +kernel
theorem dX12_restore_31 : decode cX12_restore 31 = .ok (.if_icmp .ge 27, 3) := by decide +kernel
theorem dX12_restore_34 : decode cX12_restore 34 = .ok (.aload_n 0, 1) := by decide +kernel
theorem dX12_restore_35 : decode cX12_restore 35 = .ok (.getfield 98, 3) := by decide +kernel
theorem dX12_restore_38 : decode cX12_restore 38 = .ok (.iload_n 2, 1) := by decide +kernel
theorem dX12_restore_39 : decode cX12_restore 39 = .ok (.aload_n 0, 1) := by decide +kernel
theorem dX12_restore_40 : decode cX12_restore 40 = .ok (.getfield 104, 3) := by decide +kernel
theorem dX12_restore_43 : decode cX12_restore 43 = .ok (.sipush 353, 3) := by decide +kernel
theorem dX12_restore_46 : decode cX12_restore 46 = .ok (.iload_n 1, 1) := by decide +kernel
theorem dX12_restore_47 : decode cX12_restore 47 = .ok (.imul, 1) := by decide +kernel
theorem dX12_restore_48 : decode cX12_restore 48 = .ok (.iload_n 2, 1) := by decide +kernel
theorem dX12_restore_49 : decode cX12_restore 49 = .ok (.iadd, 1) := by decide +kernel
theorem dX12_restore_50 : decode cX12_restore 50 = .ok (.iaload, 1) := by decide +kernel
theorem dX12_restore_51 : decode cX12_restore 51 = .ok (.iastore, 1) := by decide +kernel
theorem dX12_restore_52 : decode cX12_restore 52 = .ok (.iinc 2 1, 3) := by decide +kernel
theorem dX12_restore_55 : decode cX12_restore 55 = .ok (.goto (-28), 3) := by decide +kernel
theorem dX12_restore_58 : decode cX12_restore 58 = .ok (.iconst 0, 1) := by decide +kernel
theorem dX12_restore_59 : decode cX12_restore 59 = .ok (.istore_n 2, 1) := by decide +kernel
theorem dX12_restore_60 : decode cX12_restore 60 = .ok (.iload_n 2, 1) := by decide +kernel
theorem dX12_restore_61 : decode cX12_restore 61 = .ok (.bipush 19, 2) := by decide +kernel
theorem dX12_restore_63 : decode cX12_restore 63 = .ok (.if_icmp .ge 26, 3) := by decide +kernel
theorem dX12_restore_66 : decode cX12_restore 66 = .ok (.aload_n 0, 1) := by decide +kernel
theorem dX12_restore_67 : decode cX12_restore 67 = .ok (.getfield 113, 3) := by decide +kernel
theorem dX12_restore_70 : decode cX12_restore 70 = .ok (.iload_n 2, 1) := by decide +kernel
theorem dX12_restore_71 : decode cX12_restore 71 = .ok (.aload_n 0, 1) := by decide +kernel
theorem dX12_restore_72 : decode cX12_restore 72 = .ok (.getfield 120, 3) := by decide +kernel
theorem dX12_restore_75 : decode cX12_restore 75 = .ok (.bipush 19, 2) := by decide +kernel
theorem dX12_restore_77 : decode cX12_restore 77 = .ok (.iload_n 1, 1) := by decide +kernel
theorem dX12_restore_78 : decode cX12_restore 78 = .ok (.imul, 1) := by decide +kernel
theorem dX12_restore_79 : decode cX12_restore 79 = .ok (.iload_n 2, 1) := by decide +kernel
theorem dX12_restore_80 : decode cX12_restore 80 = .ok (.iadd, 1) := by decide +kernel
theorem dX12_restore_81 : decode cX12_restore 81 = .ok (.laload, 1) := by decide +kernel
theorem dX12_restore_82 : decode cX12_restore 82 = .ok (.lastore, 1) := by decide +kernel
theorem dX12_restore_83 : decode cX12_restore 83 = .ok (.iinc 2 1, 3) := by decide +kernel
theorem dX12_restore_86 : decode cX12_restore 86 = .ok (.goto (-26), 3) := by decide +kernel
theorem dX12_restore_89 : decode cX12_restore 89 = .ok (.aload_n 0, 1) := by decide +kernel
theorem dX12_restore_90 : decode cX12_restore 90 = .ok (.iconst 0, 1) := by decide +kernel
theorem dX12_restore_91 : decode cX12_restore 91 = .ok (.putfield 234, 3) := by decide +kernel
theorem dX12_restore_94 : decode cX12_restore 94 = .ok (.iconst 1, 1) := by decide +kernel
theorem dX12_restore_95 : decode cX12_restore 95 = .ok (.ireturn, 1) := by decide +kernel
def f_X12_restore_60 (k60 : XM → Int32 → Int32 → Option (Int32 × XM)) (w0 : XM) (l1 : Int32) (l2 : Int32) : Option (Int32 × XM) :=
  if (19 : Int32) ≤ l2 then
  (x_lt (x_si w0 0 24 0) (fun m1 =>
  some (1, m1)))
  else (x_ck ((19 * l1) + l2) 38 (
  x_ck l2 19 (
  x_lt (x_pl w0 7 l2 (x_gl w0 9 ((19 * l1) + l2))) (fun m2 =>
  k60 m2 l1 (l2 + 1)))))
def f_X12_restore_27 (k27 : XM → Int32 → Int32 → Option (Int32 × XM)) (w0 : XM) (l1 : Int32) (l2 : Int32) : Option (Int32 × XM) :=
  if (353 : Int32) ≤ l2 then
  (x_lp (φ := XM → Int32 → Int32 → Option (Int32 × XM)) (fun _ _ _ => none) (f_X12_restore_60  ) x_NN w0 l1 0)
  else (x_ck ((353 * l1) + l2) 706 (
  x_ck l2 353 (
  x_lt (x_pa w0 2 l2 (x_ga w0 4 ((353 * l1) + l2))) (fun m3 =>
  k27 m3 l1 (l2 + 1)))))
def f_X12_restore (v0 : XM) (x0 : Int32) : Option (Int32 × XM) :=
  x_lt (x_si v0 0 0 0) (fun m4 =>
  x_lt (f_X12_isIn x0 0 1) (fun y5 =>
  if y5 = (0 : Int32) then
  (some (0, m4))
  else (x_ck x0 2 (
  if (x_ga m4 10 x0) = (0 : Int32) then
  (some (0, m4))
  else (x_lp (φ := XM → Int32 → Int32 → Option (Int32 × XM)) (fun _ _ _ => none) (f_X12_restore_27  ) x_NN m4 x0 0)))))
set_option maxRecDepth 100000 in
set_option maxHeartbeats 4000000 in
theorem w_X12_restore_60 {p : Program} {l : Launch} {e : Env} {s : State} {m : MethodId} {args : Array Value} {below : List Frame} {meth : Method} {c : Code} {D : va_G} {tc : Nat → ClassId} {aK aV : Nat → Nat} {A : Nat → Prop} {ad0 : Nat → Nat}  (X : Cx p s m args meth c cX12_restore 3 (some .boolean) RX12 D tc aK aV A [(shModel, ad0)]) {o : Int32 × XM}  : ∀ (n : Nat), ∀ (w0 : XM) (l1 : Int32) (l2 : Int32), x_lp (φ := XM → Int32 → Int32 → Option (Int32 × XM)) (fun _ _ _ => none) (f_X12_restore_60  ) n w0 l1 l2 = some o → aW p l e (x_Rm 1) s m args below meth c D tc A 3 [(shModel, ad0)] (some (.int o.1)) (x_Z o.1) [o.2] 60 [(0, .ref (ad0 0)), (1, .int l1), (2, .int l2)] [] [w0] := by
  intro n
  induction n with
  | zero => intro w0 l1 l2 h; exact absurd h (fun q => by cases q)
  | succ n ih =>
    intro w0 l1 l2 h
    have h : f_X12_restore_60   (x_lp (φ := XM → Int32 → Int32 → Option (Int32 × XM)) (fun _ _ _ => none) (f_X12_restore_60  ) n) w0 l1 l2 = some o := h
    generalize x_lp (φ := XM → Int32 → Int32 → Option (Int32 × XM)) (fun _ _ _ => none) (f_X12_restore_60  ) n = k60 at h ih
    have hk60 := ih
    unfold f_X12_restore_60 at h
    refine a_iload_n (pc := 60) X 2 dX12_restore_60 rfl rfl ?_
    refine a_bipush (pc := 61) X dX12_restore_61 q_bp_19 ?_
    refine a_icmp_ge (pc := 63) X 89 dX12_restore_63 rfl (fun c_63 => ?_) (fun c_63 => ?_)
    · have h := x_ifp c_63 h
      refine a_aload_n (pc := 89) X 0 dX12_restore_89 rfl rfl ?_
      refine a_iconst (pc := 90) X dX12_restore_90 q_ic_0 ?_
      refine a_putI (pc := 91) X 0 fl_RX12_234 rfl rfl rfl rfl dX12_restore_91 ?_
      obtain ⟨m1, e_m1, h⟩ := x_lt_elim h
      refine a_nm (vs2 := [m1]) (congrArg (fun q : XM => [q]) e_m1) ?_
      refine a_iconst (pc := 94) X dX12_restore_94 q_ic_1 ?_
      have h := Option.some.inj h; subst h
      exact a_zret (pc := 95) X x_Z1 x_Z1 dX12_restore_95
    · have h := x_ifn c_63 h
      refine a_aload_n (pc := 66) X 0 dX12_restore_66 rfl rfl ?_
      refine a_getR (pc := 67) X 0 7 fl_RX12_113 rfl rfl rfl rfl dX12_restore_67 ?_
      refine a_iload_n (pc := 70) X 2 dX12_restore_70 rfl rfl ?_
      refine a_aload_n (pc := 71) X 0 dX12_restore_71 rfl rfl ?_
      refine a_getR (pc := 72) X 0 9 fl_RX12_120 rfl rfl rfl rfl dX12_restore_72 ?_
      refine a_bipush (pc := 75) X dX12_restore_75 q_bp_19 ?_
      refine a_iload_n (pc := 77) X 1 dX12_restore_77 rfl rfl ?_
      refine a_imul (pc := 78) X dX12_restore_78 ?_
      refine a_iload_n (pc := 79) X 2 dX12_restore_79 rfl rfl ?_
      refine a_iadd (pc := 80) X dX12_restore_80 ?_
      obtain ⟨c_81, h⟩ := x_ck_elim h
      refine a_lald (pc := 81) X 0 rfl rfl rfl c_81 dX12_restore_81 ?_
      obtain ⟨c_82, h⟩ := x_ck_elim h
      refine a_last (pc := 82) X 0 rfl rfl rfl c_82 dX12_restore_82 ?_
      obtain ⟨m2, e_m2, h⟩ := x_lt_elim h
      refine a_nm (vs2 := [m2]) (congrArg (fun q : XM => [q]) e_m2) ?_
      refine a_iinc (pc := 83) X 2 [(2, .int (l2 + 1)), (0, .ref (ad0 0)), (1, .int l1)] dX12_restore_83 rfl (congrArg (HAdd.hAdd l2) q_ic_1) (by decide) rfl ?_
      refine a_goto (pc := 86) X 60 dX12_restore_86 rfl ?_
      refine a_sub [1, 2, 0] rfl ?_
      exact hk60 _ _ _ h
set_option maxRecDepth 100000 in
set_option maxHeartbeats 4000000 in
theorem w_X12_restore_27 {p : Program} {l : Launch} {e : Env} {s : State} {m : MethodId} {args : Array Value} {below : List Frame} {meth : Method} {c : Code} {D : va_G} {tc : Nat → ClassId} {aK aV : Nat → Nat} {A : Nat → Prop} {ad0 : Nat → Nat}  (X : Cx p s m args meth c cX12_restore 3 (some .boolean) RX12 D tc aK aV A [(shModel, ad0)]) {o : Int32 × XM}  : ∀ (n : Nat), ∀ (w0 : XM) (l1 : Int32) (l2 : Int32), x_lp (φ := XM → Int32 → Int32 → Option (Int32 × XM)) (fun _ _ _ => none) (f_X12_restore_27  ) n w0 l1 l2 = some o → aW p l e (x_Rm 1) s m args below meth c D tc A 3 [(shModel, ad0)] (some (.int o.1)) (x_Z o.1) [o.2] 27 [(0, .ref (ad0 0)), (1, .int l1), (2, .int l2)] [] [w0] := by
  intro n
  induction n with
  | zero => intro w0 l1 l2 h; exact absurd h (fun q => by cases q)
  | succ n ih =>
    intro w0 l1 l2 h
    have h : f_X12_restore_27   (x_lp (φ := XM → Int32 → Int32 → Option (Int32 × XM)) (fun _ _ _ => none) (f_X12_restore_27  ) n) w0 l1 l2 = some o := h
    generalize x_lp (φ := XM → Int32 → Int32 → Option (Int32 × XM)) (fun _ _ _ => none) (f_X12_restore_27  ) n = k27 at h ih
    have hk27 := ih
    unfold f_X12_restore_27 at h
    refine a_iload_n (pc := 27) X 2 dX12_restore_27 rfl rfl ?_
    refine a_sipush (pc := 28) X dX12_restore_28 q_sp_353 ?_
    refine a_icmp_ge (pc := 31) X 58 dX12_restore_31 rfl (fun c_31 => ?_) (fun c_31 => ?_)
    · have h := x_ifp c_31 h
      refine a_iconst (pc := 58) X dX12_restore_58 q_ic_0 ?_
      refine a_istore_n (pc := 59) X [(2, .int 0), (0, .ref (ad0 0)), (1, .int l1)] dX12_restore_59 rfl (by decide) rfl ?_
      refine a_sub [1, 2, 0] rfl ?_
      exact w_X12_restore_60 X   x_NN _ _ _ h
    · have h := x_ifn c_31 h
      refine a_aload_n (pc := 34) X 0 dX12_restore_34 rfl rfl ?_
      refine a_getR (pc := 35) X 0 2 fl_RX12_98 rfl rfl rfl rfl dX12_restore_35 ?_
      refine a_iload_n (pc := 38) X 2 dX12_restore_38 rfl rfl ?_
      refine a_aload_n (pc := 39) X 0 dX12_restore_39 rfl rfl ?_
      refine a_getR (pc := 40) X 0 4 fl_RX12_104 rfl rfl rfl rfl dX12_restore_40 ?_
      refine a_sipush (pc := 43) X dX12_restore_43 q_sp_353 ?_
      refine a_iload_n (pc := 46) X 1 dX12_restore_46 rfl rfl ?_
      refine a_imul (pc := 47) X dX12_restore_47 ?_
      refine a_iload_n (pc := 48) X 2 dX12_restore_48 rfl rfl ?_
      refine a_iadd (pc := 49) X dX12_restore_49 ?_
      obtain ⟨c_50, h⟩ := x_ck_elim h
      refine a_iald (pc := 50) X 0 rfl rfl rfl c_50 dX12_restore_50 ?_
      obtain ⟨c_51, h⟩ := x_ck_elim h
      refine a_iast (pc := 51) X 0 rfl rfl rfl c_51 dX12_restore_51 ?_
      obtain ⟨m3, e_m3, h⟩ := x_lt_elim h
      refine a_nm (vs2 := [m3]) (congrArg (fun q : XM => [q]) e_m3) ?_
      refine a_iinc (pc := 52) X 2 [(2, .int (l2 + 1)), (0, .ref (ad0 0)), (1, .int l1)] dX12_restore_52 rfl (congrArg (HAdd.hAdd l2) q_ic_1) (by decide) rfl ?_
      refine a_goto (pc := 55) X 27 dX12_restore_55 rfl ?_
      refine a_sub [1, 2, 0] rfl ?_
      exact hk27 _ _ _ h
set_option maxRecDepth 100000 in
set_option maxHeartbeats 4000000 in
theorem c_X12_restore {l : Launch} {ad0 : Nat → Nat} {v0 : XM} {x0 : Int32}  {o : Int32 × XM} (h : f_X12_restore v0 x0 = some o) : CT l yX12_restore cX12_restore 3 (some .boolean) 1 [(shModel, ad0)] [v0] (fun aK => [.ref (ad0 0), .int x0]) (some (.int o.1)) (x_Z o.1) [o.2] := by
  refine CT_of (by decide) (fun _ => Nat.le_of_ble_eq_true rfl) ?_
  intro p e s m args below meth c D tc aK aV A X
  have X : Cx p s m args meth c cX12_restore 3 (some .boolean) RX12 D tc aK aV A [(shModel, ad0)] := X
  show aW p l e (x_Rm 1) s m args below meth c D tc A 3 [(shModel, ad0)] (some (.int o.1)) (x_Z o.1) [o.2] 0 [(0, .ref (ad0 0)), (1, .int x0)] [] [v0]
  unfold f_X12_restore at h
  refine a_aload_n (pc := 0) X 0 dX12_restore_0 rfl rfl ?_
  refine a_iconst (pc := 1) X dX12_restore_1 q_ic_0 ?_
  refine a_putI (pc := 2) X 0 fl_RX12_1 rfl rfl rfl rfl dX12_restore_2 ?_
  obtain ⟨m4, e_m4, h⟩ := x_lt_elim h
  refine a_nm (vs2 := [m4]) (congrArg (fun q : XM => [q]) e_m4) ?_
  refine a_iload_n (pc := 5) X 1 dX12_restore_5 rfl rfl ?_
  refine a_iconst (pc := 6) X dX12_restore_6 q_ic_0 ?_
  refine a_iconst (pc := 7) X dX12_restore_7 q_ic_1 ?_
  obtain ⟨y5, e_y5, h⟩ := x_lt_elim h
  refine a_callS (pc := 8) (st2 := [.int y5]) (vs2 := [m4]) X [] [] [.int x0, .int 0, .int 1] [] cv_RX12_75 (c_X12_isIn   e_y5) rfl rfl rfl rfl rfl rfl rfl rfl rfl rfl rfl (Nat.le_of_ble_eq_true rfl) ⟨Nat.le_of_ble_eq_true rfl, Nat.le_of_ble_eq_true rfl⟩ dX12_restore_8 (fun z_8 => ?_)
  refine a_if_eq (pc := 11) X 23 dX12_restore_11 rfl (fun c_11 => ?_) (fun c_11 => ?_)
  · have h := x_ifp c_11 h
    refine a_iconst (pc := 23) X dX12_restore_23 q_ic_0 ?_
    have h := Option.some.inj h; subst h
    exact a_zret (pc := 24) X x_Z0 x_Z0 dX12_restore_24
  · have h := x_ifn c_11 h
    refine a_aload_n (pc := 14) X 0 dX12_restore_14 rfl rfl ?_
    refine a_getR (pc := 15) X 0 10 fl_RX12_123 rfl rfl rfl rfl dX12_restore_15 ?_
    refine a_iload_n (pc := 18) X 1 dX12_restore_18 rfl rfl ?_
    obtain ⟨c_19, h⟩ := x_ck_elim h
    refine a_zald (pc := 19) X 0 rfl rfl rfl c_19 dX12_restore_19 ?_
    refine a_if_ne (pc := 20) X 25 dX12_restore_20 rfl (fun c_20 => ?_) (fun c_20 => ?_)
    · have h := x_ifn c_20 h
      refine a_iconst (pc := 25) X dX12_restore_25 q_ic_0 ?_
      refine a_istore_n (pc := 26) X [(2, .int 0), (0, .ref (ad0 0)), (1, .int x0)] dX12_restore_26 rfl (by decide) rfl ?_
      refine a_sub [1, 2, 0] rfl ?_
      exact w_X12_restore_27 X   x_NN _ _ _ h
    · have h := x_ifp c_20 h
      refine a_iconst (pc := 23) X dX12_restore_23 q_ic_0 ?_
      have h := Option.some.inj h; subst h
      exact a_zret (pc := 24) X x_Z0 x_Z0 dX12_restore_24
theorem dX12_count_0 : decode cX12_count 0 = .ok (.aload_n 0, 1) := by decide +kernel
theorem dX12_count_1 : decode cX12_count 1 = .ok (.iconst 0, 1) := by decide +kernel
theorem dX12_count_2 : decode cX12_count 2 = .ok (.putfield 1, 3) := by decide +kernel
theorem dX12_count_5 : decode cX12_count 5 = .ok (.iload_n 1, 1) := by decide +kernel
theorem dX12_count_6 : decode cX12_count 6 = .ok (.tableswitch 78 0 5 #[38, 45, 52, 59, 66, 73], 38) := by decide +kernel
theorem dX12_count_44 : decode cX12_count 44 = .ok (.aload_n 0, 1) := by decide +kernel
theorem dX12_count_45 : decode cX12_count 45 = .ok (.getfield 98, 3) := by decide +kernel
theorem dX12_count_48 : decode cX12_count 48 = .ok (.iconst 0, 1) := by decide +kernel
theorem dX12_count_49 : decode cX12_count 49 = .ok (.iaload, 1) := by decide +kernel
theorem dX12_count_50 : decode cX12_count 50 = .ok (.ireturn, 1) := by decide +kernel
theorem dX12_count_51 : decode cX12_count 51 = .ok (.aload_n 0, 1) := by decide +kernel
theorem dX12_count_52 : decode cX12_count 52 = .ok (.getfield 98, 3) := by decide +kernel
theorem dX12_count_55 : decode cX12_count 55 = .ok (.iconst 1, 1) := by decide +kernel
theorem dX12_count_56 : decode cX12_count 56 = .ok (.iaload, 1) := by decide +kernel
theorem dX12_count_57 : decode cX12_count 57 = .ok (.ireturn, 1) := by decide +kernel
theorem dX12_count_58 : decode cX12_count 58 = .ok (.aload_n 0, 1) := by decide +kernel
theorem dX12_count_59 : decode cX12_count 59 = .ok (.getfield 98, 3) := by decide +kernel
theorem dX12_count_62 : decode cX12_count 62 = .ok (.iconst 2, 1) := by decide +kernel
theorem dX12_count_63 : decode cX12_count 63 = .ok (.iaload, 1) := by decide +kernel
theorem dX12_count_64 : decode cX12_count 64 = .ok (.ireturn, 1) := by decide +kernel
theorem dX12_count_65 : decode cX12_count 65 = .ok (.aload_n 0, 1) := by decide +kernel
theorem dX12_count_66 : decode cX12_count 66 = .ok (.getfield 98, 3) := by decide +kernel
theorem dX12_count_69 : decode cX12_count 69 = .ok (.iconst 3, 1) := by decide +kernel
theorem dX12_count_70 : decode cX12_count 70 = .ok (.iaload, 1) := by decide +kernel
theorem dX12_count_71 : decode cX12_count 71 = .ok (.ireturn, 1) := by decide +kernel
theorem dX12_count_72 : decode cX12_count 72 = .ok (.aload_n 0, 1) := by decide +kernel
theorem dX12_count_73 : decode cX12_count 73 = .ok (.getfield 98, 3) := by decide +kernel
theorem dX12_count_76 : decode cX12_count 76 = .ok (.iconst 4, 1) := by decide +kernel
theorem dX12_count_77 : decode cX12_count 77 = .ok (.iaload, 1) := by decide +kernel
theorem dX12_count_78 : decode cX12_count 78 = .ok (.ireturn, 1) := by decide +kernel
theorem dX12_count_79 : decode cX12_count 79 = .ok (.aload_n 0, 1) := by decide +kernel
theorem dX12_count_80 : decode cX12_count 80 = .ok (.getfield 11, 3) := by decide +kernel
theorem dX12_count_83 : decode cX12_count 83 = .ok (.ireturn, 1) := by decide +kernel
theorem dX12_count_84 : decode cX12_count 84 = .ok (.iconst (-1), 1) := by decide +kernel
theorem dX12_count_85 : decode cX12_count 85 = .ok (.ireturn, 1) := by decide +kernel
def f_X12_count (v0 : XM) (x0 : Int32) : Int32 × XM :=
  x_lt (x_si v0 0 0 0) (fun m1 =>
  if x0 = (0 : Int32) then
  ((x_ga m1 2 0, m1))
  else (if x0 = (1 : Int32) then
  ((x_ga m1 2 1, m1))
  else (if x0 = (2 : Int32) then
  ((x_ga m1 2 2, m1))
  else (if x0 = (3 : Int32) then
  ((x_ga m1 2 3, m1))
  else (if x0 = (4 : Int32) then
  ((x_ga m1 2 4, m1))
  else (if x0 = (5 : Int32) then
  ((m1.1 0 2, m1))
  else (((-1), m1))))))))
set_option maxRecDepth 100000 in
set_option maxHeartbeats 4000000 in
theorem c_X12_count {l : Launch} {ad0 : Nat → Nat} {v0 : XM} {x0 : Int32}  {o : Int32 × XM} (h : f_X12_count v0 x0 = o) : CT l yX12_count cX12_count 2 (some .int) 0 [(shModel, ad0)] [v0] (fun aK => [.ref (ad0 0), .int x0]) (some (.int o.1)) True [o.2] := by
  refine CT_of (by decide) (fun _ => Nat.le_of_ble_eq_true rfl) ?_
  intro p e s m args below meth c D tc aK aV A X
  have X : Cx p s m args meth c cX12_count 2 (some .int) RX12 D tc aK aV A [(shModel, ad0)] := X
  show aW p l e (x_Rm 0) s m args below meth c D tc A 2 [(shModel, ad0)] (some (.int o.1)) True [o.2] 0 [(0, .ref (ad0 0)), (1, .int x0)] [] [v0]
  unfold f_X12_count at h
  refine a_aload_n (pc := 0) X 0 dX12_count_0 rfl rfl ?_
  refine a_iconst (pc := 1) X dX12_count_1 q_ic_0 ?_
  refine a_putI (pc := 2) X 0 fl_RX12_1 rfl rfl rfl rfl dX12_count_2 ?_
  obtain ⟨m1, e_m1, h⟩ := x_lt_elim h
  refine a_nm (vs2 := [m1]) (congrArg (fun q : XM => [q]) e_m1) ?_
  refine a_iload_n (pc := 5) X 1 dX12_count_5 rfl rfl ?_
  by_cases c_6_0 : x0 = (0 : Int32)
  · have h := x_ifp c_6_0 h
    refine a_tin (pc := 6) X 44 dX12_count_6 c_6_0 (by decide) (by decide) rfl rfl ?_
    refine a_aload_n (pc := 44) X 0 dX12_count_44 rfl rfl ?_
    refine a_getR (pc := 45) X 0 2 fl_RX12_98 rfl rfl rfl rfl dX12_count_45 ?_
    refine a_iconst (pc := 48) X dX12_count_48 q_ic_0 ?_
    refine a_iald (pc := 49) X 0 rfl rfl rfl (x_inl (by decide)) dX12_count_49 ?_
    subst h
    exact a_iret (pc := 50) X trivial dX12_count_50
  · have h := x_ifn c_6_0 h
    by_cases c_6_1 : x0 = (1 : Int32)
    · have h := x_ifp c_6_1 h
      refine a_tin (pc := 6) X 51 dX12_count_6 c_6_1 (by decide) (by decide) rfl rfl ?_
      refine a_aload_n (pc := 51) X 0 dX12_count_51 rfl rfl ?_
      refine a_getR (pc := 52) X 0 2 fl_RX12_98 rfl rfl rfl rfl dX12_count_52 ?_
      refine a_iconst (pc := 55) X dX12_count_55 q_ic_1 ?_
      refine a_iald (pc := 56) X 0 rfl rfl rfl (x_inl (by decide)) dX12_count_56 ?_
      subst h
      exact a_iret (pc := 57) X trivial dX12_count_57
    · have h := x_ifn c_6_1 h
      by_cases c_6_2 : x0 = (2 : Int32)
      · have h := x_ifp c_6_2 h
        refine a_tin (pc := 6) X 58 dX12_count_6 c_6_2 (by decide) (by decide) rfl rfl ?_
        refine a_aload_n (pc := 58) X 0 dX12_count_58 rfl rfl ?_
        refine a_getR (pc := 59) X 0 2 fl_RX12_98 rfl rfl rfl rfl dX12_count_59 ?_
        refine a_iconst (pc := 62) X dX12_count_62 q_ic_2 ?_
        refine a_iald (pc := 63) X 0 rfl rfl rfl (x_inl (by decide)) dX12_count_63 ?_
        subst h
        exact a_iret (pc := 64) X trivial dX12_count_64
      · have h := x_ifn c_6_2 h
        by_cases c_6_3 : x0 = (3 : Int32)
        · have h := x_ifp c_6_3 h
          refine a_tin (pc := 6) X 65 dX12_count_6 c_6_3 (by decide) (by decide) rfl rfl ?_
          refine a_aload_n (pc := 65) X 0 dX12_count_65 rfl rfl ?_
          refine a_getR (pc := 66) X 0 2 fl_RX12_98 rfl rfl rfl rfl dX12_count_66 ?_
          refine a_iconst (pc := 69) X dX12_count_69 q_ic_3 ?_
          refine a_iald (pc := 70) X 0 rfl rfl rfl (x_inl (by decide)) dX12_count_70 ?_
          subst h
          exact a_iret (pc := 71) X trivial dX12_count_71
        · have h := x_ifn c_6_3 h
          by_cases c_6_4 : x0 = (4 : Int32)
          · have h := x_ifp c_6_4 h
            refine a_tin (pc := 6) X 72 dX12_count_6 c_6_4 (by decide) (by decide) rfl rfl ?_
            refine a_aload_n (pc := 72) X 0 dX12_count_72 rfl rfl ?_
            refine a_getR (pc := 73) X 0 2 fl_RX12_98 rfl rfl rfl rfl dX12_count_73 ?_
            refine a_iconst (pc := 76) X dX12_count_76 q_ic_4 ?_
            refine a_iald (pc := 77) X 0 rfl rfl rfl (x_inl (by decide)) dX12_count_77 ?_
            subst h
            exact a_iret (pc := 78) X trivial dX12_count_78
          · have h := x_ifn c_6_4 h
            by_cases c_6_5 : x0 = (5 : Int32)
            · have h := x_ifp c_6_5 h
              refine a_tin (pc := 6) X 79 dX12_count_6 c_6_5 (by decide) (by decide) rfl rfl ?_
              refine a_aload_n (pc := 79) X 0 dX12_count_79 rfl rfl ?_
              refine a_getI (pc := 80) X 0 fl_RX12_11 rfl rfl rfl rfl dX12_count_80 ?_
              subst h
              exact a_iret (pc := 83) X trivial dX12_count_83
            · have h := x_ifn c_6_5 h
              refine a_tout (pc := 6) X 84 dX12_count_6 (by have q0 := x_ne c_6_0; have q1 := x_ne c_6_1; have q2 := x_ne c_6_2; have q3 := x_ne c_6_3; have q4 := x_ne c_6_4; have q5 := x_ne c_6_5; have q0 : (x0 : Int32).toInt ≠ 0 := q0; have q1 : (x0 : Int32).toInt ≠ 1 := q1; have q2 : (x0 : Int32).toInt ≠ 2 := q2; have q3 : (x0 : Int32).toInt ≠ 3 := q3; have q4 : (x0 : Int32).toInt ≠ 4 := q4; have q5 : (x0 : Int32).toInt ≠ 5 := q5; omega) rfl ?_
              refine a_iconst (pc := 84) X dX12_count_84 q_ic_m1 ?_
              subst h
              exact a_iret (pc := 85) X trivial dX12_count_85
