-- class: functional forms and contracts, written by wip/whole/gen.py out of the bytecode.
theorem dX4_readSentence_0 : decode cX4_readSentence 0 = .ok (.aload_n 0, 1) := by decide +kernel
theorem dX4_readSentence_1 : decode cX4_readSentence 1 = .ok (.invokevirtual 40, 3) := by decide +kernel
theorem dX4_readSentence_4 : decode cX4_readSentence 4 = .ok (.aload_n 0, 1) := by decide +kernel
theorem dX4_readSentence_5 : decode cX4_readSentence 5 = .ok (.iconst 0, 1) := by decide +kernel
theorem dX4_readSentence_6 : decode cX4_readSentence 6 = .ok (.putfield 43, 3) := by decide +kernel
theorem dX4_readSentence_9 : decode cX4_readSentence 9 = .ok (.aload_n 0, 1) := by decide +kernel
theorem dX4_readSentence_10 : decode cX4_readSentence 10 = .ok (.iconst 0, 1) := by decide +kernel
theorem dX4_readSentence_11 : decode cX4_readSentence 11 = .ok (.putfield 46, 3) := by decide +kernel
theorem dX4_readSentence_14 : decode cX4_readSentence 14 = .ok (.aload_n 1, 1) := by decide +kernel
theorem dX4_readSentence_15 : decode cX4_readSentence 15 = .ok (.sipush 200, 3) := by decide +kernel
theorem dX4_readSentence_18 : decode cX4_readSentence 18 = .ok (.invokevirtual 49, 3) := by decide +kernel
theorem dX4_readSentence_21 : decode cX4_readSentence 21 = .ok (.iconst 1, 1) := by decide +kernel
theorem dX4_readSentence_22 : decode cX4_readSentence 22 = .ok (.istore_n 3, 1) := by decide +kernel
theorem dX4_readSentence_23 : decode cX4_readSentence 23 = .ok (.iconst 0, 1) := by decide +kernel
theorem dX4_readSentence_24 : decode cX4_readSentence 24 = .ok (.istore 4, 2) := by decide +kernel
theorem dX4_readSentence_26 : decode cX4_readSentence 26 = .ok (.iload 4, 2) := by decide +kernel
theorem dX4_readSentence_28 : decode cX4_readSentence 28 = .ok (.sipush 200, 3) := by decide +kernel
theorem dX4_readSentence_31 : decode cX4_readSentence 31 = .ok (.if_icmp .gt 141, 3) := by decide +kernel
theorem dX4_readSentence_34 : decode cX4_readSentence 34 = .ok (.aload_n 1, 1) := by decide +kernel
theorem dX4_readSentence_35 : decode cX4_readSentence 35 = .ok (.getfield 54, 3) := by decide +kernel
theorem dX4_readSentence_38 : decode cX4_readSentence 38 = .ok (.istore 5, 2) := by decide +kernel
theorem dX4_readSentence_40 : decode cX4_readSentence 40 = .ok (.iload_n 3, 1) := by decide +kernel
theorem dX4_readSentence_41 : decode cX4_readSentence 41 = .ok (.ifCond .eq 35, 3) := by decide +kernel
theorem dX4_readSentence_44 : decode cX4_readSentence 44 = .ok (.iload 5, 2) := by decide +kernel
theorem dX4_readSentence_46 : decode cX4_readSentence 46 = .ok (.bipush 19, 2) := by decide +kernel
theorem dX4_readSentence_48 : decode cX4_readSentence 48 = .ok (.if_icmp .eq 9, 3) := by decide +kernel
theorem dX4_readSentence_51 : decode cX4_readSentence 51 = .ok (.iload 5, 2) := by decide +kernel
theorem dX4_readSentence_53 : decode cX4_readSentence 53 = .ok (.iconst (-1), 1) := by decide +kernel
theorem dX4_readSentence_54 : decode cX4_readSentence 54 = .ok (.if_icmp .ne 7, 3) := by decide +kernel
theorem dX4_readSentence_57 : decode cX4_readSentence 57 = .ok (.iconst 1, 1) := by decide +kernel
theorem dX4_readSentence_58 : decode cX4_readSentence 58 = .ok (.goto 4, 3) := by decide +kernel
theorem dX4_readSentence_61 : decode cX4_readSentence 61 = .ok (.iconst 0, 1) := by decide +kernel
theorem dX4_readSentence_62 : decode cX4_readSentence 62 = .ok (.istore_n 3, 1) := by decide +kernel
theorem dX4_readSentence_63 : decode cX4_readSentence 63 = .ok (.aload_n 0, 1) := by decide +kernel
theorem dX4_readSentence_64 : decode cX4_readSentence 64 = .ok (.aload_n 1, 1) := by decide +kernel
theorem dX4_readSentence_65 : decode cX4_readSentence 65 = .ok (.aload_n 2, 1) := by decide +kernel
theorem dX4_readSentence_66 : decode cX4_readSentence 66 = .ok (.iload 5, 2) := by decide +kernel
theorem dX4_readSentence_68 : decode cX4_readSentence 68 = .ok (.invokevirtual 57, 3) := by decide +kernel
theorem dX4_readSentence_71 : decode cX4_readSentence 71 = .ok (.ifCond .ne 95, 3) := by decide +kernel
theorem dX4_readSentence_74 : decode cX4_readSentence 74 = .ok (.iconst 0, 1) := by decide +kernel
theorem dX4_readSentence_75 : decode cX4_readSentence 75 = .ok (.ireturn, 1) := by decide +kernel
theorem dX4_readSentence_76 : decode cX4_readSentence 76 = .ok (.iload 5, 2) := by decide +kernel
theorem dX4_readSentence_78 : decode cX4_readSentence 78 = .ok (.bipush 18, 2) := by decide +kernel
theorem dX4_readSentence_80 : decode cX4_readSentence 80 = .ok (.if_icmp .eq 10, 3) := by decide +kernel
theorem dX4_readSentence_83 : decode cX4_readSentence 83 = .ok (.iload 5, 2) := by decide +kernel
theorem dX4_readSentence_85 : decode cX4_readSentence 85 = .ok (.bipush 17, 2) := by decide +kernel
theorem dX4_readSentence_87 : decode cX4_readSentence 87 = .ok (.if_icmp .ne 24, 3) := by decide +kernel
theorem dX4_readSentence_90 : decode cX4_readSentence 90 = .ok (.aload_n 0, 1) := by decide +kernel
theorem dX4_readSentence_91 : decode cX4_readSentence 91 = .ok (.iload 5, 2) := by decide +kernel
theorem dX4_readSentence_93 : decode cX4_readSentence 93 = .ok (.invokevirtual 61, 3) := by decide +kernel
theorem dX4_readSentence_96 : decode cX4_readSentence 96 = .ok (.aload_n 0, 1) := by decide +kernel
theorem dX4_readSentence_97 : decode cX4_readSentence 97 = .ok (.iload 5, 2) := by decide +kernel
theorem dX4_readSentence_99 : decode cX4_readSentence 99 = .ok (.invokevirtual 64, 3) := by decide +kernel
theorem dX4_readSentence_102 : decode cX4_readSentence 102 = .ok (.aload_n 1, 1) := by decide +kernel
theorem dX4_readSentence_103 : decode cX4_readSentence 103 = .ok (.invokevirtual 67, 3) := by decide +kernel
theorem dX4_readSentence_106 : decode cX4_readSentence 106 = .ok (.iconst 1, 1) := by decide +kernel
theorem dX4_readSentence_107 : decode cX4_readSentence 107 = .ok (.istore_n 3, 1) := by decide +kernel
theorem dX4_readSentence_108 : decode cX4_readSentence 108 = .ok (.goto 58, 3) := by decide +kernel
theorem dX4_readSentence_111 : decode cX4_readSentence 111 = .ok (.aload_n 1, 1) := by decide +kernel
theorem dX4_readSentence_112 : decode cX4_readSentence 112 = .ok (.getfield 70, 3) := by decide +kernel
theorem dX4_readSentence_115 : decode cX4_readSentence 115 = .ok (.bipush 41, 2) := by decide +kernel
theorem dX4_readSentence_117 : decode cX4_readSentence 117 = .ok (.if_icmp .ne 21, 3) := by decide +kernel
theorem dX4_readSentence_120 : decode cX4_readSentence 120 = .ok (.aload_n 0, 1) := by decide +kernel
theorem dX4_readSentence_121 : decode cX4_readSentence 121 = .ok (.getfield 46, 3) := by decide +kernel
theorem dX4_readSentence_124 : decode cX4_readSentence 124 = .ok (.ifCond .le 14, 3) := by decide +kernel
theorem dX4_readSentence_127 : decode cX4_readSentence 127 = .ok (.aload_n 0, 1) := by decide +kernel
theorem dX4_readSentence_128 : decode cX4_readSentence 128 = .ok (.invokevirtual 73, 3) := by decide +kernel
theorem dX4_readSentence_131 : decode cX4_readSentence 131 = .ok (.aload_n 1, 1) := by decide +kernel
theorem dX4_readSentence_132 : decode cX4_readSentence 132 = .ok (.invokevirtual 67, 3) := by decide +kernel
theorem dX4_readSentence_135 : decode cX4_readSentence 135 = .ok (.goto 31, 3) := by decide +kernel
theorem dX4_readSentence_138 : decode cX4_readSentence 138 = .ok (.aload_n 1, 1) := by decide +kernel
theorem dX4_readSentence_139 : decode cX4_readSentence 139 = .ok (.getfield 70, 3) := by decide +kernel
theorem dX4_readSentence_142 : decode cX4_readSentence 142 = .ok (.ifCond .ne 18, 3) := by decide +kernel
theorem dX4_readSentence_145 : decode cX4_readSentence 145 = .ok (.aload_n 0, 1) := by decide +kernel
theorem dX4_readSentence_146 : decode cX4_readSentence 146 = .ok (.getfield 46, 3) := by decide +kernel
theorem dX4_readSentence_149 : decode cX4_readSentence 149 = .ok (.ifCond .ne 11, 3) := by decide +kernel
theorem dX4_readSentence_152 : decode cX4_readSentence 152 = .ok (.aload_n 0, 1) := by decide +kernel
theorem dX4_readSentence_153 : decode cX4_readSentence 153 = .ok (.bipush 17, 2) := by decide +kernel
theorem dX4_readSentence_155 : decode cX4_readSentence 155 = .ok (.invokevirtual 61, 3) := by decide +kernel
theorem dX4_readSentence_158 : decode cX4_readSentence 158 = .ok (.iconst 1, 1) := by decide +kernel
theorem dX4_readSentence_159 : decode cX4_readSentence 159 = .ok (.ireturn, 1) := by decide +kernel
theorem dX4_readSentence_160 : decode cX4_readSentence 160 = .ok (.aload_n 1, 1) := by decide +kernel
theorem dX4_readSentence_161 : decode cX4_readSentence 161 = .ok (.iconst 1, 1) := by decide +kernel
theorem dX4_readSentence_162 : decode cX4_readSentence 162 = .ok (.invokevirtual 76, 3) := by decide +kernel
theorem dX4_readSentence_165 : decode cX4_readSentence 165 = .ok (.ireturn, 1) := by decide +kernel
theorem dX4_readSentence_166 : decode cX4_readSentence 166 = .ok (.iinc 4 1, 3) := by decide +kernel
theorem dX4_readSentence_169 : decode cX4_readSentence 169 = .ok (.goto (-143), 3) := by decide +kernel
theorem dX4_readSentence_172 : decode cX4_readSentence 172 = .ok (.iconst 0, 1) := by decide +kernel
theorem dX4_readSentence_173 : decode cX4_readSentence 173 = .ok (.ireturn, 1) := by decide +kernel
def f_X4_readSentence_166 (v2 : XM) (k26 : XM → XM → Int32 → Int32 → Option (Int32 × XM × XM)) (w0 : XM) (w1 : XM) (l3 : Int32) (l4 : Int32) : Option (Int32 × XM × XM) :=
  k26 w0 w1 l3 (l4 + 1)
def f_X4_readSentence_62 (v2 : XM) (k26 : XM → XM → Int32 → Int32 → Option (Int32 × XM × XM)) (w0 : XM) (w1 : XM) (l4 : Int32) (l5 : Int32) (s0 : Int32) : Option (Int32 × XM × XM) :=
  x_bo (f_X4_readOne w0 w1 v2 l5) (fun y1 =>
  if y1.1 = (0 : Int32) then
  (some ((0 : Int32), y1.2.1, y1.2.2))
  else (f_X4_readSentence_166 v2 k26 y1.2.1 y1.2.2 s0 l4))
def f_X4_readSentence_57 (v2 : XM) (k26 : XM → XM → Int32 → Int32 → Option (Int32 × XM × XM)) (w0 : XM) (w1 : XM) (l4 : Int32) (l5 : Int32) : Option (Int32 × XM × XM) :=
  f_X4_readSentence_62 v2 k26 w0 w1 l4 l5 (1 : Int32)
def f_X4_readSentence_90 (v2 : XM) (k26 : XM → XM → Int32 → Int32 → Option (Int32 × XM × XM)) (w0 : XM) (w1 : XM) (l4 : Int32) (l5 : Int32) : Option (Int32 × XM × XM) :=
  x_bo (f_X4_settle w0 l5) (fun y2 =>
  x_lt (f_X4_push y2 l5) (fun y3 =>
  x_bo (f_X8_advance w1) (fun y4 =>
  f_X4_readSentence_166 v2 k26 y3 y4 (1 : Int32) l4)))
def f_X4_readSentence_160 (v2 : XM) (w0 : XM) (w1 : XM) : Option (Int32 × XM × XM) :=
  x_lt (f_X8_refuse w1 (1 : Int32)) (fun y5 =>
  some (y5.1, w0, y5.2))
def f_X4_readSentence_138 (v2 : XM) (w0 : XM) (w1 : XM) : Option (Int32 × XM × XM) :=
  if (w1.1 0 6) = (0 : Int32) then
  (if (w0.1 0 7) = (0 : Int32) then
  (x_bo (f_X4_settle w0 (17 : Int32)) (fun y6 =>
  some ((1 : Int32), y6, w1)))
  else (f_X4_readSentence_160 v2  w0 w1))
  else (f_X4_readSentence_160 v2  w0 w1)
def f_X4_readSentence_26 (v2 : XM) (k26 : XM → XM → Int32 → Int32 → Option (Int32 × XM × XM)) (w0 : XM) (w1 : XM) (l3 : Int32) (l4 : Int32) : Option (Int32 × XM × XM) :=
  if ((200 : Int32) : Int32) < l4 then
  (some ((0 : Int32), w0, w1))
  else (if l3 = (0 : Int32) then
  (if ((w1.1 0 8) : Int32) = (18 : Int32) then
  (f_X4_readSentence_90 v2 k26 w0 w1 l4 (w1.1 0 8))
  else (if ((w1.1 0 8) : Int32) = (17 : Int32) then
  (f_X4_readSentence_90 v2 k26 w0 w1 l4 (w1.1 0 8))
  else (if ((w1.1 0 6) : Int32) = (41 : Int32) then
  (if (w0.1 0 7) ≤ (0 : Int32) then
  (f_X4_readSentence_138 v2  w0 w1)
  else (x_bo (f_X4_closeBracket w0) (fun y7 =>
  x_bo (f_X8_advance w1) (fun y8 =>
  f_X4_readSentence_166 v2 k26 y7 y8 l3 l4))))
  else (f_X4_readSentence_138 v2  w0 w1))))
  else (if ((w1.1 0 8) : Int32) = (19 : Int32) then
  (f_X4_readSentence_57 v2 k26 w0 w1 l4 (w1.1 0 8))
  else (if ((w1.1 0 8) : Int32) = (-1 : Int32) then
  (f_X4_readSentence_57 v2 k26 w0 w1 l4 (w1.1 0 8))
  else (f_X4_readSentence_62 v2 k26 w0 w1 l4 (w1.1 0 8) (0 : Int32)))))
def f_X4_readSentence (v0 : XM) (v1 : XM) (v2 : XM) : Option (Int32 × XM × XM) :=
  x_lt (f_X4_forget v0) (fun y9 =>
  x_lt (x_si y9 0 6 (0 : Int32)) (fun m10 =>
  x_lt (x_si m10 0 7 (0 : Int32)) (fun m11 =>
  x_bo (f_X8_open v1 (200 : Int32)) (fun y12 =>
  x_lp (φ := XM → XM → Int32 → Int32 → Option (Int32 × XM × XM)) (fun _ _ _ _ => none) (f_X4_readSentence_26 v2 ) x_NN m11 y12 (1 : Int32) (0 : Int32)))))
set_option maxRecDepth 100000 in
set_option maxHeartbeats 4000000 in
theorem w_X4_readSentence_166 {p : Program} {l : Launch} {e : Env} {s : State} {m : MethodId} {args : Array Value} {below : List Frame} {meth : Method} {c : Code} {D : va_G} {tc : Nat → ClassId} {aK aV : Nat → Nat} {A : Nat → Prop} {ad0 : Nat → Nat} {ad1 : Nat → Nat} {ad2 : Nat → Nat} {v2 : XM} (X : Cx p s m args meth c cX4_readSentence 6 (some .boolean) RX4 D tc aK aV A [(shSentence, ad0), (shTape, ad1), (shValley, ad2)])  {o : Int32 × XM × XM} {k26 : XM → XM → Int32 → Int32 → Option (Int32 × XM × XM)} (hk26 : ∀ (w0 : XM) (w1 : XM) (l3 : Int32) (l4 : Int32), k26 w0 w1 l3 l4 = some o → aW p l e (x_Rm 6) s m args below meth c D tc A 6 [(shSentence, ad0), (shTape, ad1), (shValley, ad2)] (some (.int o.1)) (x_Z o.1) [o.2.1, o.2.2, v2] 26 [(0, .ref (ad0 0)), (1, .ref (ad1 0)), (2, .ref (ad2 0)), (3, .int l3), (4, .int l4)] [] [w0, w1, v2]) {w0 : XM} {w1 : XM} {l3 : Int32} {l4 : Int32}  (h : f_X4_readSentence_166 v2 k26 w0 w1 l3 l4 = some o) : aW p l e (x_Rm 6) s m args below meth c D tc A 6 [(shSentence, ad0), (shTape, ad1), (shValley, ad2)] (some (.int o.1)) (x_Z o.1) [o.2.1, o.2.2, v2] 166 [(0, .ref (ad0 0)), (1, .ref (ad1 0)), (2, .ref (ad2 0)), (3, .int l3), (4, .int l4)] [] [w0, w1, v2] := by
  unfold f_X4_readSentence_166 at h
  refine a_iinc (pc := 166) X 4 [(4, .int (l4 + 1)), (0, .ref (ad0 0)), (1, .ref (ad1 0)), (2, .ref (ad2 0)), (3, .int l3)] dX4_readSentence_166 rfl (congrArg (HAdd.hAdd l4) q_ic_1) (by decide) rfl ?_
  refine a_goto (pc := 169) X 26 dX4_readSentence_169 rfl ?_
  refine a_sub [1, 2, 3, 4, 0] rfl ?_
  exact hk26 _ _ _ _ h
set_option maxRecDepth 100000 in
set_option maxHeartbeats 4000000 in
theorem w_X4_readSentence_62 {p : Program} {l : Launch} {e : Env} {s : State} {m : MethodId} {args : Array Value} {below : List Frame} {meth : Method} {c : Code} {D : va_G} {tc : Nat → ClassId} {aK aV : Nat → Nat} {A : Nat → Prop} {ad0 : Nat → Nat} {ad1 : Nat → Nat} {ad2 : Nat → Nat} {v2 : XM} (X : Cx p s m args meth c cX4_readSentence 6 (some .boolean) RX4 D tc aK aV A [(shSentence, ad0), (shTape, ad1), (shValley, ad2)])  {o : Int32 × XM × XM} {k26 : XM → XM → Int32 → Int32 → Option (Int32 × XM × XM)} (hk26 : ∀ (w0 : XM) (w1 : XM) (l3 : Int32) (l4 : Int32), k26 w0 w1 l3 l4 = some o → aW p l e (x_Rm 6) s m args below meth c D tc A 6 [(shSentence, ad0), (shTape, ad1), (shValley, ad2)] (some (.int o.1)) (x_Z o.1) [o.2.1, o.2.2, v2] 26 [(0, .ref (ad0 0)), (1, .ref (ad1 0)), (2, .ref (ad2 0)), (3, .int l3), (4, .int l4)] [] [w0, w1, v2]) {w0 : XM} {w1 : XM} {l4 : Int32} {l5 : Int32} {s0 : Int32} (hzs0 : x_Z s0) (h : f_X4_readSentence_62 v2 k26 w0 w1 l4 l5 s0 = some o) : aW p l e (x_Rm 6) s m args below meth c D tc A 6 [(shSentence, ad0), (shTape, ad1), (shValley, ad2)] (some (.int o.1)) (x_Z o.1) [o.2.1, o.2.2, v2] 62 [(0, .ref (ad0 0)), (1, .ref (ad1 0)), (2, .ref (ad2 0)), (4, .int l4), (5, .int l5)] [.int s0] [w0, w1, v2] := by
  unfold f_X4_readSentence_62 at h
  refine a_istore_n (pc := 62) X [(3, .int s0), (0, .ref (ad0 0)), (1, .ref (ad1 0)), (2, .ref (ad2 0)), (4, .int l4), (5, .int l5)] dX4_readSentence_62 rfl (by decide) rfl ?_
  refine a_aload_n (pc := 63) X 1 dX4_readSentence_63 rfl rfl ?_
  refine a_aload_n (pc := 64) X 2 dX4_readSentence_64 rfl rfl ?_
  refine a_aload_n (pc := 65) X 3 dX4_readSentence_65 rfl rfl ?_
  refine a_iload (pc := 66) X 5 dX4_readSentence_66 rfl ?_
  obtain ⟨y1, e_y1, h⟩ := x_bo_elim h
  refine a_callV (pc := 68) (st2 := [.int y1.1]) (vs2 := [y1.2.1, y1.2.2, v2]) X [(0, 0, 9), (1, 0, 4), (2, 0, 16)] [some y1.2.1, some y1.2.2, none] 0 0 4 [.ref (ad1 0), .ref (ad2 0), .int l5] [] cv_RX4_57 (c_X4_readOne (ad0 := ad0) (ad1 := ad1) (ad2 := ad2)  e_y1) rfl rfl rfl rfl rfl rfl rfl rfl rfl rfl rfl rfl rfl rfl rfl (Nat.le_of_ble_eq_true rfl) ⟨Nat.le_of_ble_eq_true rfl, Nat.le_of_ble_eq_true rfl⟩ dX4_readSentence_68 (fun z_68 => ?_)
  refine a_if_ne (pc := 71) X 166 dX4_readSentence_71 rfl (fun c_71 => ?_) (fun c_71 => ?_)
  · have h := x_ifn c_71 h
    refine a_sub [1, 2, 3, 0, 4] rfl ?_
    exact w_X4_readSentence_166 X   hk26  h
  · have h := x_ifp c_71 h
    refine a_iconst (pc := 74) X dX4_readSentence_74 q_ic_0 ?_
    have h := Option.some.inj h; subst h
    exact a_zret (pc := 75) X x_Z0 x_Z0 dX4_readSentence_75
set_option maxRecDepth 100000 in
set_option maxHeartbeats 4000000 in
theorem w_X4_readSentence_57 {p : Program} {l : Launch} {e : Env} {s : State} {m : MethodId} {args : Array Value} {below : List Frame} {meth : Method} {c : Code} {D : va_G} {tc : Nat → ClassId} {aK aV : Nat → Nat} {A : Nat → Prop} {ad0 : Nat → Nat} {ad1 : Nat → Nat} {ad2 : Nat → Nat} {v2 : XM} (X : Cx p s m args meth c cX4_readSentence 6 (some .boolean) RX4 D tc aK aV A [(shSentence, ad0), (shTape, ad1), (shValley, ad2)])  {o : Int32 × XM × XM} {k26 : XM → XM → Int32 → Int32 → Option (Int32 × XM × XM)} (hk26 : ∀ (w0 : XM) (w1 : XM) (l3 : Int32) (l4 : Int32), k26 w0 w1 l3 l4 = some o → aW p l e (x_Rm 6) s m args below meth c D tc A 6 [(shSentence, ad0), (shTape, ad1), (shValley, ad2)] (some (.int o.1)) (x_Z o.1) [o.2.1, o.2.2, v2] 26 [(0, .ref (ad0 0)), (1, .ref (ad1 0)), (2, .ref (ad2 0)), (3, .int l3), (4, .int l4)] [] [w0, w1, v2]) {w0 : XM} {w1 : XM} {l4 : Int32} {l5 : Int32}  (h : f_X4_readSentence_57 v2 k26 w0 w1 l4 l5 = some o) : aW p l e (x_Rm 6) s m args below meth c D tc A 6 [(shSentence, ad0), (shTape, ad1), (shValley, ad2)] (some (.int o.1)) (x_Z o.1) [o.2.1, o.2.2, v2] 57 [(0, .ref (ad0 0)), (1, .ref (ad1 0)), (2, .ref (ad2 0)), (4, .int l4), (5, .int l5)] [] [w0, w1, v2] := by
  unfold f_X4_readSentence_57 at h
  refine a_iconst (pc := 57) X dX4_readSentence_57 q_ic_1 ?_
  refine a_goto (pc := 58) X 62 dX4_readSentence_58 rfl ?_
  exact w_X4_readSentence_62 X   hk26 x_Z1 h
set_option maxRecDepth 100000 in
set_option maxHeartbeats 4000000 in
theorem w_X4_readSentence_90 {p : Program} {l : Launch} {e : Env} {s : State} {m : MethodId} {args : Array Value} {below : List Frame} {meth : Method} {c : Code} {D : va_G} {tc : Nat → ClassId} {aK aV : Nat → Nat} {A : Nat → Prop} {ad0 : Nat → Nat} {ad1 : Nat → Nat} {ad2 : Nat → Nat} {v2 : XM} (X : Cx p s m args meth c cX4_readSentence 6 (some .boolean) RX4 D tc aK aV A [(shSentence, ad0), (shTape, ad1), (shValley, ad2)])  {o : Int32 × XM × XM} {k26 : XM → XM → Int32 → Int32 → Option (Int32 × XM × XM)} (hk26 : ∀ (w0 : XM) (w1 : XM) (l3 : Int32) (l4 : Int32), k26 w0 w1 l3 l4 = some o → aW p l e (x_Rm 6) s m args below meth c D tc A 6 [(shSentence, ad0), (shTape, ad1), (shValley, ad2)] (some (.int o.1)) (x_Z o.1) [o.2.1, o.2.2, v2] 26 [(0, .ref (ad0 0)), (1, .ref (ad1 0)), (2, .ref (ad2 0)), (3, .int l3), (4, .int l4)] [] [w0, w1, v2]) {w0 : XM} {w1 : XM} {l4 : Int32} {l5 : Int32}  (h : f_X4_readSentence_90 v2 k26 w0 w1 l4 l5 = some o) : aW p l e (x_Rm 6) s m args below meth c D tc A 6 [(shSentence, ad0), (shTape, ad1), (shValley, ad2)] (some (.int o.1)) (x_Z o.1) [o.2.1, o.2.2, v2] 90 [(0, .ref (ad0 0)), (1, .ref (ad1 0)), (2, .ref (ad2 0)), (4, .int l4), (5, .int l5)] [] [w0, w1, v2] := by
  unfold f_X4_readSentence_90 at h
  refine a_aload_n (pc := 90) X 0 dX4_readSentence_90 rfl rfl ?_
  refine a_iload (pc := 91) X 4 dX4_readSentence_91 rfl ?_
  obtain ⟨y2, e_y2, h⟩ := x_bo_elim h
  refine a_callV (pc := 93) (st2 := []) (vs2 := [y2, w1, v2]) X [(0, 0, 9)] [some y2] 0 0 4 [.int l5] [] cv_RX4_61 (c_X4_settle (ad0 := ad0)  e_y2) rfl rfl rfl rfl rfl rfl rfl rfl rfl rfl rfl rfl rfl rfl rfl (Nat.le_of_ble_eq_true rfl) ⟨Nat.le_of_ble_eq_true rfl, Nat.le_of_ble_eq_true rfl⟩ dX4_readSentence_93 (fun _ => ?_)
  refine a_aload_n (pc := 96) X 0 dX4_readSentence_96 rfl rfl ?_
  refine a_iload (pc := 97) X 4 dX4_readSentence_97 rfl ?_
  obtain ⟨y3, e_y3, h⟩ := x_lt_elim h
  refine a_callV (pc := 99) (st2 := []) (vs2 := [y3, w1, v2]) X [(0, 0, 9)] [some y3] 0 0 4 [.int l5] [] cv_RX4_64 (c_X4_push (ad0 := ad0)  e_y3) rfl rfl rfl rfl rfl rfl rfl rfl rfl rfl rfl rfl rfl rfl rfl (Nat.le_of_ble_eq_true rfl) ⟨Nat.le_of_ble_eq_true rfl, Nat.le_of_ble_eq_true rfl⟩ dX4_readSentence_99 (fun _ => ?_)
  refine a_aload_n (pc := 102) X 1 dX4_readSentence_102 rfl rfl ?_
  obtain ⟨y4, e_y4, h⟩ := x_bo_elim h
  refine a_callV (pc := 103) (st2 := []) (vs2 := [y3, y4, v2]) X [(1, 0, 4)] [some y4] 1 0 8 [] [] cv_RX4_67 (c_X8_advance (ad0 := ad1)  e_y4) rfl rfl rfl rfl rfl rfl rfl rfl rfl rfl rfl rfl rfl rfl rfl (Nat.le_of_ble_eq_true rfl) ⟨Nat.le_of_ble_eq_true rfl, Nat.le_of_ble_eq_true rfl⟩ dX4_readSentence_103 (fun _ => ?_)
  refine a_iconst (pc := 106) X dX4_readSentence_106 q_ic_1 ?_
  refine a_istore_n (pc := 107) X [(3, .int (1 : Int32)), (0, .ref (ad0 0)), (1, .ref (ad1 0)), (2, .ref (ad2 0)), (4, .int l4), (5, .int l5)] dX4_readSentence_107 rfl (by decide) rfl ?_
  refine a_goto (pc := 108) X 166 dX4_readSentence_108 rfl ?_
  refine a_sub [1, 2, 3, 0, 4] rfl ?_
  exact w_X4_readSentence_166 X   hk26  h
set_option maxRecDepth 100000 in
set_option maxHeartbeats 4000000 in
theorem w_X4_readSentence_160 {p : Program} {l : Launch} {e : Env} {s : State} {m : MethodId} {args : Array Value} {below : List Frame} {meth : Method} {c : Code} {D : va_G} {tc : Nat → ClassId} {aK aV : Nat → Nat} {A : Nat → Prop} {ad0 : Nat → Nat} {ad1 : Nat → Nat} {ad2 : Nat → Nat} {v2 : XM} (X : Cx p s m args meth c cX4_readSentence 6 (some .boolean) RX4 D tc aK aV A [(shSentence, ad0), (shTape, ad1), (shValley, ad2)])  {o : Int32 × XM × XM}  {w0 : XM} {w1 : XM}  (h : f_X4_readSentence_160 v2  w0 w1 = some o) : aW p l e (x_Rm 6) s m args below meth c D tc A 6 [(shSentence, ad0), (shTape, ad1), (shValley, ad2)] (some (.int o.1)) (x_Z o.1) [o.2.1, o.2.2, v2] 160 [(1, .ref (ad1 0))] [] [w0, w1, v2] := by
  unfold f_X4_readSentence_160 at h
  refine a_aload_n (pc := 160) X 0 dX4_readSentence_160 rfl rfl ?_
  refine a_iconst (pc := 161) X dX4_readSentence_161 q_ic_1 ?_
  obtain ⟨y5, e_y5, h⟩ := x_lt_elim h
  refine a_callV (pc := 162) (st2 := [.int y5.1]) (vs2 := [w0, y5.2, v2]) X [(1, 0, 4)] [some y5.2] 1 0 8 [.int (1 : Int32)] [] cv_RX4_76 (c_X8_refuse (ad0 := ad1)  e_y5) rfl rfl rfl rfl rfl rfl rfl rfl rfl rfl rfl rfl rfl rfl rfl (Nat.le_of_ble_eq_true rfl) ⟨Nat.le_of_ble_eq_true rfl, Nat.le_of_ble_eq_true rfl⟩ dX4_readSentence_162 (fun z_162 => ?_)
  have h := Option.some.inj h; subst h
  exact a_zret (pc := 165) X z_162 z_162 dX4_readSentence_165
set_option maxRecDepth 100000 in
set_option maxHeartbeats 4000000 in
theorem w_X4_readSentence_138 {p : Program} {l : Launch} {e : Env} {s : State} {m : MethodId} {args : Array Value} {below : List Frame} {meth : Method} {c : Code} {D : va_G} {tc : Nat → ClassId} {aK aV : Nat → Nat} {A : Nat → Prop} {ad0 : Nat → Nat} {ad1 : Nat → Nat} {ad2 : Nat → Nat} {v2 : XM} (X : Cx p s m args meth c cX4_readSentence 6 (some .boolean) RX4 D tc aK aV A [(shSentence, ad0), (shTape, ad1), (shValley, ad2)])  {o : Int32 × XM × XM}  {w0 : XM} {w1 : XM}  (h : f_X4_readSentence_138 v2  w0 w1 = some o) : aW p l e (x_Rm 6) s m args below meth c D tc A 6 [(shSentence, ad0), (shTape, ad1), (shValley, ad2)] (some (.int o.1)) (x_Z o.1) [o.2.1, o.2.2, v2] 138 [(0, .ref (ad0 0)), (1, .ref (ad1 0))] [] [w0, w1, v2] := by
  unfold f_X4_readSentence_138 at h
  refine a_aload_n (pc := 138) X 1 dX4_readSentence_138 rfl rfl ?_
  refine a_getI (pc := 139) X 1 fl_RX4_70 rfl rfl rfl rfl dX4_readSentence_139 ?_
  refine a_if_ne (pc := 142) X 160 dX4_readSentence_142 rfl (fun c_142 => ?_) (fun c_142 => ?_)
  · have h := x_ifn c_142 h
    refine a_sub [1] rfl ?_
    exact w_X4_readSentence_160 X     h
  · have h := x_ifp c_142 h
    refine a_aload_n (pc := 145) X 0 dX4_readSentence_145 rfl rfl ?_
    refine a_getI (pc := 146) X 0 fl_RX4_46 rfl rfl rfl rfl dX4_readSentence_146 ?_
    refine a_if_ne (pc := 149) X 160 dX4_readSentence_149 rfl (fun c_149 => ?_) (fun c_149 => ?_)
    · have h := x_ifn c_149 h
      refine a_sub [1] rfl ?_
      exact w_X4_readSentence_160 X     h
    · have h := x_ifp c_149 h
      refine a_aload_n (pc := 152) X 0 dX4_readSentence_152 rfl rfl ?_
      refine a_bipush (pc := 153) X dX4_readSentence_153 q_bp_17 ?_
      obtain ⟨y6, e_y6, h⟩ := x_bo_elim h
      refine a_callV (pc := 155) (st2 := []) (vs2 := [y6, w1, v2]) X [(0, 0, 9)] [some y6] 0 0 4 [.int (17 : Int32)] [] cv_RX4_61 (c_X4_settle (ad0 := ad0)  e_y6) rfl rfl rfl rfl rfl rfl rfl rfl rfl rfl rfl rfl rfl rfl rfl (Nat.le_of_ble_eq_true rfl) ⟨Nat.le_of_ble_eq_true rfl, Nat.le_of_ble_eq_true rfl⟩ dX4_readSentence_155 (fun _ => ?_)
      refine a_iconst (pc := 158) X dX4_readSentence_158 q_ic_1 ?_
      have h := Option.some.inj h; subst h
      exact a_zret (pc := 159) X x_Z1 x_Z1 dX4_readSentence_159
set_option maxRecDepth 100000 in
set_option maxHeartbeats 4000000 in
theorem w_X4_readSentence_26 {p : Program} {l : Launch} {e : Env} {s : State} {m : MethodId} {args : Array Value} {below : List Frame} {meth : Method} {c : Code} {D : va_G} {tc : Nat → ClassId} {aK aV : Nat → Nat} {A : Nat → Prop} {ad0 : Nat → Nat} {ad1 : Nat → Nat} {ad2 : Nat → Nat} {v2 : XM} (X : Cx p s m args meth c cX4_readSentence 6 (some .boolean) RX4 D tc aK aV A [(shSentence, ad0), (shTape, ad1), (shValley, ad2)])  {o : Int32 × XM × XM}  : ∀ (n : Nat), ∀ (w0 : XM) (w1 : XM) (l3 : Int32) (l4 : Int32), x_lp (φ := XM → XM → Int32 → Int32 → Option (Int32 × XM × XM)) (fun _ _ _ _ => none) (f_X4_readSentence_26 v2 ) n w0 w1 l3 l4 = some o → aW p l e (x_Rm 6) s m args below meth c D tc A 6 [(shSentence, ad0), (shTape, ad1), (shValley, ad2)] (some (.int o.1)) (x_Z o.1) [o.2.1, o.2.2, v2] 26 [(0, .ref (ad0 0)), (1, .ref (ad1 0)), (2, .ref (ad2 0)), (3, .int l3), (4, .int l4)] [] [w0, w1, v2] := by
  intro n
  induction n with
  | zero => intro w0 w1 l3 l4 h; exact absurd h (fun q => by cases q)
  | succ n ih =>
    intro w0 w1 l3 l4 h
    have h : f_X4_readSentence_26 v2  (x_lp (φ := XM → XM → Int32 → Int32 → Option (Int32 × XM × XM)) (fun _ _ _ _ => none) (f_X4_readSentence_26 v2 ) n) w0 w1 l3 l4 = some o := h
    generalize x_lp (φ := XM → XM → Int32 → Int32 → Option (Int32 × XM × XM)) (fun _ _ _ _ => none) (f_X4_readSentence_26 v2 ) n = k26 at h ih
    have hk26 := ih
    unfold f_X4_readSentence_26 at h
    refine a_iload (pc := 26) X 4 dX4_readSentence_26 rfl ?_
    refine a_sipush (pc := 28) X dX4_readSentence_28 q_sp_200 ?_
    refine a_icmp_gt (pc := 31) X 172 dX4_readSentence_31 rfl (fun c_31 => ?_) (fun c_31 => ?_)
    · have h := x_ifp c_31 h
      refine a_iconst (pc := 172) X dX4_readSentence_172 q_ic_0 ?_
      have h := Option.some.inj h; subst h
      exact a_zret (pc := 173) X x_Z0 x_Z0 dX4_readSentence_173
    · have h := x_ifn c_31 h
      refine a_aload_n (pc := 34) X 1 dX4_readSentence_34 rfl rfl ?_
      refine a_getI (pc := 35) X 1 fl_RX4_54 rfl rfl rfl rfl dX4_readSentence_35 ?_
      refine a_istore (pc := 38) X [(5, .int (w1.1 0 8)), (0, .ref (ad0 0)), (1, .ref (ad1 0)), (2, .ref (ad2 0)), (3, .int l3), (4, .int l4)] dX4_readSentence_38 (by decide) rfl ?_
      refine a_iload_n (pc := 40) X 4 dX4_readSentence_40 rfl rfl ?_
      refine a_if_eq (pc := 41) X 76 dX4_readSentence_41 rfl (fun c_41 => ?_) (fun c_41 => ?_)
      · have h := x_ifp c_41 h
        refine a_iload (pc := 76) X 0 dX4_readSentence_76 rfl ?_
        refine a_bipush (pc := 78) X dX4_readSentence_78 q_bp_18 ?_
        refine a_icmp_eq (pc := 80) X 90 dX4_readSentence_80 rfl (fun c_80 => ?_) (fun c_80 => ?_)
        · have h := x_ifp c_80 h
          refine a_sub [1, 2, 3, 5, 0] rfl ?_
          exact w_X4_readSentence_90 X   hk26  h
        · have h := x_ifn c_80 h
          refine a_iload (pc := 83) X 0 dX4_readSentence_83 rfl ?_
          refine a_bipush (pc := 85) X dX4_readSentence_85 q_bp_17 ?_
          refine a_icmp_ne (pc := 87) X 111 dX4_readSentence_87 rfl (fun c_87 => ?_) (fun c_87 => ?_)
          · have h := x_ifn c_87 h
            refine a_aload_n (pc := 111) X 2 dX4_readSentence_111 rfl rfl ?_
            refine a_getI (pc := 112) X 1 fl_RX4_70 rfl rfl rfl rfl dX4_readSentence_112 ?_
            refine a_bipush (pc := 115) X dX4_readSentence_115 q_bp_41 ?_
            refine a_icmp_ne (pc := 117) X 138 dX4_readSentence_117 rfl (fun c_117 => ?_) (fun c_117 => ?_)
            · have h := x_ifn c_117 h
              refine a_sub [1, 2] rfl ?_
              exact w_X4_readSentence_138 X     h
            · have h := x_ifp c_117 h
              refine a_aload_n (pc := 120) X 1 dX4_readSentence_120 rfl rfl ?_
              refine a_getI (pc := 121) X 0 fl_RX4_46 rfl rfl rfl rfl dX4_readSentence_121 ?_
              refine a_if_le (pc := 124) X 138 dX4_readSentence_124 rfl (fun c_124 => ?_) (fun c_124 => ?_)
              · have h := x_ifp c_124 h
                refine a_sub [1, 2] rfl ?_
                exact w_X4_readSentence_138 X     h
              · have h := x_ifn c_124 h
                refine a_aload_n (pc := 127) X 1 dX4_readSentence_127 rfl rfl ?_
                obtain ⟨y7, e_y7, h⟩ := x_bo_elim h
                refine a_callV (pc := 128) (st2 := []) (vs2 := [y7, w1, v2]) X [(0, 0, 9)] [some y7] 0 0 4 [] [] cv_RX4_73 (c_X4_closeBracket (ad0 := ad0)  e_y7) rfl rfl rfl rfl rfl rfl rfl rfl rfl rfl rfl rfl rfl rfl rfl (Nat.le_of_ble_eq_true rfl) ⟨Nat.le_of_ble_eq_true rfl, Nat.le_of_ble_eq_true rfl⟩ dX4_readSentence_128 (fun _ => ?_)
                refine a_aload_n (pc := 131) X 2 dX4_readSentence_131 rfl rfl ?_
                obtain ⟨y8, e_y8, h⟩ := x_bo_elim h
                refine a_callV (pc := 132) (st2 := []) (vs2 := [y7, y8, v2]) X [(1, 0, 4)] [some y8] 1 0 8 [] [] cv_RX4_67 (c_X8_advance (ad0 := ad1)  e_y8) rfl rfl rfl rfl rfl rfl rfl rfl rfl rfl rfl rfl rfl rfl rfl (Nat.le_of_ble_eq_true rfl) ⟨Nat.le_of_ble_eq_true rfl, Nat.le_of_ble_eq_true rfl⟩ dX4_readSentence_132 (fun _ => ?_)
                refine a_goto (pc := 135) X 166 dX4_readSentence_135 rfl ?_
                refine a_sub [1, 2, 3, 4, 5] rfl ?_
                exact w_X4_readSentence_166 X   hk26  h
          · have h := x_ifp c_87 h
            refine a_sub [1, 2, 3, 5, 0] rfl ?_
            exact w_X4_readSentence_90 X   hk26  h
      · have h := x_ifn c_41 h
        refine a_iload (pc := 44) X 0 dX4_readSentence_44 rfl ?_
        refine a_bipush (pc := 46) X dX4_readSentence_46 q_bp_19 ?_
        refine a_icmp_eq (pc := 48) X 57 dX4_readSentence_48 rfl (fun c_48 => ?_) (fun c_48 => ?_)
        · have h := x_ifp c_48 h
          refine a_sub [1, 2, 3, 5, 0] rfl ?_
          exact w_X4_readSentence_57 X   hk26  h
        · have h := x_ifn c_48 h
          refine a_iload (pc := 51) X 0 dX4_readSentence_51 rfl ?_
          refine a_iconst (pc := 53) X dX4_readSentence_53 q_ic_m1 ?_
          refine a_icmp_ne (pc := 54) X 61 dX4_readSentence_54 rfl (fun c_54 => ?_) (fun c_54 => ?_)
          · have h := x_ifn c_54 h
            refine a_iconst (pc := 61) X dX4_readSentence_61 q_ic_0 ?_
            refine a_sub [1, 2, 3, 5, 0] rfl ?_
            exact w_X4_readSentence_62 X   hk26 x_Z0 h
          · have h := x_ifp c_54 h
            refine a_sub [1, 2, 3, 5, 0] rfl ?_
            exact w_X4_readSentence_57 X   hk26  h
set_option maxRecDepth 100000 in
set_option maxHeartbeats 4000000 in
theorem c_X4_readSentence {l : Launch}  {ad0 : Nat → Nat} {ad1 : Nat → Nat} {ad2 : Nat → Nat} {v0 v1 v2 : XM}   {o : Int32 × XM × XM} (h : f_X4_readSentence v0 v1 v2 = some o) : CT l yX4_readSentence cX4_readSentence 6 (some .boolean) 6 [(shSentence, ad0), (shTape, ad1), (shValley, ad2)] [v0, v1, v2] (fun aK => [.ref (ad0 0), .ref (ad1 0), .ref (ad2 0)]) (some (.int o.1)) (x_Z o.1) [o.2.1, o.2.2, v2] := by
  refine CT_of (by decide) (fun _ => Nat.le_of_ble_eq_true rfl) ?_
  intro p e s m args below meth c D tc aK aV A X
  have X : Cx p s m args meth c cX4_readSentence 6 (some .boolean) RX4 D tc aK aV A [(shSentence, ad0), (shTape, ad1), (shValley, ad2)] := X
  show aW p l e (x_Rm 6) s m args below meth c D tc A 6 [(shSentence, ad0), (shTape, ad1), (shValley, ad2)] (some (.int o.1)) (x_Z o.1) [o.2.1, o.2.2, v2] 0 [(0, .ref (ad0 0)), (1, .ref (ad1 0)), (2, .ref (ad2 0))] [] [v0, v1, v2]
  unfold f_X4_readSentence at h
  refine a_aload_n (pc := 0) X 0 dX4_readSentence_0 rfl rfl ?_
  obtain ⟨y9, e_y9, h⟩ := x_lt_elim h
  refine a_callV (pc := 1) (st2 := []) (vs2 := [y9, v1, v2]) X [(0, 0, 9)] [some y9] 0 0 4 [] [] cv_RX4_40 (c_X4_forget (ad0 := ad0)  e_y9) rfl rfl rfl rfl rfl rfl rfl rfl rfl rfl rfl rfl rfl rfl rfl (Nat.le_of_ble_eq_true rfl) ⟨Nat.le_of_ble_eq_true rfl, Nat.le_of_ble_eq_true rfl⟩ dX4_readSentence_1 (fun _ => ?_)
  refine a_aload_n (pc := 4) X 0 dX4_readSentence_4 rfl rfl ?_
  refine a_iconst (pc := 5) X dX4_readSentence_5 q_ic_0 ?_
  refine a_putI (pc := 6) X 0 fl_RX4_43 rfl rfl rfl rfl dX4_readSentence_6 ?_
  obtain ⟨m10, e_m10, h⟩ := x_lt_elim h
  refine a_nm (vs2 := [m10, v1, v2]) (congrArg (fun q : XM => [q, v1, v2]) e_m10) ?_
  refine a_aload_n (pc := 9) X 0 dX4_readSentence_9 rfl rfl ?_
  refine a_iconst (pc := 10) X dX4_readSentence_10 q_ic_0 ?_
  refine a_putI (pc := 11) X 0 fl_RX4_46 rfl rfl rfl rfl dX4_readSentence_11 ?_
  obtain ⟨m11, e_m11, h⟩ := x_lt_elim h
  refine a_nm (vs2 := [m11, v1, v2]) (congrArg (fun q : XM => [q, v1, v2]) e_m11) ?_
  refine a_aload_n (pc := 14) X 1 dX4_readSentence_14 rfl rfl ?_
  refine a_sipush (pc := 15) X dX4_readSentence_15 q_sp_200 ?_
  obtain ⟨y12, e_y12, h⟩ := x_bo_elim h
  refine a_callV (pc := 18) (st2 := []) (vs2 := [m11, y12, v2]) X [(1, 0, 4)] [some y12] 1 0 8 [.int (200 : Int32)] [] cv_RX4_49 (c_X8_open (ad0 := ad1)  e_y12) rfl rfl rfl rfl rfl rfl rfl rfl rfl rfl rfl rfl rfl rfl rfl (Nat.le_of_ble_eq_true rfl) ⟨Nat.le_of_ble_eq_true rfl, Nat.le_of_ble_eq_true rfl⟩ dX4_readSentence_18 (fun _ => ?_)
  refine a_iconst (pc := 21) X dX4_readSentence_21 q_ic_1 ?_
  refine a_istore_n (pc := 22) X [(3, .int (1 : Int32)), (0, .ref (ad0 0)), (1, .ref (ad1 0)), (2, .ref (ad2 0))] dX4_readSentence_22 rfl (by decide) rfl ?_
  refine a_iconst (pc := 23) X dX4_readSentence_23 q_ic_0 ?_
  refine a_istore (pc := 24) X [(4, .int (0 : Int32)), (3, .int (1 : Int32)), (0, .ref (ad0 0)), (1, .ref (ad1 0)), (2, .ref (ad2 0))] dX4_readSentence_24 (by decide) rfl ?_
  refine a_sub [2, 3, 4, 1, 0] rfl ?_
  exact w_X4_readSentence_26 X    x_NN _ _ _ _ h
theorem dX10_isAt_0 : decode cX10_isAt 0 = .ok (.aload_n 0, 1) := by decide +kernel
theorem dX10_isAt_1 : decode cX10_isAt 1 = .ok (.iload_n 1, 1) := by decide +kernel
theorem dX10_isAt_2 : decode cX10_isAt 2 = .ok (.invokevirtual 58, 3) := by decide +kernel
theorem dX10_isAt_5 : decode cX10_isAt 5 = .ok (.ifCond .ne 22, 3) := by decide +kernel
theorem dX10_isAt_8 : decode cX10_isAt 8 = .ok (.aload_n 0, 1) := by decide +kernel
theorem dX10_isAt_9 : decode cX10_isAt 9 = .ok (.getfield 21, 3) := by decide +kernel
theorem dX10_isAt_12 : decode cX10_isAt 12 = .ok (.getfield 62, 3) := by decide +kernel
theorem dX10_isAt_15 : decode cX10_isAt 15 = .ok (.iload_n 1, 1) := by decide +kernel
theorem dX10_isAt_16 : decode cX10_isAt 16 = .ok (.invokevirtual 52, 3) := by decide +kernel
theorem dX10_isAt_19 : decode cX10_isAt 19 = .ok (.iload_n 2, 1) := by decide +kernel
theorem dX10_isAt_20 : decode cX10_isAt 20 = .ok (.if_icmp .ne 7, 3) := by decide +kernel
theorem dX10_isAt_23 : decode cX10_isAt 23 = .ok (.iconst 1, 1) := by decide +kernel
theorem dX10_isAt_24 : decode cX10_isAt 24 = .ok (.goto 4, 3) := by decide +kernel
theorem dX10_isAt_27 : decode cX10_isAt 27 = .ok (.iconst 0, 1) := by decide +kernel
theorem dX10_isAt_28 : decode cX10_isAt 28 = .ok (.ireturn, 1) := by decide +kernel
def f_X10_isAt (v0 : XM) (x0 : Int32) (x1 : Int32) : Int32 :=
  x_lt (f_X10_isGoing v0 x0) (fun y1 =>
  if y1 = (0 : Int32) then
  (x_lt (r_get 5 (x_sub v0 18) x0) (fun y2 =>
  if (y2 : Int32) = x1 then
  (((1 : Int32) : Int32))
  else (((0 : Int32) : Int32))))
  else (((0 : Int32) : Int32)))
set_option maxRecDepth 100000 in
set_option maxHeartbeats 4000000 in
theorem c_X10_isAt {l : Launch}  {ad0 : Nat → Nat} {v0 : XM} {x0 : Int32} {x1 : Int32}  {o : Int32} (h : f_X10_isAt v0 x0 x1 = o) : CT l yX10_isAt cX10_isAt 3 (some .boolean) 2 [(shWorld, ad0)] [v0] (fun aK => [.ref (ad0 0), .int x0, .int x1]) (some (.int o)) (x_Z o) [v0] := by
  refine CT_of (by decide) (fun _ => Nat.le_of_ble_eq_true rfl) ?_
  intro p e s m args below meth c D tc aK aV A X
  have X : Cx p s m args meth c cX10_isAt 3 (some .boolean) RX10 D tc aK aV A [(shWorld, ad0)] := X
  show aW p l e (x_Rm 2) s m args below meth c D tc A 3 [(shWorld, ad0)] (some (.int o)) (x_Z o) [v0] 0 [(0, .ref (ad0 0)), (1, .int x0), (2, .int x1)] [] [v0]
  unfold f_X10_isAt at h
  refine a_aload_n (pc := 0) X 0 dX10_isAt_0 rfl rfl ?_
  refine a_iload_n (pc := 1) X 1 dX10_isAt_1 rfl rfl ?_
  obtain ⟨y1, e_y1, h⟩ := x_lt_elim h
  refine a_callV (pc := 2) (st2 := [.int y1]) (vs2 := [v0]) X [(0, 0, 32)] [none] 0 0 10 [.int x0] [] cv_RX10_58 (c_X10_isGoing (ad0 := ad0)  e_y1) rfl rfl rfl rfl rfl rfl rfl rfl rfl rfl rfl rfl rfl rfl rfl (Nat.le_of_ble_eq_true rfl) ⟨Nat.le_of_ble_eq_true rfl, Nat.le_of_ble_eq_true rfl⟩ dX10_isAt_2 (fun z_2 => ?_)
  refine a_if_ne (pc := 5) X 27 dX10_isAt_5 rfl (fun c_5 => ?_) (fun c_5 => ?_)
  · have h := x_ifn c_5 h
    refine a_iconst (pc := 27) X dX10_isAt_27 q_ic_0 ?_
    subst h
    exact a_zret (pc := 28) X x_Z0 x_Z0 dX10_isAt_28
  · have h := x_ifp c_5 h
    refine a_aload_n (pc := 8) X 0 dX10_isAt_8 rfl rfl ?_
    refine a_getR (pc := 9) X 0 17 17 fl_RX10_21 rfl rfl rfl rfl rfl dX10_isAt_9 ?_
    refine a_getR (pc := 12) X 0 1 18 fl_RX10_62 rfl rfl rfl rfl rfl dX10_isAt_12 ?_
    refine a_iload_n (pc := 15) X 1 dX10_isAt_15 rfl rfl ?_
    obtain ⟨y2, e_y2, h⟩ := x_lt_elim h
    refine a_callV (pc := 16) (st2 := [.int y2]) (vs2 := [v0]) X [(0, 18, 2)] [none] 0 18 3 [.int x0] [] cv_RX10_52 (ct_get (ad0 := (fun i => ad0 (i + 18))) (by decide) e_y2) rfl rfl rfl rfl rfl rfl rfl rfl rfl rfl rfl rfl rfl rfl rfl (Nat.le_of_ble_eq_true rfl) ⟨Nat.le_of_ble_eq_true rfl, Nat.le_of_ble_eq_true rfl⟩ dX10_isAt_16 (fun _ => ?_)
    refine a_iload_n (pc := 19) X 2 dX10_isAt_19 rfl rfl ?_
    refine a_icmp_ne (pc := 20) X 27 dX10_isAt_20 rfl (fun c_20 => ?_) (fun c_20 => ?_)
    · have h := x_ifn c_20 h
      refine a_iconst (pc := 27) X dX10_isAt_27 q_ic_0 ?_
      subst h
      exact a_zret (pc := 28) X x_Z0 x_Z0 dX10_isAt_28
    · have h := x_ifp c_20 h
      refine a_iconst (pc := 23) X dX10_isAt_23 q_ic_1 ?_
      refine a_goto (pc := 24) X 28 dX10_isAt_24 rfl ?_
      subst h
      exact a_zret (pc := 28) X x_Z1 x_Z1 dX10_isAt_28
theorem dX4_compares_0 : decode cX4_compares 0 = .ok (.iload_n 1, 1) := by decide +kernel
theorem dX4_compares_1 : decode cX4_compares 1 = .ok (.bipush 60, 2) := by decide +kernel
theorem dX4_compares_3 : decode cX4_compares 3 = .ok (.if_icmp .ne 16, 3) := by decide +kernel
theorem dX4_compares_6 : decode cX4_compares 6 = .ok (.iload_n 0, 1) := by decide +kernel
theorem dX4_compares_7 : decode cX4_compares 7 = .ok (.iload_n 2, 1) := by decide +kernel
theorem dX4_compares_8 : decode cX4_compares 8 = .ok (.if_icmp .ge 7, 3) := by decide +kernel
theorem dX4_compares_11 : decode cX4_compares 11 = .ok (.iconst 1, 1) := by decide +kernel
theorem dX4_compares_12 : decode cX4_compares 12 = .ok (.goto 36, 3) := by decide +kernel
theorem dX4_compares_15 : decode cX4_compares 15 = .ok (.iconst 0, 1) := by decide +kernel
theorem dX4_compares_16 : decode cX4_compares 16 = .ok (.goto 32, 3) := by decide +kernel
theorem dX4_compares_19 : decode cX4_compares 19 = .ok (.iload_n 1, 1) := by decide +kernel
theorem dX4_compares_20 : decode cX4_compares 20 = .ok (.bipush 62, 2) := by decide +kernel
theorem dX4_compares_22 : decode cX4_compares 22 = .ok (.if_icmp .ne 16, 3) := by decide +kernel
theorem dX4_compares_25 : decode cX4_compares 25 = .ok (.iload_n 0, 1) := by decide +kernel
theorem dX4_compares_26 : decode cX4_compares 26 = .ok (.iload_n 2, 1) := by decide +kernel
theorem dX4_compares_27 : decode cX4_compares 27 = .ok (.if_icmp .le 7, 3) := by decide +kernel
theorem dX4_compares_30 : decode cX4_compares 30 = .ok (.iconst 1, 1) := by decide +kernel
theorem dX4_compares_31 : decode cX4_compares 31 = .ok (.goto 17, 3) := by decide +kernel
theorem dX4_compares_34 : decode cX4_compares 34 = .ok (.iconst 0, 1) := by decide +kernel
theorem dX4_compares_35 : decode cX4_compares 35 = .ok (.goto 13, 3) := by decide +kernel
theorem dX4_compares_38 : decode cX4_compares 38 = .ok (.iload_n 0, 1) := by decide +kernel
theorem dX4_compares_39 : decode cX4_compares 39 = .ok (.iload_n 2, 1) := by decide +kernel
theorem dX4_compares_40 : decode cX4_compares 40 = .ok (.if_icmp .ne 7, 3) := by decide +kernel
theorem dX4_compares_43 : decode cX4_compares 43 = .ok (.iconst 1, 1) := by decide +kernel
theorem dX4_compares_44 : decode cX4_compares 44 = .ok (.goto 4, 3) := by decide +kernel
theorem dX4_compares_47 : decode cX4_compares 47 = .ok (.iconst 0, 1) := by decide +kernel
theorem dX4_compares_48 : decode cX4_compares 48 = .ok (.ireturn, 1) := by decide +kernel
def f_X4_compares (x0 : Int32) (x1 : Int32) (x2 : Int32) : Int32 :=
  if (x1 : Int32) = (60 : Int32) then
  (if (x2 : Int32) ≤ x0 then
  (((0 : Int32) : Int32))
  else (((1 : Int32) : Int32)))
  else (if (x1 : Int32) = (62 : Int32) then
  (if (x0 : Int32) ≤ x2 then
  (((0 : Int32) : Int32))
  else (((1 : Int32) : Int32)))
  else (if (x0 : Int32) = x2 then
  (((1 : Int32) : Int32))
  else (((0 : Int32) : Int32))))
set_option maxRecDepth 100000 in
set_option maxHeartbeats 4000000 in
theorem c_X4_compares {l : Launch}   {x0 : Int32} {x1 : Int32} {x2 : Int32}  {o : Int32} (h : f_X4_compares x0 x1 x2 = o) : CT l yX4_compares cX4_compares 3 (some .boolean) 0 [] [] (fun aK => [.int x0, .int x1, .int x2]) (some (.int o)) (x_Z o) [] := by
  refine CT_of (by decide) (fun _ => Nat.le_of_ble_eq_true rfl) ?_
  intro p e s m args below meth c D tc aK aV A X
  have X : Cx p s m args meth c cX4_compares 3 (some .boolean) RX4 D tc aK aV A [] := X
  show aW p l e (x_Rm 0) s m args below meth c D tc A 3 [] (some (.int o)) (x_Z o) [] 0 [(0, .int x0), (1, .int x1), (2, .int x2)] [] []
  unfold f_X4_compares at h
  refine a_iload_n (pc := 0) X 1 dX4_compares_0 rfl rfl ?_
  refine a_bipush (pc := 1) X dX4_compares_1 q_bp_60 ?_
  refine a_icmp_ne (pc := 3) X 19 dX4_compares_3 rfl (fun c_3 => ?_) (fun c_3 => ?_)
  · have h := x_ifn c_3 h
    refine a_iload_n (pc := 19) X 1 dX4_compares_19 rfl rfl ?_
    refine a_bipush (pc := 20) X dX4_compares_20 q_bp_62 ?_
    refine a_icmp_ne (pc := 22) X 38 dX4_compares_22 rfl (fun c_22 => ?_) (fun c_22 => ?_)
    · have h := x_ifn c_22 h
      refine a_iload_n (pc := 38) X 0 dX4_compares_38 rfl rfl ?_
      refine a_iload_n (pc := 39) X 2 dX4_compares_39 rfl rfl ?_
      refine a_icmp_ne (pc := 40) X 47 dX4_compares_40 rfl (fun c_40 => ?_) (fun c_40 => ?_)
      · have h := x_ifn c_40 h
        refine a_iconst (pc := 47) X dX4_compares_47 q_ic_0 ?_
        subst h
        exact a_zret (pc := 48) X x_Z0 x_Z0 dX4_compares_48
      · have h := x_ifp c_40 h
        refine a_iconst (pc := 43) X dX4_compares_43 q_ic_1 ?_
        refine a_goto (pc := 44) X 48 dX4_compares_44 rfl ?_
        subst h
        exact a_zret (pc := 48) X x_Z1 x_Z1 dX4_compares_48
    · have h := x_ifp c_22 h
      refine a_iload_n (pc := 25) X 0 dX4_compares_25 rfl rfl ?_
      refine a_iload_n (pc := 26) X 2 dX4_compares_26 rfl rfl ?_
      refine a_icmp_le (pc := 27) X 34 dX4_compares_27 rfl (fun c_27 => ?_) (fun c_27 => ?_)
      · have h := x_ifp c_27 h
        refine a_iconst (pc := 34) X dX4_compares_34 q_ic_0 ?_
        refine a_goto (pc := 35) X 48 dX4_compares_35 rfl ?_
        subst h
        exact a_zret (pc := 48) X x_Z0 x_Z0 dX4_compares_48
      · have h := x_ifn c_27 h
        refine a_iconst (pc := 30) X dX4_compares_30 q_ic_1 ?_
        refine a_goto (pc := 31) X 48 dX4_compares_31 rfl ?_
        subst h
        exact a_zret (pc := 48) X x_Z1 x_Z1 dX4_compares_48
  · have h := x_ifp c_3 h
    refine a_iload_n (pc := 6) X 0 dX4_compares_6 rfl rfl ?_
    refine a_iload_n (pc := 7) X 2 dX4_compares_7 rfl rfl ?_
    refine a_icmp_ge (pc := 8) X 15 dX4_compares_8 rfl (fun c_8 => ?_) (fun c_8 => ?_)
    · have h := x_ifp c_8 h
      refine a_iconst (pc := 15) X dX4_compares_15 q_ic_0 ?_
      refine a_goto (pc := 16) X 48 dX4_compares_16 rfl ?_
      subst h
      exact a_zret (pc := 48) X x_Z0 x_Z0 dX4_compares_48
    · have h := x_ifn c_8 h
      refine a_iconst (pc := 11) X dX4_compares_11 q_ic_1 ?_
      refine a_goto (pc := 12) X 48 dX4_compares_12 rfl ?_
      subst h
      exact a_zret (pc := 48) X x_Z1 x_Z1 dX4_compares_48
theorem dX4_fits_0 : decode cX4_fits 0 = .ok (.aload_n 0, 1) := by decide +kernel
theorem dX4_fits_1 : decode cX4_fits 1 = .ok (.getfield 23, 3) := by decide +kernel
theorem dX4_fits_4 : decode cX4_fits 4 = .ok (.iload_n 2, 1) := by decide +kernel
theorem dX4_fits_5 : decode cX4_fits 5 = .ok (.invokevirtual 102, 3) := by decide +kernel
theorem dX4_fits_8 : decode cX4_fits 8 = .ok (.istore 4, 2) := by decide +kernel
theorem dX4_fits_10 : decode cX4_fits 10 = .ok (.aload_n 0, 1) := by decide +kernel
theorem dX4_fits_11 : decode cX4_fits 11 = .ok (.getfield 16, 3) := by decide +kernel
theorem dX4_fits_14 : decode cX4_fits 14 = .ok (.iload_n 2, 1) := by decide +kernel
theorem dX4_fits_15 : decode cX4_fits 15 = .ok (.invokevirtual 102, 3) := by decide +kernel
theorem dX4_fits_18 : decode cX4_fits 18 = .ok (.tableswitch 167 20 27 #[46, 52, 167, 58, 66, 92, 117, 142], 46) := by decide +kernel
theorem dX4_fits_64 : decode cX4_fits 64 = .ok (.aload_n 1, 1) := by decide +kernel
theorem dX4_fits_65 : decode cX4_fits 65 = .ok (.iload_n 3, 1) := by decide +kernel
theorem dX4_fits_66 : decode cX4_fits 66 = .ok (.invokevirtual 129, 3) := by decide +kernel
theorem dX4_fits_69 : decode cX4_fits 69 = .ok (.ireturn, 1) := by decide +kernel
theorem dX4_fits_70 : decode cX4_fits 70 = .ok (.aload_n 1, 1) := by decide +kernel
theorem dX4_fits_71 : decode cX4_fits 71 = .ok (.iload_n 3, 1) := by decide +kernel
theorem dX4_fits_72 : decode cX4_fits 72 = .ok (.invokevirtual 132, 3) := by decide +kernel
theorem dX4_fits_75 : decode cX4_fits 75 = .ok (.ireturn, 1) := by decide +kernel
theorem dX4_fits_76 : decode cX4_fits 76 = .ok (.aload_n 1, 1) := by decide +kernel
theorem dX4_fits_77 : decode cX4_fits 77 = .ok (.iload_n 3, 1) := by decide +kernel
theorem dX4_fits_78 : decode cX4_fits 78 = .ok (.iload 4, 2) := by decide +kernel
theorem dX4_fits_80 : decode cX4_fits 80 = .ok (.invokevirtual 135, 3) := by decide +kernel
theorem dX4_fits_83 : decode cX4_fits 83 = .ok (.ireturn, 1) := by decide +kernel
theorem dX4_fits_84 : decode cX4_fits 84 = .ok (.aload_n 1, 1) := by decide +kernel
theorem dX4_fits_85 : decode cX4_fits 85 = .ok (.getfield 139, 3) := by decide +kernel
theorem dX4_fits_88 : decode cX4_fits 88 = .ok (.getfield 143, 3) := by decide +kernel
theorem dX4_fits_91 : decode cX4_fits 91 = .ok (.iload_n 3, 1) := by decide +kernel
theorem dX4_fits_92 : decode cX4_fits 92 = .ok (.invokevirtual 102, 3) := by decide +kernel
theorem dX4_fits_95 : decode cX4_fits 95 = .ok (.iload 4, 2) := by decide +kernel
theorem dX4_fits_97 : decode cX4_fits 97 = .ok (.ishr, 1) := by decide +kernel
theorem dX4_fits_98 : decode cX4_fits 98 = .ok (.iconst 1, 1) := by decide +kernel
theorem dX4_fits_99 : decode cX4_fits 99 = .ok (.iand, 1) := by decide +kernel
theorem dX4_fits_100 : decode cX4_fits 100 = .ok (.iconst 1, 1) := by decide +kernel
theorem dX4_fits_101 : decode cX4_fits 101 = .ok (.if_icmp .ne 7, 3) := by decide +kernel
theorem dX4_fits_104 : decode cX4_fits 104 = .ok (.iconst 1, 1) := by decide +kernel
theorem dX4_fits_105 : decode cX4_fits 105 = .ok (.goto 4, 3) := by decide +kernel
theorem dX4_fits_108 : decode cX4_fits 108 = .ok (.iconst 0, 1) := by decide +kernel
theorem dX4_fits_109 : decode cX4_fits 109 = .ok (.ireturn, 1) := by decide +kernel
theorem dX4_fits_110 : decode cX4_fits 110 = .ok (.aload_n 1, 1) := by decide +kernel
theorem dX4_fits_111 : decode cX4_fits 111 = .ok (.getfield 139, 3) := by decide +kernel
theorem dX4_fits_114 : decode cX4_fits 114 = .ok (.getfield 148, 3) := by decide +kernel
theorem dX4_fits_117 : decode cX4_fits 117 = .ok (.iload_n 3, 1) := by decide +kernel
theorem dX4_fits_118 : decode cX4_fits 118 = .ok (.invokevirtual 102, 3) := by decide +kernel
theorem dX4_fits_121 : decode cX4_fits 121 = .ok (.aload_n 0, 1) := by decide +kernel
theorem dX4_fits_122 : decode cX4_fits 122 = .ok (.getfield 20, 3) := by decide +kernel
theorem dX4_fits_125 : decode cX4_fits 125 = .ok (.iload_n 2, 1) := by decide +kernel
theorem dX4_fits_126 : decode cX4_fits 126 = .ok (.invokevirtual 102, 3) := by decide +kernel
theorem dX4_fits_129 : decode cX4_fits 129 = .ok (.iload 4, 2) := by decide +kernel
theorem dX4_fits_131 : decode cX4_fits 131 = .ok (.invokestatic 151, 3) := by decide +kernel
theorem dX4_fits_134 : decode cX4_fits 134 = .ok (.ireturn, 1) := by decide +kernel
theorem dX4_fits_135 : decode cX4_fits 135 = .ok (.aload_n 1, 1) := by decide +kernel
theorem dX4_fits_136 : decode cX4_fits 136 = .ok (.getfield 139, 3) := by decide +kernel
theorem dX4_fits_139 : decode cX4_fits 139 = .ok (.getfield 154, 3) := by decide +kernel
theorem dX4_fits_142 : decode cX4_fits 142 = .ok (.iload_n 3, 1) := by decide +kernel
theorem dX4_fits_143 : decode cX4_fits 143 = .ok (.invokevirtual 102, 3) := by decide +kernel
theorem dX4_fits_146 : decode cX4_fits 146 = .ok (.aload_n 0, 1) := by decide +kernel
theorem dX4_fits_147 : decode cX4_fits 147 = .ok (.getfield 20, 3) := by decide +kernel
theorem dX4_fits_150 : decode cX4_fits 150 = .ok (.iload_n 2, 1) := by decide +kernel
theorem dX4_fits_151 : decode cX4_fits 151 = .ok (.invokevirtual 102, 3) := by decide +kernel
theorem dX4_fits_154 : decode cX4_fits 154 = .ok (.iload 4, 2) := by decide +kernel
theorem dX4_fits_156 : decode cX4_fits 156 = .ok (.invokestatic 151, 3) := by decide +kernel
theorem dX4_fits_159 : decode cX4_fits 159 = .ok (.ireturn, 1) := by decide +kernel
theorem dX4_fits_160 : decode cX4_fits 160 = .ok (.aload_n 1, 1) := by decide +kernel
theorem dX4_fits_161 : decode cX4_fits 161 = .ok (.getfield 114, 3) := by decide +kernel
theorem dX4_fits_164 : decode cX4_fits 164 = .ok (.getfield 157, 3) := by decide +kernel
theorem dX4_fits_167 : decode cX4_fits 167 = .ok (.iload_n 3, 1) := by decide +kernel
theorem dX4_fits_168 : decode cX4_fits 168 = .ok (.invokevirtual 102, 3) := by decide +kernel
theorem dX4_fits_171 : decode cX4_fits 171 = .ok (.aload_n 0, 1) := by decide +kernel
theorem dX4_fits_172 : decode cX4_fits 172 = .ok (.getfield 20, 3) := by decide +kernel
theorem dX4_fits_175 : decode cX4_fits 175 = .ok (.iload_n 2, 1) := by decide +kernel
theorem dX4_fits_176 : decode cX4_fits 176 = .ok (.invokevirtual 102, 3) := by decide +kernel
theorem dX4_fits_179 : decode cX4_fits 179 = .ok (.iload 4, 2) := by decide +kernel
theorem dX4_fits_181 : decode cX4_fits 181 = .ok (.invokestatic 151, 3) := by decide +kernel
theorem dX4_fits_184 : decode cX4_fits 184 = .ok (.ireturn, 1) := by decide +kernel
theorem dX4_fits_185 : decode cX4_fits 185 = .ok (.iload_n 3, 1) := by decide +kernel
theorem dX4_fits_186 : decode cX4_fits 186 = .ok (.aload_n 0, 1) := by decide +kernel
theorem dX4_fits_187 : decode cX4_fits 187 = .ok (.getfield 20, 3) := by decide +kernel
theorem dX4_fits_190 : decode cX4_fits 190 = .ok (.iload_n 2, 1) := by decide +kernel
theorem dX4_fits_191 : decode cX4_fits 191 = .ok (.invokevirtual 102, 3) := by decide +kernel
theorem dX4_fits_194 : decode cX4_fits 194 = .ok (.iload 4, 2) := by decide +kernel
theorem dX4_fits_196 : decode cX4_fits 196 = .ok (.invokestatic 151, 3) := by decide +kernel
theorem dX4_fits_199 : decode cX4_fits 199 = .ok (.ireturn, 1) := by decide +kernel
def f_X4_fits (v0 : XM) (v1 : XM) (x1 : Int32) (x2 : Int32) : Int32 :=
  x_lt (r_get 40 (x_sub v0 5) x1) (fun y1 =>
  x_lt (r_get 40 (x_sub v0 1) x1) (fun y2 =>
  if y2 = (20 : Int32) then
  (x_lt (f_X10_isGoing v1 x2) (fun y4 =>
  (y4 : Int32)))
  else (if y2 = (21 : Int32) then
  (x_lt (f_X10_isHoused v1 x2) (fun y5 =>
  (y5 : Int32)))
  else (if y2 = (22 : Int32) then
  (x_lt (r_get 40 (x_sub v0 3) x1) (fun y6 =>
  x_lt (f_X4_compares x2 y6 y1) (fun y7 =>
  (y7 : Int32))))
  else (if y2 = (23 : Int32) then
  (x_lt (f_X10_isAt v1 x2 y1) (fun y8 =>
  (y8 : Int32)))
  else (if y2 = (24 : Int32) then
  (x_lt (r_get 5 (x_sub v1 26) x2) (fun y9 =>
  if (((y9 >>> (y1 &&& 31)) &&& (1 : Int32)) : Int32) = (1 : Int32) then
  (((1 : Int32) : Int32))
  else (((0 : Int32) : Int32))))
  else (if y2 = (25 : Int32) then
  (x_lt (r_get 5 (x_sub v1 22) x2) (fun y10 =>
  x_lt (r_get 40 (x_sub v0 3) x1) (fun y11 =>
  x_lt (f_X4_compares y10 y11 y1) (fun y12 =>
  (y12 : Int32)))))
  else (if y2 = (26 : Int32) then
  (x_lt (r_get 5 (x_sub v1 24) x2) (fun y13 =>
  x_lt (r_get 40 (x_sub v0 3) x1) (fun y14 =>
  x_lt (f_X4_compares y13 y14 y1) (fun y15 =>
  (y15 : Int32)))))
  else (if y2 = (27 : Int32) then
  (x_lt (r_get 5 (x_sub v1 14) x2) (fun y16 =>
  x_lt (r_get 40 (x_sub v0 3) x1) (fun y17 =>
  x_lt (f_X4_compares y16 y17 y1) (fun y18 =>
  (y18 : Int32)))))
  else (x_lt (r_get 40 (x_sub v0 3) x1) (fun y19 =>
  x_lt (f_X4_compares x2 y19 y1) (fun y20 =>
  (y20 : Int32)))))))))))))
set_option maxRecDepth 100000 in
set_option maxHeartbeats 4000000 in
theorem c_X4_fits {l : Launch}  {ad0 : Nat → Nat} {ad1 : Nat → Nat} {v0 v1 : XM} {x1 : Int32} {x2 : Int32}  {o : Int32} (h : f_X4_fits v0 v1 x1 x2 = o) : CT l yX4_fits cX4_fits 5 (some .boolean) 3 [(shSentence, ad0), (shWorld, ad1)] [v0, v1] (fun aK => [.ref (ad0 0), .ref (ad1 0), .int x1, .int x2]) (some (.int o)) (x_Z o) [v0, v1] := by
  refine CT_of (by decide) (fun _ => Nat.le_of_ble_eq_true rfl) ?_
  intro p e s m args below meth c D tc aK aV A X
  have X : Cx p s m args meth c cX4_fits 5 (some .boolean) RX4 D tc aK aV A [(shSentence, ad0), (shWorld, ad1)] := X
  show aW p l e (x_Rm 3) s m args below meth c D tc A 5 [(shSentence, ad0), (shWorld, ad1)] (some (.int o)) (x_Z o) [v0, v1] 0 [(0, .ref (ad0 0)), (1, .ref (ad1 0)), (2, .int x1), (3, .int x2)] [] [v0, v1]
  unfold f_X4_fits at h
  refine a_aload_n (pc := 0) X 0 dX4_fits_0 rfl rfl ?_
  refine a_getR (pc := 1) X 0 5 5 fl_RX4_23 rfl rfl rfl rfl rfl dX4_fits_1 ?_
  refine a_iload_n (pc := 4) X 2 dX4_fits_4 rfl rfl ?_
  obtain ⟨y1, e_y1, h⟩ := x_lt_elim h
  refine a_callV (pc := 5) (st2 := [.int y1]) (vs2 := [v0, v1]) X [(0, 5, 2)] [none] 0 5 3 [.int x1] [] cv_RX4_102 (ct_get (ad0 := (fun i => ad0 (i + 5))) (by decide) e_y1) rfl rfl rfl rfl rfl rfl rfl rfl rfl rfl rfl rfl rfl rfl rfl (Nat.le_of_ble_eq_true rfl) ⟨Nat.le_of_ble_eq_true rfl, Nat.le_of_ble_eq_true rfl⟩ dX4_fits_5 (fun _ => ?_)
  refine a_istore (pc := 8) X [(4, .int y1), (0, .ref (ad0 0)), (1, .ref (ad1 0)), (2, .int x1), (3, .int x2)] dX4_fits_8 (by decide) rfl ?_
  refine a_aload_n (pc := 10) X 1 dX4_fits_10 rfl rfl ?_
  refine a_getR (pc := 11) X 0 1 1 fl_RX4_16 rfl rfl rfl rfl rfl dX4_fits_11 ?_
  refine a_iload_n (pc := 14) X 3 dX4_fits_14 rfl rfl ?_
  obtain ⟨y2, e_y2, h⟩ := x_lt_elim h
  refine a_callV (pc := 15) (st2 := [.int y2]) (vs2 := [v0, v1]) X [(0, 1, 2)] [none] 0 1 3 [.int x1] [] cv_RX4_102 (ct_get (ad0 := (fun i => ad0 (i + 1))) (by decide) e_y2) rfl rfl rfl rfl rfl rfl rfl rfl rfl rfl rfl rfl rfl rfl rfl (Nat.le_of_ble_eq_true rfl) ⟨Nat.le_of_ble_eq_true rfl, Nat.le_of_ble_eq_true rfl⟩ dX4_fits_15 (fun _ => ?_)
  by_cases c_18_20 : y2 = (20 : Int32)
  · have h := x_ifp c_18_20 h
    refine a_tin (pc := 18) X 64 dX4_fits_18 c_18_20 (by decide) (by decide) rfl rfl ?_
    refine a_aload_n (pc := 64) X 2 dX4_fits_64 rfl rfl ?_
    refine a_iload_n (pc := 65) X 4 dX4_fits_65 rfl rfl ?_
    obtain ⟨y4, e_y4, h⟩ := x_lt_elim h
    refine a_callV (pc := 66) (st2 := [.int y4]) (vs2 := [v0, v1]) X [(1, 0, 32)] [none] 1 0 10 [.int x2] [] cv_RX4_129 (c_X10_isGoing (ad0 := ad1)  e_y4) rfl rfl rfl rfl rfl rfl rfl rfl rfl rfl rfl rfl rfl rfl rfl (Nat.le_of_ble_eq_true rfl) ⟨Nat.le_of_ble_eq_true rfl, Nat.le_of_ble_eq_true rfl⟩ dX4_fits_66 (fun z_66 => ?_)
    subst h
    exact a_zret (pc := 69) X z_66 z_66 dX4_fits_69
  · have h := x_ifn c_18_20 h
    by_cases c_18_21 : y2 = (21 : Int32)
    · have h := x_ifp c_18_21 h
      refine a_tin (pc := 18) X 70 dX4_fits_18 c_18_21 (by decide) (by decide) rfl rfl ?_
      refine a_aload_n (pc := 70) X 2 dX4_fits_70 rfl rfl ?_
      refine a_iload_n (pc := 71) X 4 dX4_fits_71 rfl rfl ?_
      obtain ⟨y5, e_y5, h⟩ := x_lt_elim h
      refine a_callV (pc := 72) (st2 := [.int y5]) (vs2 := [v0, v1]) X [(1, 0, 32)] [none] 1 0 10 [.int x2] [] cv_RX4_132 (c_X10_isHoused (ad0 := ad1)  e_y5) rfl rfl rfl rfl rfl rfl rfl rfl rfl rfl rfl rfl rfl rfl rfl (Nat.le_of_ble_eq_true rfl) ⟨Nat.le_of_ble_eq_true rfl, Nat.le_of_ble_eq_true rfl⟩ dX4_fits_72 (fun z_72 => ?_)
      subst h
      exact a_zret (pc := 75) X z_72 z_72 dX4_fits_75
    · have h := x_ifn c_18_21 h
      by_cases c_18_22 : y2 = (22 : Int32)
      · have h := x_ifp c_18_22 h
        refine a_tin (pc := 18) X 185 dX4_fits_18 c_18_22 (by decide) (by decide) rfl rfl ?_
        refine a_iload_n (pc := 185) X 4 dX4_fits_185 rfl rfl ?_
        refine a_aload_n (pc := 186) X 1 dX4_fits_186 rfl rfl ?_
        refine a_getR (pc := 187) X 0 3 3 fl_RX4_20 rfl rfl rfl rfl rfl dX4_fits_187 ?_
        refine a_iload_n (pc := 190) X 3 dX4_fits_190 rfl rfl ?_
        obtain ⟨y6, e_y6, h⟩ := x_lt_elim h
        refine a_callV (pc := 191) (st2 := [.int y6, .int x2]) (vs2 := [v0, v1]) X [(0, 3, 2)] [none] 0 3 3 [.int x1] [.int x2] cv_RX4_102 (ct_get (ad0 := (fun i => ad0 (i + 3))) (by decide) e_y6) rfl rfl rfl rfl rfl rfl rfl rfl rfl rfl rfl rfl rfl rfl rfl (Nat.le_of_ble_eq_true rfl) ⟨Nat.le_of_ble_eq_true rfl, Nat.le_of_ble_eq_true rfl⟩ dX4_fits_191 (fun _ => ?_)
        refine a_iload (pc := 194) X 0 dX4_fits_194 rfl ?_
        obtain ⟨y7, e_y7, h⟩ := x_lt_elim h
        refine a_callS (pc := 196) (st2 := [.int y7]) (vs2 := [v0, v1]) X [] [] [.int x2, .int y6, .int y1] [] cv_RX4_151 (c_X4_compares   e_y7) rfl rfl rfl rfl rfl rfl rfl rfl rfl rfl rfl (Nat.le_of_ble_eq_true rfl) ⟨Nat.le_of_ble_eq_true rfl, Nat.le_of_ble_eq_true rfl⟩ dX4_fits_196 (fun z_196 => ?_)
        subst h
        exact a_zret (pc := 199) X z_196 z_196 dX4_fits_199
      · have h := x_ifn c_18_22 h
        by_cases c_18_23 : y2 = (23 : Int32)
        · have h := x_ifp c_18_23 h
          refine a_tin (pc := 18) X 76 dX4_fits_18 c_18_23 (by decide) (by decide) rfl rfl ?_
          refine a_aload_n (pc := 76) X 2 dX4_fits_76 rfl rfl ?_
          refine a_iload_n (pc := 77) X 4 dX4_fits_77 rfl rfl ?_
          refine a_iload (pc := 78) X 0 dX4_fits_78 rfl ?_
          obtain ⟨y8, e_y8, h⟩ := x_lt_elim h
          refine a_callV (pc := 80) (st2 := [.int y8]) (vs2 := [v0, v1]) X [(1, 0, 32)] [none] 1 0 10 [.int x2, .int y1] [] cv_RX4_135 (c_X10_isAt (ad0 := ad1)  e_y8) rfl rfl rfl rfl rfl rfl rfl rfl rfl rfl rfl rfl rfl rfl rfl (Nat.le_of_ble_eq_true rfl) ⟨Nat.le_of_ble_eq_true rfl, Nat.le_of_ble_eq_true rfl⟩ dX4_fits_80 (fun z_80 => ?_)
          subst h
          exact a_zret (pc := 83) X z_80 z_80 dX4_fits_83
        · have h := x_ifn c_18_23 h
          by_cases c_18_24 : y2 = (24 : Int32)
          · have h := x_ifp c_18_24 h
            refine a_tin (pc := 18) X 84 dX4_fits_18 c_18_24 (by decide) (by decide) rfl rfl ?_
            refine a_aload_n (pc := 84) X 2 dX4_fits_84 rfl rfl ?_
            refine a_getR (pc := 85) X 1 17 17 fl_RX4_139 rfl rfl rfl rfl rfl dX4_fits_85 ?_
            refine a_getR (pc := 88) X 1 9 26 fl_RX4_143 rfl rfl rfl rfl rfl dX4_fits_88 ?_
            refine a_iload_n (pc := 91) X 4 dX4_fits_91 rfl rfl ?_
            obtain ⟨y9, e_y9, h⟩ := x_lt_elim h
            refine a_callV (pc := 92) (st2 := [.int y9]) (vs2 := [v0, v1]) X [(1, 26, 2)] [none] 1 26 3 [.int x2] [] cv_RX4_102 (ct_get (ad0 := (fun i => ad1 (i + 26))) (by decide) e_y9) rfl rfl rfl rfl rfl rfl rfl rfl rfl rfl rfl rfl rfl rfl rfl (Nat.le_of_ble_eq_true rfl) ⟨Nat.le_of_ble_eq_true rfl, Nat.le_of_ble_eq_true rfl⟩ dX4_fits_92 (fun _ => ?_)
            refine a_iload (pc := 95) X 0 dX4_fits_95 rfl ?_
            refine a_ishr (pc := 97) X dX4_fits_97 ?_
            refine a_iconst (pc := 98) X dX4_fits_98 q_ic_1 ?_
            refine a_iand (pc := 99) X dX4_fits_99 ?_
            refine a_iconst (pc := 100) X dX4_fits_100 q_ic_1 ?_
            refine a_icmp_ne (pc := 101) X 108 dX4_fits_101 rfl (fun c_101 => ?_) (fun c_101 => ?_)
            · have h := x_ifn c_101 h
              refine a_iconst (pc := 108) X dX4_fits_108 q_ic_0 ?_
              subst h
              exact a_zret (pc := 109) X x_Z0 x_Z0 dX4_fits_109
            · have h := x_ifp c_101 h
              refine a_iconst (pc := 104) X dX4_fits_104 q_ic_1 ?_
              refine a_goto (pc := 105) X 109 dX4_fits_105 rfl ?_
              subst h
              exact a_zret (pc := 109) X x_Z1 x_Z1 dX4_fits_109
          · have h := x_ifn c_18_24 h
            by_cases c_18_25 : y2 = (25 : Int32)
            · have h := x_ifp c_18_25 h
              refine a_tin (pc := 18) X 110 dX4_fits_18 c_18_25 (by decide) (by decide) rfl rfl ?_
              refine a_aload_n (pc := 110) X 2 dX4_fits_110 rfl rfl ?_
              refine a_getR (pc := 111) X 1 17 17 fl_RX4_139 rfl rfl rfl rfl rfl dX4_fits_111 ?_
              refine a_getR (pc := 114) X 1 5 22 fl_RX4_148 rfl rfl rfl rfl rfl dX4_fits_114 ?_
              refine a_iload_n (pc := 117) X 4 dX4_fits_117 rfl rfl ?_
              obtain ⟨y10, e_y10, h⟩ := x_lt_elim h
              refine a_callV (pc := 118) (st2 := [.int y10]) (vs2 := [v0, v1]) X [(1, 22, 2)] [none] 1 22 3 [.int x2] [] cv_RX4_102 (ct_get (ad0 := (fun i => ad1 (i + 22))) (by decide) e_y10) rfl rfl rfl rfl rfl rfl rfl rfl rfl rfl rfl rfl rfl rfl rfl (Nat.le_of_ble_eq_true rfl) ⟨Nat.le_of_ble_eq_true rfl, Nat.le_of_ble_eq_true rfl⟩ dX4_fits_118 (fun _ => ?_)
              refine a_aload_n (pc := 121) X 1 dX4_fits_121 rfl rfl ?_
              refine a_getR (pc := 122) X 0 3 3 fl_RX4_20 rfl rfl rfl rfl rfl dX4_fits_122 ?_
              refine a_iload_n (pc := 125) X 3 dX4_fits_125 rfl rfl ?_
              obtain ⟨y11, e_y11, h⟩ := x_lt_elim h
              refine a_callV (pc := 126) (st2 := [.int y11, .int y10]) (vs2 := [v0, v1]) X [(0, 3, 2)] [none] 0 3 3 [.int x1] [.int y10] cv_RX4_102 (ct_get (ad0 := (fun i => ad0 (i + 3))) (by decide) e_y11) rfl rfl rfl rfl rfl rfl rfl rfl rfl rfl rfl rfl rfl rfl rfl (Nat.le_of_ble_eq_true rfl) ⟨Nat.le_of_ble_eq_true rfl, Nat.le_of_ble_eq_true rfl⟩ dX4_fits_126 (fun _ => ?_)
              refine a_iload (pc := 129) X 0 dX4_fits_129 rfl ?_
              obtain ⟨y12, e_y12, h⟩ := x_lt_elim h
              refine a_callS (pc := 131) (st2 := [.int y12]) (vs2 := [v0, v1]) X [] [] [.int y10, .int y11, .int y1] [] cv_RX4_151 (c_X4_compares   e_y12) rfl rfl rfl rfl rfl rfl rfl rfl rfl rfl rfl (Nat.le_of_ble_eq_true rfl) ⟨Nat.le_of_ble_eq_true rfl, Nat.le_of_ble_eq_true rfl⟩ dX4_fits_131 (fun z_131 => ?_)
              subst h
              exact a_zret (pc := 134) X z_131 z_131 dX4_fits_134
            · have h := x_ifn c_18_25 h
              by_cases c_18_26 : y2 = (26 : Int32)
              · have h := x_ifp c_18_26 h
                refine a_tin (pc := 18) X 135 dX4_fits_18 c_18_26 (by decide) (by decide) rfl rfl ?_
                refine a_aload_n (pc := 135) X 2 dX4_fits_135 rfl rfl ?_
                refine a_getR (pc := 136) X 1 17 17 fl_RX4_139 rfl rfl rfl rfl rfl dX4_fits_136 ?_
                refine a_getR (pc := 139) X 1 7 24 fl_RX4_154 rfl rfl rfl rfl rfl dX4_fits_139 ?_
                refine a_iload_n (pc := 142) X 4 dX4_fits_142 rfl rfl ?_
                obtain ⟨y13, e_y13, h⟩ := x_lt_elim h
                refine a_callV (pc := 143) (st2 := [.int y13]) (vs2 := [v0, v1]) X [(1, 24, 2)] [none] 1 24 3 [.int x2] [] cv_RX4_102 (ct_get (ad0 := (fun i => ad1 (i + 24))) (by decide) e_y13) rfl rfl rfl rfl rfl rfl rfl rfl rfl rfl rfl rfl rfl rfl rfl (Nat.le_of_ble_eq_true rfl) ⟨Nat.le_of_ble_eq_true rfl, Nat.le_of_ble_eq_true rfl⟩ dX4_fits_143 (fun _ => ?_)
                refine a_aload_n (pc := 146) X 1 dX4_fits_146 rfl rfl ?_
                refine a_getR (pc := 147) X 0 3 3 fl_RX4_20 rfl rfl rfl rfl rfl dX4_fits_147 ?_
                refine a_iload_n (pc := 150) X 3 dX4_fits_150 rfl rfl ?_
                obtain ⟨y14, e_y14, h⟩ := x_lt_elim h
                refine a_callV (pc := 151) (st2 := [.int y14, .int y13]) (vs2 := [v0, v1]) X [(0, 3, 2)] [none] 0 3 3 [.int x1] [.int y13] cv_RX4_102 (ct_get (ad0 := (fun i => ad0 (i + 3))) (by decide) e_y14) rfl rfl rfl rfl rfl rfl rfl rfl rfl rfl rfl rfl rfl rfl rfl (Nat.le_of_ble_eq_true rfl) ⟨Nat.le_of_ble_eq_true rfl, Nat.le_of_ble_eq_true rfl⟩ dX4_fits_151 (fun _ => ?_)
                refine a_iload (pc := 154) X 0 dX4_fits_154 rfl ?_
                obtain ⟨y15, e_y15, h⟩ := x_lt_elim h
                refine a_callS (pc := 156) (st2 := [.int y15]) (vs2 := [v0, v1]) X [] [] [.int y13, .int y14, .int y1] [] cv_RX4_151 (c_X4_compares   e_y15) rfl rfl rfl rfl rfl rfl rfl rfl rfl rfl rfl (Nat.le_of_ble_eq_true rfl) ⟨Nat.le_of_ble_eq_true rfl, Nat.le_of_ble_eq_true rfl⟩ dX4_fits_156 (fun z_156 => ?_)
                subst h
                exact a_zret (pc := 159) X z_156 z_156 dX4_fits_159
              · have h := x_ifn c_18_26 h
                by_cases c_18_27 : y2 = (27 : Int32)
                · have h := x_ifp c_18_27 h
                  refine a_tin (pc := 18) X 160 dX4_fits_18 c_18_27 (by decide) (by decide) rfl rfl ?_
                  refine a_aload_n (pc := 160) X 2 dX4_fits_160 rfl rfl ?_
                  refine a_getR (pc := 161) X 1 1 1 fl_RX4_114 rfl rfl rfl rfl rfl dX4_fits_161 ?_
                  refine a_getR (pc := 164) X 1 13 14 fl_RX4_157 rfl rfl rfl rfl rfl dX4_fits_164 ?_
                  refine a_iload_n (pc := 167) X 4 dX4_fits_167 rfl rfl ?_
                  obtain ⟨y16, e_y16, h⟩ := x_lt_elim h
                  refine a_callV (pc := 168) (st2 := [.int y16]) (vs2 := [v0, v1]) X [(1, 14, 2)] [none] 1 14 3 [.int x2] [] cv_RX4_102 (ct_get (ad0 := (fun i => ad1 (i + 14))) (by decide) e_y16) rfl rfl rfl rfl rfl rfl rfl rfl rfl rfl rfl rfl rfl rfl rfl (Nat.le_of_ble_eq_true rfl) ⟨Nat.le_of_ble_eq_true rfl, Nat.le_of_ble_eq_true rfl⟩ dX4_fits_168 (fun _ => ?_)
                  refine a_aload_n (pc := 171) X 1 dX4_fits_171 rfl rfl ?_
                  refine a_getR (pc := 172) X 0 3 3 fl_RX4_20 rfl rfl rfl rfl rfl dX4_fits_172 ?_
                  refine a_iload_n (pc := 175) X 3 dX4_fits_175 rfl rfl ?_
                  obtain ⟨y17, e_y17, h⟩ := x_lt_elim h
                  refine a_callV (pc := 176) (st2 := [.int y17, .int y16]) (vs2 := [v0, v1]) X [(0, 3, 2)] [none] 0 3 3 [.int x1] [.int y16] cv_RX4_102 (ct_get (ad0 := (fun i => ad0 (i + 3))) (by decide) e_y17) rfl rfl rfl rfl rfl rfl rfl rfl rfl rfl rfl rfl rfl rfl rfl (Nat.le_of_ble_eq_true rfl) ⟨Nat.le_of_ble_eq_true rfl, Nat.le_of_ble_eq_true rfl⟩ dX4_fits_176 (fun _ => ?_)
                  refine a_iload (pc := 179) X 0 dX4_fits_179 rfl ?_
                  obtain ⟨y18, e_y18, h⟩ := x_lt_elim h
                  refine a_callS (pc := 181) (st2 := [.int y18]) (vs2 := [v0, v1]) X [] [] [.int y16, .int y17, .int y1] [] cv_RX4_151 (c_X4_compares   e_y18) rfl rfl rfl rfl rfl rfl rfl rfl rfl rfl rfl (Nat.le_of_ble_eq_true rfl) ⟨Nat.le_of_ble_eq_true rfl, Nat.le_of_ble_eq_true rfl⟩ dX4_fits_181 (fun z_181 => ?_)
                  subst h
                  exact a_zret (pc := 184) X z_181 z_181 dX4_fits_184
                · have h := x_ifn c_18_27 h
                  refine a_tout (pc := 18) X 185 dX4_fits_18 (by have q0 := x_ne c_18_20; have q1 := x_ne c_18_21; have q2 := x_ne c_18_22; have q3 := x_ne c_18_23; have q4 := x_ne c_18_24; have q5 := x_ne c_18_25; have q6 := x_ne c_18_26; have q7 := x_ne c_18_27; have q0 : (y2 : Int32).toInt ≠ 20 := q0; have q1 : (y2 : Int32).toInt ≠ 21 := q1; have q2 : (y2 : Int32).toInt ≠ 22 := q2; have q3 : (y2 : Int32).toInt ≠ 23 := q3; have q4 : (y2 : Int32).toInt ≠ 24 := q4; have q5 : (y2 : Int32).toInt ≠ 25 := q5; have q6 : (y2 : Int32).toInt ≠ 26 := q6; have q7 : (y2 : Int32).toInt ≠ 27 := q7; omega) rfl ?_
                  refine a_iload_n (pc := 185) X 4 dX4_fits_185 rfl rfl ?_
                  refine a_aload_n (pc := 186) X 1 dX4_fits_186 rfl rfl ?_
                  refine a_getR (pc := 187) X 0 3 3 fl_RX4_20 rfl rfl rfl rfl rfl dX4_fits_187 ?_
                  refine a_iload_n (pc := 190) X 3 dX4_fits_190 rfl rfl ?_
                  obtain ⟨y19, e_y19, h⟩ := x_lt_elim h
                  refine a_callV (pc := 191) (st2 := [.int y19, .int x2]) (vs2 := [v0, v1]) X [(0, 3, 2)] [none] 0 3 3 [.int x1] [.int x2] cv_RX4_102 (ct_get (ad0 := (fun i => ad0 (i + 3))) (by decide) e_y19) rfl rfl rfl rfl rfl rfl rfl rfl rfl rfl rfl rfl rfl rfl rfl (Nat.le_of_ble_eq_true rfl) ⟨Nat.le_of_ble_eq_true rfl, Nat.le_of_ble_eq_true rfl⟩ dX4_fits_191 (fun _ => ?_)
                  refine a_iload (pc := 194) X 0 dX4_fits_194 rfl ?_
                  obtain ⟨y20, e_y20, h⟩ := x_lt_elim h
                  refine a_callS (pc := 196) (st2 := [.int y20]) (vs2 := [v0, v1]) X [] [] [.int x2, .int y19, .int y1] [] cv_RX4_151 (c_X4_compares   e_y20) rfl rfl rfl rfl rfl rfl rfl rfl rfl rfl rfl (Nat.le_of_ble_eq_true rfl) ⟨Nat.le_of_ble_eq_true rfl, Nat.le_of_ble_eq_true rfl⟩ dX4_fits_196 (fun z_196 => ?_)
                  subst h
                  exact a_zret (pc := 199) X z_196 z_196 dX4_fits_199
theorem dX4_fitting_0 : decode cX4_fitting 0 = .ok (.iconst 0, 1) := by decide +kernel
theorem dX4_fitting_1 : decode cX4_fitting 1 = .ok (.istore_n 3, 1) := by decide +kernel
theorem dX4_fitting_2 : decode cX4_fitting 2 = .ok (.iconst 0, 1) := by decide +kernel
theorem dX4_fitting_3 : decode cX4_fitting 3 = .ok (.istore 4, 2) := by decide +kernel
theorem dX4_fitting_5 : decode cX4_fitting 5 = .ok (.iload 4, 2) := by decide +kernel
theorem dX4_fitting_7 : decode cX4_fitting 7 = .ok (.aload_n 1, 1) := by decide +kernel
theorem dX4_fitting_8 : decode cX4_fitting 8 = .ok (.getfield 114, 3) := by decide +kernel
theorem dX4_fitting_11 : decode cX4_fitting 11 = .ok (.getfield 120, 3) := by decide +kernel
theorem dX4_fitting_14 : decode cX4_fitting 14 = .ok (.if_icmp .ge 27, 3) := by decide +kernel
theorem dX4_fitting_17 : decode cX4_fitting 17 = .ok (.aload_n 0, 1) := by decide +kernel
theorem dX4_fitting_18 : decode cX4_fitting 18 = .ok (.aload_n 1, 1) := by decide +kernel
theorem dX4_fitting_19 : decode cX4_fitting 19 = .ok (.iload_n 2, 1) := by decide +kernel
theorem dX4_fitting_20 : decode cX4_fitting 20 = .ok (.iload 4, 2) := by decide +kernel
theorem dX4_fitting_22 : decode cX4_fitting 22 = .ok (.invokevirtual 125, 3) := by decide +kernel
theorem dX4_fitting_25 : decode cX4_fitting 25 = .ok (.ifCond .eq 10, 3) := by decide +kernel
theorem dX4_fitting_28 : decode cX4_fitting 28 = .ok (.iload_n 3, 1) := by decide +kernel
theorem dX4_fitting_29 : decode cX4_fitting 29 = .ok (.iconst 1, 1) := by decide +kernel
theorem dX4_fitting_30 : decode cX4_fitting 30 = .ok (.iload 4, 2) := by decide +kernel
theorem dX4_fitting_32 : decode cX4_fitting 32 = .ok (.ishl, 1) := by decide +kernel
theorem dX4_fitting_33 : decode cX4_fitting 33 = .ok (.ior, 1) := by decide +kernel
theorem dX4_fitting_34 : decode cX4_fitting 34 = .ok (.istore_n 3, 1) := by decide +kernel
theorem dX4_fitting_35 : decode cX4_fitting 35 = .ok (.iinc 4 1, 3) := by decide +kernel
theorem dX4_fitting_38 : decode cX4_fitting 38 = .ok (.goto (-33), 3) := by decide +kernel
theorem dX4_fitting_41 : decode cX4_fitting 41 = .ok (.iload_n 3, 1) := by decide +kernel
theorem dX4_fitting_42 : decode cX4_fitting 42 = .ok (.ireturn, 1) := by decide +kernel
def f_X4_fitting_35 (v0 : XM) (v1 : XM) (k5 : Int32 → Int32 → Int32 → Option (Int32)) (l2 : Int32) (l3 : Int32) (l4 : Int32) : Option (Int32) :=
  k5 l2 l3 (l4 + 1)
def f_X4_fitting_5 (v0 : XM) (v1 : XM) (k5 : Int32 → Int32 → Int32 → Option (Int32)) (l2 : Int32) (l3 : Int32) (l4 : Int32) : Option (Int32) :=
  if ((v1.1 1 3) : Int32) ≤ l4 then
  (some (l3 : Int32))
  else (x_lt (f_X4_fits v0 v1 l2 l4) (fun y1 =>
  if y1 = (0 : Int32) then
  (f_X4_fitting_35 v0 v1 k5 l2 l3 l4)
  else (x_lt (l3 ||| ((1 : Int32) <<< (l4 &&& 31))) (fun y2 =>
  f_X4_fitting_35 v0 v1 k5 l2 y2 l4))))
def f_X4_fitting (v0 : XM) (v1 : XM) (x1 : Int32) : Option (Int32) :=
  x_lp (φ := Int32 → Int32 → Int32 → Option (Int32)) (fun _ _ _ => none) (f_X4_fitting_5 v0 v1 ) x_NN x1 (0 : Int32) (0 : Int32)
set_option maxRecDepth 100000 in
set_option maxHeartbeats 4000000 in
theorem w_X4_fitting_35 {p : Program} {l : Launch} {e : Env} {s : State} {m : MethodId} {args : Array Value} {below : List Frame} {meth : Method} {c : Code} {D : va_G} {tc : Nat → ClassId} {aK aV : Nat → Nat} {A : Nat → Prop} {ad0 : Nat → Nat} {ad1 : Nat → Nat} {v0 : XM} {v1 : XM} (X : Cx p s m args meth c cX4_fitting 5 (some .int) RX4 D tc aK aV A [(shSentence, ad0), (shWorld, ad1)])  {o : Int32} {k5 : Int32 → Int32 → Int32 → Option (Int32)} (hk5 : ∀ (l2 : Int32) (l3 : Int32) (l4 : Int32), k5 l2 l3 l4 = some o → aW p l e (x_Rm 4) s m args below meth c D tc A 5 [(shSentence, ad0), (shWorld, ad1)] (some (.int o)) True [v0, v1] 5 [(0, .ref (ad0 0)), (1, .ref (ad1 0)), (2, .int l2), (3, .int l3), (4, .int l4)] [] [v0, v1]) {l2 : Int32} {l3 : Int32} {l4 : Int32}  (h : f_X4_fitting_35 v0 v1 k5 l2 l3 l4 = some o) : aW p l e (x_Rm 4) s m args below meth c D tc A 5 [(shSentence, ad0), (shWorld, ad1)] (some (.int o)) True [v0, v1] 35 [(0, .ref (ad0 0)), (1, .ref (ad1 0)), (2, .int l2), (3, .int l3), (4, .int l4)] [] [v0, v1] := by
  unfold f_X4_fitting_35 at h
  refine a_iinc (pc := 35) X 4 [(4, .int (l4 + 1)), (0, .ref (ad0 0)), (1, .ref (ad1 0)), (2, .int l2), (3, .int l3)] dX4_fitting_35 rfl (congrArg (HAdd.hAdd l4) q_ic_1) (by decide) rfl ?_
  refine a_goto (pc := 38) X 5 dX4_fitting_38 rfl ?_
  refine a_sub [1, 2, 3, 4, 0] rfl ?_
  exact hk5 _ _ _ h
set_option maxRecDepth 100000 in
set_option maxHeartbeats 4000000 in
theorem w_X4_fitting_5 {p : Program} {l : Launch} {e : Env} {s : State} {m : MethodId} {args : Array Value} {below : List Frame} {meth : Method} {c : Code} {D : va_G} {tc : Nat → ClassId} {aK aV : Nat → Nat} {A : Nat → Prop} {ad0 : Nat → Nat} {ad1 : Nat → Nat} {v0 : XM} {v1 : XM} (X : Cx p s m args meth c cX4_fitting 5 (some .int) RX4 D tc aK aV A [(shSentence, ad0), (shWorld, ad1)])  {o : Int32}  : ∀ (n : Nat), ∀ (l2 : Int32) (l3 : Int32) (l4 : Int32), x_lp (φ := Int32 → Int32 → Int32 → Option (Int32)) (fun _ _ _ => none) (f_X4_fitting_5 v0 v1 ) n l2 l3 l4 = some o → aW p l e (x_Rm 4) s m args below meth c D tc A 5 [(shSentence, ad0), (shWorld, ad1)] (some (.int o)) True [v0, v1] 5 [(0, .ref (ad0 0)), (1, .ref (ad1 0)), (2, .int l2), (3, .int l3), (4, .int l4)] [] [v0, v1] := by
  intro n
  induction n with
  | zero => intro l2 l3 l4 h; exact absurd h (fun q => by cases q)
  | succ n ih =>
    intro l2 l3 l4 h
    have h : f_X4_fitting_5 v0 v1  (x_lp (φ := Int32 → Int32 → Int32 → Option (Int32)) (fun _ _ _ => none) (f_X4_fitting_5 v0 v1 ) n) l2 l3 l4 = some o := h
    generalize x_lp (φ := Int32 → Int32 → Int32 → Option (Int32)) (fun _ _ _ => none) (f_X4_fitting_5 v0 v1 ) n = k5 at h ih
    have hk5 := ih
    unfold f_X4_fitting_5 at h
    refine a_iload (pc := 5) X 4 dX4_fitting_5 rfl ?_
    refine a_aload_n (pc := 7) X 1 dX4_fitting_7 rfl rfl ?_
    refine a_getR (pc := 8) X 1 1 1 fl_RX4_114 rfl rfl rfl rfl rfl dX4_fitting_8 ?_
    refine a_getI (pc := 11) X 1 fl_RX4_120 rfl rfl rfl rfl dX4_fitting_11 ?_
    refine a_icmp_ge (pc := 14) X 41 dX4_fitting_14 rfl (fun c_14 => ?_) (fun c_14 => ?_)
    · have h := x_ifp c_14 h
      refine a_iload_n (pc := 41) X 3 dX4_fitting_41 rfl rfl ?_
      have h := Option.some.inj h; subst h
      exact a_iret (pc := 42) X trivial dX4_fitting_42
    · have h := x_ifn c_14 h
      refine a_aload_n (pc := 17) X 0 dX4_fitting_17 rfl rfl ?_
      refine a_aload_n (pc := 18) X 1 dX4_fitting_18 rfl rfl ?_
      refine a_iload_n (pc := 19) X 2 dX4_fitting_19 rfl rfl ?_
      refine a_iload (pc := 20) X 4 dX4_fitting_20 rfl ?_
      obtain ⟨y1, e_y1, h⟩ := x_lt_elim h
      refine a_callV (pc := 22) (st2 := [.int y1]) (vs2 := [v0, v1]) X [(0, 0, 9), (1, 0, 32)] [none, none] 0 0 4 [.ref (ad1 0), .int l2, .int l4] [] cv_RX4_125 (c_X4_fits (ad0 := ad0) (ad1 := ad1)  e_y1) rfl rfl rfl rfl rfl rfl rfl rfl rfl rfl rfl rfl rfl rfl rfl (Nat.le_of_ble_eq_true rfl) ⟨Nat.le_of_ble_eq_true rfl, Nat.le_of_ble_eq_true rfl⟩ dX4_fitting_22 (fun z_22 => ?_)
      refine a_if_eq (pc := 25) X 35 dX4_fitting_25 rfl (fun c_25 => ?_) (fun c_25 => ?_)
      · have h := x_ifp c_25 h
        exact w_X4_fitting_35 X   hk5  h
      · have h := x_ifn c_25 h
        refine a_iload_n (pc := 28) X 3 dX4_fitting_28 rfl rfl ?_
        refine a_iconst (pc := 29) X dX4_fitting_29 q_ic_1 ?_
        refine a_iload (pc := 30) X 4 dX4_fitting_30 rfl ?_
        refine a_ishl (pc := 32) X dX4_fitting_32 ?_
        refine a_ior (pc := 33) X dX4_fitting_33 ?_
        obtain ⟨y2, e_y2, h⟩ := x_lt_elim h
        refine a_ni e_y2 ?_
        refine a_istore_n (pc := 34) X [(3, .int y2), (0, .ref (ad0 0)), (1, .ref (ad1 0)), (2, .int l2), (4, .int l4)] dX4_fitting_34 rfl (by decide) rfl ?_
        refine a_sub [1, 2, 3, 0, 4] rfl ?_
        exact w_X4_fitting_35 X   hk5  h
set_option maxRecDepth 100000 in
set_option maxHeartbeats 4000000 in
theorem c_X4_fitting {l : Launch}  {ad0 : Nat → Nat} {ad1 : Nat → Nat} {v0 v1 : XM} {x1 : Int32}  {o : Int32} (h : f_X4_fitting v0 v1 x1 = some o) : CT l yX4_fitting cX4_fitting 5 (some .int) 4 [(shSentence, ad0), (shWorld, ad1)] [v0, v1] (fun aK => [.ref (ad0 0), .ref (ad1 0), .int x1]) (some (.int o)) True [v0, v1] := by
  refine CT_of (by decide) (fun _ => Nat.le_of_ble_eq_true rfl) ?_
  intro p e s m args below meth c D tc aK aV A X
  have X : Cx p s m args meth c cX4_fitting 5 (some .int) RX4 D tc aK aV A [(shSentence, ad0), (shWorld, ad1)] := X
  show aW p l e (x_Rm 4) s m args below meth c D tc A 5 [(shSentence, ad0), (shWorld, ad1)] (some (.int o)) True [v0, v1] 0 [(0, .ref (ad0 0)), (1, .ref (ad1 0)), (2, .int x1)] [] [v0, v1]
  unfold f_X4_fitting at h
  refine a_iconst (pc := 0) X dX4_fitting_0 q_ic_0 ?_
  refine a_istore_n (pc := 1) X [(3, .int (0 : Int32)), (0, .ref (ad0 0)), (1, .ref (ad1 0)), (2, .int x1)] dX4_fitting_1 rfl (by decide) rfl ?_
  refine a_iconst (pc := 2) X dX4_fitting_2 q_ic_0 ?_
  refine a_istore (pc := 3) X [(4, .int (0 : Int32)), (3, .int (0 : Int32)), (0, .ref (ad0 0)), (1, .ref (ad1 0)), (2, .int x1)] dX4_fitting_3 (by decide) rfl ?_
  refine a_sub [2, 3, 4, 1, 0] rfl ?_
  exact w_X4_fitting_5 X    x_NN _ _ _ h
theorem dX4_those_0 : decode cX4_those 0 = .ok (.iconst 0, 1) := by decide +kernel
theorem dX4_those_1 : decode cX4_those 1 = .ok (.istore_n 3, 1) := by decide +kernel
theorem dX4_those_2 : decode cX4_those 2 = .ok (.iconst 0, 1) := by decide +kernel
theorem dX4_those_3 : decode cX4_those 3 = .ok (.istore 4, 2) := by decide +kernel
theorem dX4_those_5 : decode cX4_those 5 = .ok (.iload 4, 2) := by decide +kernel
theorem dX4_those_7 : decode cX4_those 7 = .ok (.aload_n 0, 1) := by decide +kernel
theorem dX4_those_8 : decode cX4_those 8 = .ok (.getfield 33, 3) := by decide +kernel
theorem dX4_those_11 : decode cX4_those 11 = .ok (.if_icmp .ge 165, 3) := by decide +kernel
theorem dX4_those_14 : decode cX4_those 14 = .ok (.aload_n 0, 1) := by decide +kernel
theorem dX4_those_15 : decode cX4_those 15 = .ok (.getfield 16, 3) := by decide +kernel
theorem dX4_those_18 : decode cX4_those 18 = .ok (.iload 4, 2) := by decide +kernel
theorem dX4_those_20 : decode cX4_those 20 = .ok (.invokevirtual 102, 3) := by decide +kernel
theorem dX4_those_23 : decode cX4_those 23 = .ok (.istore 5, 2) := by decide +kernel
theorem dX4_those_25 : decode cX4_those 25 = .ok (.iload 5, 2) := by decide +kernel
theorem dX4_those_27 : decode cX4_those 27 = .ok (.bipush 19, 2) := by decide +kernel
theorem dX4_those_29 : decode cX4_those 29 = .ok (.if_icmp .ne 28, 3) := by decide +kernel
theorem dX4_those_32 : decode cX4_those 32 = .ok (.aload_n 0, 1) := by decide +kernel
theorem dX4_those_33 : decode cX4_those 33 = .ok (.getfield 26, 3) := by decide +kernel
theorem dX4_those_36 : decode cX4_those 36 = .ok (.iload_n 3, 1) := by decide +kernel
theorem dX4_those_37 : decode cX4_those 37 = .ok (.iconst 1, 1) := by decide +kernel
theorem dX4_those_38 : decode cX4_those 38 = .ok (.isub, 1) := by decide +kernel
theorem dX4_those_39 : decode cX4_those 39 = .ok (.aload_n 0, 1) := by decide +kernel
theorem dX4_those_40 : decode cX4_those 40 = .ok (.getfield 26, 3) := by decide +kernel
theorem dX4_those_43 : decode cX4_those 43 = .ok (.iload_n 3, 1) := by decide +kernel
theorem dX4_those_44 : decode cX4_those 44 = .ok (.iconst 1, 1) := by decide +kernel
theorem dX4_those_45 : decode cX4_those 45 = .ok (.isub, 1) := by decide +kernel
theorem dX4_those_46 : decode cX4_those 46 = .ok (.invokevirtual 102, 3) := by decide +kernel
theorem dX4_those_49 : decode cX4_those 49 = .ok (.iconst (-1), 1) := by decide +kernel
theorem dX4_those_50 : decode cX4_those 50 = .ok (.ixor, 1) := by decide +kernel
theorem dX4_those_51 : decode cX4_those 51 = .ok (.invokevirtual 98, 3) := by decide +kernel
theorem dX4_those_54 : decode cX4_those 54 = .ok (.goto 116, 3) := by decide +kernel
theorem dX4_those_57 : decode cX4_those 57 = .ok (.iload 5, 2) := by decide +kernel
theorem dX4_those_59 : decode cX4_those 59 = .ok (.bipush 18, 2) := by decide +kernel
theorem dX4_those_61 : decode cX4_those 61 = .ok (.if_icmp .ne 38, 3) := by decide +kernel
theorem dX4_those_64 : decode cX4_those 64 = .ok (.iinc 3 (-1), 3) := by decide +kernel
theorem dX4_those_67 : decode cX4_those 67 = .ok (.aload_n 0, 1) := by decide +kernel
theorem dX4_those_68 : decode cX4_those 68 = .ok (.getfield 26, 3) := by decide +kernel
theorem dX4_those_71 : decode cX4_those 71 = .ok (.iload_n 3, 1) := by decide +kernel
theorem dX4_those_72 : decode cX4_those 72 = .ok (.iconst 1, 1) := by decide +kernel
theorem dX4_those_73 : decode cX4_those 73 = .ok (.isub, 1) := by decide +kernel
theorem dX4_those_74 : decode cX4_those 74 = .ok (.aload_n 0, 1) := by decide +kernel
theorem dX4_those_75 : decode cX4_those 75 = .ok (.getfield 26, 3) := by decide +kernel
theorem dX4_those_78 : decode cX4_those 78 = .ok (.iload_n 3, 1) := by decide +kernel
theorem dX4_those_79 : decode cX4_those 79 = .ok (.iconst 1, 1) := by decide +kernel
theorem dX4_those_80 : decode cX4_those 80 = .ok (.isub, 1) := by decide +kernel
theorem dX4_those_81 : decode cX4_those 81 = .ok (.invokevirtual 102, 3) := by decide +kernel
theorem dX4_those_84 : decode cX4_those 84 = .ok (.aload_n 0, 1) := by decide +kernel
theorem dX4_those_85 : decode cX4_those 85 = .ok (.getfield 26, 3) := by decide +kernel
theorem dX4_those_88 : decode cX4_those 88 = .ok (.iload_n 3, 1) := by decide +kernel
theorem dX4_those_89 : decode cX4_those 89 = .ok (.invokevirtual 102, 3) := by decide +kernel
theorem dX4_those_92 : decode cX4_those 92 = .ok (.iand, 1) := by decide +kernel
theorem dX4_those_93 : decode cX4_those 93 = .ok (.invokevirtual 98, 3) := by decide +kernel
theorem dX4_those_96 : decode cX4_those 96 = .ok (.goto 74, 3) := by decide +kernel
theorem dX4_those_99 : decode cX4_those 99 = .ok (.iload 5, 2) := by decide +kernel
theorem dX4_those_101 : decode cX4_those 101 = .ok (.bipush 17, 2) := by decide +kernel
theorem dX4_those_103 : decode cX4_those 103 = .ok (.if_icmp .ne 38, 3) := by decide +kernel
theorem dX4_those_106 : decode cX4_those 106 = .ok (.iinc 3 (-1), 3) := by decide +kernel
theorem dX4_those_109 : decode cX4_those 109 = .ok (.aload_n 0, 1) := by decide +kernel
theorem dX4_those_110 : decode cX4_those 110 = .ok (.getfield 26, 3) := by decide +kernel
theorem dX4_those_113 : decode cX4_those 113 = .ok (.iload_n 3, 1) := by decide +kernel
theorem dX4_those_114 : decode cX4_those 114 = .ok (.iconst 1, 1) := by decide +kernel
theorem dX4_those_115 : decode cX4_those 115 = .ok (.isub, 1) := by decide +kernel
theorem dX4_those_116 : decode cX4_those 116 = .ok (.aload_n 0, 1) := by decide +kernel
theorem dX4_those_117 : decode cX4_those 117 = .ok (.getfield 26, 3) := by decide +kernel
theorem dX4_those_120 : decode cX4_those 120 = .ok (.iload_n 3, 1) := by decide +kernel
theorem dX4_those_121 : decode cX4_those 121 = .ok (.iconst 1, 1) := by decide +kernel
theorem dX4_those_122 : decode cX4_those 122 = .ok (.isub, 1) := by decide +kernel
theorem dX4_those_123 : decode cX4_those 123 = .ok (.invokevirtual 102, 3) := by decide +kernel
theorem dX4_those_126 : decode cX4_those 126 = .ok (.aload_n 0, 1) := by decide +kernel
theorem dX4_those_127 : decode cX4_those 127 = .ok (.getfield 26, 3) := by decide +kernel
theorem dX4_those_130 : decode cX4_those 130 = .ok (.iload_n 3, 1) := by decide +kernel
theorem dX4_those_131 : decode cX4_those 131 = .ok (.invokevirtual 102, 3) := by decide +kernel
theorem dX4_those_134 : decode cX4_those 134 = .ok (.ior, 1) := by decide +kernel
theorem dX4_those_135 : decode cX4_those 135 = .ok (.invokevirtual 98, 3) := by decide +kernel
theorem dX4_those_138 : decode cX4_those 138 = .ok (.goto 32, 3) := by decide +kernel
theorem dX4_those_141 : decode cX4_those 141 = .ok (.aload_n 0, 1) := by decide +kernel
theorem dX4_those_142 : decode cX4_those 142 = .ok (.getfield 26, 3) := by decide +kernel
theorem dX4_those_145 : decode cX4_those 145 = .ok (.iload_n 3, 1) := by decide +kernel
theorem dX4_those_146 : decode cX4_those 146 = .ok (.iload 5, 2) := by decide +kernel
theorem dX4_those_148 : decode cX4_those 148 = .ok (.bipush 22, 2) := by decide +kernel
theorem dX4_those_150 : decode cX4_those 150 = .ok (.if_icmp .ne 7, 3) := by decide +kernel
theorem dX4_those_153 : decode cX4_those 153 = .ok (.iload_n 2, 1) := by decide +kernel
theorem dX4_those_154 : decode cX4_those 154 = .ok (.goto 10, 3) := by decide +kernel
theorem dX4_those_157 : decode cX4_those 157 = .ok (.aload_n 0, 1) := by decide +kernel
theorem dX4_those_158 : decode cX4_those 158 = .ok (.aload_n 1, 1) := by decide +kernel
theorem dX4_those_159 : decode cX4_those 159 = .ok (.iload 4, 2) := by decide +kernel
theorem dX4_those_161 : decode cX4_those 161 = .ok (.invokevirtual 110, 3) := by decide +kernel
theorem dX4_those_164 : decode cX4_those 164 = .ok (.invokevirtual 98, 3) := by decide +kernel
theorem dX4_those_167 : decode cX4_those 167 = .ok (.iinc 3 1, 3) := by decide +kernel
theorem dX4_those_170 : decode cX4_those 170 = .ok (.iinc 4 1, 3) := by decide +kernel
theorem dX4_those_173 : decode cX4_those 173 = .ok (.goto (-168), 3) := by decide +kernel
theorem dX4_those_176 : decode cX4_those 176 = .ok (.aload_n 0, 1) := by decide +kernel
theorem dX4_those_177 : decode cX4_those 177 = .ok (.getfield 26, 3) := by decide +kernel
theorem dX4_those_180 : decode cX4_those 180 = .ok (.iconst 0, 1) := by decide +kernel
theorem dX4_those_181 : decode cX4_those 181 = .ok (.invokevirtual 102, 3) := by decide +kernel
theorem dX4_those_184 : decode cX4_those 184 = .ok (.iconst 1, 1) := by decide +kernel
theorem dX4_those_185 : decode cX4_those 185 = .ok (.aload_n 1, 1) := by decide +kernel
theorem dX4_those_186 : decode cX4_those 186 = .ok (.getfield 114, 3) := by decide +kernel
theorem dX4_those_189 : decode cX4_those 189 = .ok (.getfield 120, 3) := by decide +kernel
theorem dX4_those_192 : decode cX4_those 192 = .ok (.ishl, 1) := by decide +kernel
theorem dX4_those_193 : decode cX4_those 193 = .ok (.iconst 1, 1) := by decide +kernel
theorem dX4_those_194 : decode cX4_those 194 = .ok (.isub, 1) := by decide +kernel
theorem dX4_those_195 : decode cX4_those 195 = .ok (.iand, 1) := by decide +kernel
theorem dX4_those_196 : decode cX4_those 196 = .ok (.ireturn, 1) := by decide +kernel
def f_X4_those_170 (v1 : XM) (k5 : XM → Int32 → Int32 → Int32 → Option (Int32 × XM)) (w0 : XM) (l2 : Int32) (l3 : Int32) (l4 : Int32) : Option (Int32 × XM) :=
  k5 w0 l2 l3 (l4 + 1)
def f_X4_those_164 (v1 : XM) (k5 : XM → Int32 → Int32 → Int32 → Option (Int32 × XM)) (w0 : XM) (l2 : Int32) (l3 : Int32) (l4 : Int32) (s1 : Int32) (s2 : Int32) : Option (Int32 × XM) :=
  x_lt (r_put 40 (x_sub w0 7) s1 s2) (fun y1 =>
  x_lt (x_put w0 7 2 y1) (fun m2 =>
  f_X4_those_170 v1 k5 m2 l2 (l3 + 1) l4))
def f_X4_those_5 (v1 : XM) (k5 : XM → Int32 → Int32 → Int32 → Option (Int32 × XM)) (w0 : XM) (l2 : Int32) (l3 : Int32) (l4 : Int32) : Option (Int32 × XM) :=
  if ((w0.1 0 1) : Int32) ≤ l4 then
  (x_lt (r_get 40 (x_sub w0 7) (0 : Int32)) (fun y3 =>
  x_lt (((1 : Int32) <<< ((v1.1 1 3) &&& 31)) - (1 : Int32)) (fun y4 =>
  some (y3 &&& y4, w0))))
  else (x_lt (r_get 40 (x_sub w0 1) l4) (fun y5 =>
  if (y5 : Int32) = (19 : Int32) then
  (x_lt (r_get 40 (x_sub w0 7) (l3 - (1 : Int32))) (fun y15 =>
  x_lt (r_put 40 (x_sub w0 7) (l3 - (1 : Int32)) (y15 ^^^ (-1 : Int32))) (fun y16 =>
  x_lt (x_put w0 7 2 y16) (fun m17 =>
  f_X4_those_170 v1 k5 m17 l2 l3 l4))))
  else (if (y5 : Int32) = (18 : Int32) then
  (x_lt (r_get 40 (x_sub w0 7) ((l3 + (-1)) - (1 : Int32))) (fun y11 =>
  x_lt (r_get 40 (x_sub w0 7) (l3 + (-1))) (fun y12 =>
  x_lt (r_put 40 (x_sub w0 7) ((l3 + (-1)) - (1 : Int32)) (y11 &&& y12)) (fun y13 =>
  x_lt (x_put w0 7 2 y13) (fun m14 =>
  f_X4_those_170 v1 k5 m14 l2 (l3 + (-1)) l4)))))
  else (if (y5 : Int32) = (17 : Int32) then
  (x_lt (r_get 40 (x_sub w0 7) ((l3 + (-1)) - (1 : Int32))) (fun y7 =>
  x_lt (r_get 40 (x_sub w0 7) (l3 + (-1))) (fun y8 =>
  x_lt (r_put 40 (x_sub w0 7) ((l3 + (-1)) - (1 : Int32)) (y7 ||| y8)) (fun y9 =>
  x_lt (x_put w0 7 2 y9) (fun m10 =>
  f_X4_those_170 v1 k5 m10 l2 (l3 + (-1)) l4)))))
  else (if (y5 : Int32) = (22 : Int32) then
  (f_X4_those_164 v1 k5 w0 l2 l3 l4 l3 l2)
  else (x_bo (f_X4_fitting w0 v1 l4) (fun y6 =>
  f_X4_those_164 v1 k5 w0 l2 l3 l4 l3 y6)))))))
def f_X4_those (v0 : XM) (v1 : XM) (x1 : Int32) : Option (Int32 × XM) :=
  x_lp (φ := XM → Int32 → Int32 → Int32 → Option (Int32 × XM)) (fun _ _ _ _ => none) (f_X4_those_5 v1 ) x_NN v0 x1 (0 : Int32) (0 : Int32)
set_option maxRecDepth 100000 in
set_option maxHeartbeats 4000000 in
theorem w_X4_those_170 {p : Program} {l : Launch} {e : Env} {s : State} {m : MethodId} {args : Array Value} {below : List Frame} {meth : Method} {c : Code} {D : va_G} {tc : Nat → ClassId} {aK aV : Nat → Nat} {A : Nat → Prop} {ad0 : Nat → Nat} {ad1 : Nat → Nat} {v1 : XM} (X : Cx p s m args meth c cX4_those 6 (some .int) RX4 D tc aK aV A [(shSentence, ad0), (shWorld, ad1)])  {o : Int32 × XM} {k5 : XM → Int32 → Int32 → Int32 → Option (Int32 × XM)} (hk5 : ∀ (w0 : XM) (l2 : Int32) (l3 : Int32) (l4 : Int32), k5 w0 l2 l3 l4 = some o → aW p l e (x_Rm 5) s m args below meth c D tc A 6 [(shSentence, ad0), (shWorld, ad1)] (some (.int o.1)) True [o.2, v1] 5 [(0, .ref (ad0 0)), (1, .ref (ad1 0)), (2, .int l2), (3, .int l3), (4, .int l4)] [] [w0, v1]) {w0 : XM} {l2 : Int32} {l3 : Int32} {l4 : Int32}  (h : f_X4_those_170 v1 k5 w0 l2 l3 l4 = some o) : aW p l e (x_Rm 5) s m args below meth c D tc A 6 [(shSentence, ad0), (shWorld, ad1)] (some (.int o.1)) True [o.2, v1] 170 [(0, .ref (ad0 0)), (1, .ref (ad1 0)), (2, .int l2), (3, .int l3), (4, .int l4)] [] [w0, v1] := by
  unfold f_X4_those_170 at h
  refine a_iinc (pc := 170) X 4 [(4, .int (l4 + 1)), (0, .ref (ad0 0)), (1, .ref (ad1 0)), (2, .int l2), (3, .int l3)] dX4_those_170 rfl (congrArg (HAdd.hAdd l4) q_ic_1) (by decide) rfl ?_
  refine a_goto (pc := 173) X 5 dX4_those_173 rfl ?_
  refine a_sub [1, 2, 3, 4, 0] rfl ?_
  exact hk5 _ _ _ _ h
set_option maxRecDepth 100000 in
set_option maxHeartbeats 4000000 in
theorem w_X4_those_164 {p : Program} {l : Launch} {e : Env} {s : State} {m : MethodId} {args : Array Value} {below : List Frame} {meth : Method} {c : Code} {D : va_G} {tc : Nat → ClassId} {aK aV : Nat → Nat} {A : Nat → Prop} {ad0 : Nat → Nat} {ad1 : Nat → Nat} {v1 : XM} (X : Cx p s m args meth c cX4_those 6 (some .int) RX4 D tc aK aV A [(shSentence, ad0), (shWorld, ad1)])  {o : Int32 × XM} {k5 : XM → Int32 → Int32 → Int32 → Option (Int32 × XM)} (hk5 : ∀ (w0 : XM) (l2 : Int32) (l3 : Int32) (l4 : Int32), k5 w0 l2 l3 l4 = some o → aW p l e (x_Rm 5) s m args below meth c D tc A 6 [(shSentence, ad0), (shWorld, ad1)] (some (.int o.1)) True [o.2, v1] 5 [(0, .ref (ad0 0)), (1, .ref (ad1 0)), (2, .int l2), (3, .int l3), (4, .int l4)] [] [w0, v1]) {w0 : XM} {l2 : Int32} {l3 : Int32} {l4 : Int32} {s1 : Int32} {s2 : Int32}  (h : f_X4_those_164 v1 k5 w0 l2 l3 l4 s1 s2 = some o) : aW p l e (x_Rm 5) s m args below meth c D tc A 6 [(shSentence, ad0), (shWorld, ad1)] (some (.int o.1)) True [o.2, v1] 164 [(0, .ref (ad0 0)), (1, .ref (ad1 0)), (2, .int l2), (3, .int l3), (4, .int l4)] [.int s2, .int s1, .ref (ad0 7)] [w0, v1] := by
  unfold f_X4_those_164 at h
  obtain ⟨y1, e_y1, h⟩ := x_lt_elim h
  refine a_callV (pc := 164) (st2 := []) (vs2 := [x_put w0 7 2 y1, v1]) X [(0, 7, 2)] [some y1] 0 7 3 [.int s1, .int s2] [] cv_RX4_98 (ct_put (ad0 := (fun i => ad0 (i + 7))) (by decide) e_y1) rfl rfl rfl rfl rfl rfl rfl rfl rfl rfl rfl rfl rfl rfl rfl (Nat.le_of_ble_eq_true rfl) ⟨Nat.le_of_ble_eq_true rfl, Nat.le_of_ble_eq_true rfl⟩ dX4_those_164 (fun _ => ?_)
  obtain ⟨m2, e_m2, h⟩ := x_lt_elim h
  refine a_nm (vs2 := [m2, v1]) (congrArg (fun q : XM => [q, v1]) e_m2) ?_
  refine a_iinc (pc := 167) X 3 [(3, .int (l3 + 1)), (0, .ref (ad0 0)), (1, .ref (ad1 0)), (2, .int l2), (4, .int l4)] dX4_those_167 rfl (congrArg (HAdd.hAdd l3) q_ic_1) (by decide) rfl ?_
  refine a_sub [1, 2, 3, 0, 4] rfl ?_
  exact w_X4_those_170 X   hk5  h
set_option maxRecDepth 100000 in
set_option maxHeartbeats 4000000 in
theorem w_X4_those_5 {p : Program} {l : Launch} {e : Env} {s : State} {m : MethodId} {args : Array Value} {below : List Frame} {meth : Method} {c : Code} {D : va_G} {tc : Nat → ClassId} {aK aV : Nat → Nat} {A : Nat → Prop} {ad0 : Nat → Nat} {ad1 : Nat → Nat} {v1 : XM} (X : Cx p s m args meth c cX4_those 6 (some .int) RX4 D tc aK aV A [(shSentence, ad0), (shWorld, ad1)])  {o : Int32 × XM}  : ∀ (n : Nat), ∀ (w0 : XM) (l2 : Int32) (l3 : Int32) (l4 : Int32), x_lp (φ := XM → Int32 → Int32 → Int32 → Option (Int32 × XM)) (fun _ _ _ _ => none) (f_X4_those_5 v1 ) n w0 l2 l3 l4 = some o → aW p l e (x_Rm 5) s m args below meth c D tc A 6 [(shSentence, ad0), (shWorld, ad1)] (some (.int o.1)) True [o.2, v1] 5 [(0, .ref (ad0 0)), (1, .ref (ad1 0)), (2, .int l2), (3, .int l3), (4, .int l4)] [] [w0, v1] := by
  intro n
  induction n with
  | zero => intro w0 l2 l3 l4 h; exact absurd h (fun q => by cases q)
  | succ n ih =>
    intro w0 l2 l3 l4 h
    have h : f_X4_those_5 v1  (x_lp (φ := XM → Int32 → Int32 → Int32 → Option (Int32 × XM)) (fun _ _ _ _ => none) (f_X4_those_5 v1 ) n) w0 l2 l3 l4 = some o := h
    generalize x_lp (φ := XM → Int32 → Int32 → Int32 → Option (Int32 × XM)) (fun _ _ _ _ => none) (f_X4_those_5 v1 ) n = k5 at h ih
    have hk5 := ih
    unfold f_X4_those_5 at h
    refine a_iload (pc := 5) X 4 dX4_those_5 rfl ?_
    refine a_aload_n (pc := 7) X 0 dX4_those_7 rfl rfl ?_
    refine a_getI (pc := 8) X 0 fl_RX4_33 rfl rfl rfl rfl dX4_those_8 ?_
    refine a_icmp_ge (pc := 11) X 176 dX4_those_11 rfl (fun c_11 => ?_) (fun c_11 => ?_)
    · have h := x_ifp c_11 h
      refine a_aload_n (pc := 176) X 0 dX4_those_176 rfl rfl ?_
      refine a_getR (pc := 177) X 0 7 7 fl_RX4_26 rfl rfl rfl rfl rfl dX4_those_177 ?_
      refine a_iconst (pc := 180) X dX4_those_180 q_ic_0 ?_
      obtain ⟨y3, e_y3, h⟩ := x_lt_elim h
      refine a_callV (pc := 181) (st2 := [.int y3]) (vs2 := [w0, v1]) X [(0, 7, 2)] [none] 0 7 3 [.int (0 : Int32)] [] cv_RX4_102 (ct_get (ad0 := (fun i => ad0 (i + 7))) (by decide) e_y3) rfl rfl rfl rfl rfl rfl rfl rfl rfl rfl rfl rfl rfl rfl rfl (Nat.le_of_ble_eq_true rfl) ⟨Nat.le_of_ble_eq_true rfl, Nat.le_of_ble_eq_true rfl⟩ dX4_those_181 (fun _ => ?_)
      refine a_iconst (pc := 184) X dX4_those_184 q_ic_1 ?_
      refine a_aload_n (pc := 185) X 1 dX4_those_185 rfl rfl ?_
      refine a_getR (pc := 186) X 1 1 1 fl_RX4_114 rfl rfl rfl rfl rfl dX4_those_186 ?_
      refine a_getI (pc := 189) X 1 fl_RX4_120 rfl rfl rfl rfl dX4_those_189 ?_
      refine a_ishl (pc := 192) X dX4_those_192 ?_
      refine a_iconst (pc := 193) X dX4_those_193 q_ic_1 ?_
      refine a_isub (pc := 194) X dX4_those_194 ?_
      obtain ⟨y4, e_y4, h⟩ := x_lt_elim h
      refine a_ni e_y4 ?_
      refine a_iand (pc := 195) X dX4_those_195 ?_
      have h := Option.some.inj h; subst h
      exact a_iret (pc := 196) X trivial dX4_those_196
    · have h := x_ifn c_11 h
      refine a_aload_n (pc := 14) X 0 dX4_those_14 rfl rfl ?_
      refine a_getR (pc := 15) X 0 1 1 fl_RX4_16 rfl rfl rfl rfl rfl dX4_those_15 ?_
      refine a_iload (pc := 18) X 4 dX4_those_18 rfl ?_
      obtain ⟨y5, e_y5, h⟩ := x_lt_elim h
      refine a_callV (pc := 20) (st2 := [.int y5]) (vs2 := [w0, v1]) X [(0, 1, 2)] [none] 0 1 3 [.int l4] [] cv_RX4_102 (ct_get (ad0 := (fun i => ad0 (i + 1))) (by decide) e_y5) rfl rfl rfl rfl rfl rfl rfl rfl rfl rfl rfl rfl rfl rfl rfl (Nat.le_of_ble_eq_true rfl) ⟨Nat.le_of_ble_eq_true rfl, Nat.le_of_ble_eq_true rfl⟩ dX4_those_20 (fun _ => ?_)
      refine a_istore (pc := 23) X [(5, .int y5), (0, .ref (ad0 0)), (1, .ref (ad1 0)), (2, .int l2), (3, .int l3), (4, .int l4)] dX4_those_23 (by decide) rfl ?_
      refine a_iload (pc := 25) X 0 dX4_those_25 rfl ?_
      refine a_bipush (pc := 27) X dX4_those_27 q_bp_19 ?_
      refine a_icmp_ne (pc := 29) X 57 dX4_those_29 rfl (fun c_29 => ?_) (fun c_29 => ?_)
      · have h := x_ifn c_29 h
        refine a_iload (pc := 57) X 0 dX4_those_57 rfl ?_
        refine a_bipush (pc := 59) X dX4_those_59 q_bp_18 ?_
        refine a_icmp_ne (pc := 61) X 99 dX4_those_61 rfl (fun c_61 => ?_) (fun c_61 => ?_)
        · have h := x_ifn c_61 h
          refine a_iload (pc := 99) X 0 dX4_those_99 rfl ?_
          refine a_bipush (pc := 101) X dX4_those_101 q_bp_17 ?_
          refine a_icmp_ne (pc := 103) X 141 dX4_those_103 rfl (fun c_103 => ?_) (fun c_103 => ?_)
          · have h := x_ifn c_103 h
            refine a_aload_n (pc := 141) X 1 dX4_those_141 rfl rfl ?_
            refine a_getR (pc := 142) X 0 7 7 fl_RX4_26 rfl rfl rfl rfl rfl dX4_those_142 ?_
            refine a_iload_n (pc := 145) X 4 dX4_those_145 rfl rfl ?_
            refine a_iload (pc := 146) X 0 dX4_those_146 rfl ?_
            refine a_bipush (pc := 148) X dX4_those_148 q_bp_22 ?_
            refine a_icmp_ne (pc := 150) X 157 dX4_those_150 rfl (fun c_150 => ?_) (fun c_150 => ?_)
            · have h := x_ifn c_150 h
              refine a_aload_n (pc := 157) X 1 dX4_those_157 rfl rfl ?_
              refine a_aload_n (pc := 158) X 2 dX4_those_158 rfl rfl ?_
              refine a_iload (pc := 159) X 5 dX4_those_159 rfl ?_
              obtain ⟨y6, e_y6, h⟩ := x_bo_elim h
              refine a_callV (pc := 161) (st2 := [.int y6, .int l3, .ref (ad0 7)]) (vs2 := [w0, v1]) X [(0, 0, 9), (1, 0, 32)] [none, none] 0 0 4 [.ref (ad1 0), .int l4] [.int l3, .ref (ad0 7)] cv_RX4_110 (c_X4_fitting (ad0 := ad0) (ad1 := ad1)  e_y6) rfl rfl rfl rfl rfl rfl rfl rfl rfl rfl rfl rfl rfl rfl rfl (Nat.le_of_ble_eq_true rfl) ⟨Nat.le_of_ble_eq_true rfl, Nat.le_of_ble_eq_true rfl⟩ dX4_those_161 (fun _ => ?_)
              refine a_sub [1, 2, 3, 4, 5] rfl ?_
              exact w_X4_those_164 X   hk5  h
            · have h := x_ifp c_150 h
              refine a_iload_n (pc := 153) X 3 dX4_those_153 rfl rfl ?_
              refine a_goto (pc := 154) X 164 dX4_those_154 rfl ?_
              refine a_sub [1, 2, 3, 4, 5] rfl ?_
              exact w_X4_those_164 X   hk5  h
          · have h := x_ifp c_103 h
            refine a_iinc (pc := 106) X 4 [(3, .int (l3 + (-1))), (5, .int y5), (0, .ref (ad0 0)), (1, .ref (ad1 0)), (2, .int l2), (4, .int l4)] dX4_those_106 rfl (congrArg (HAdd.hAdd l3) q_ic_m1) (by decide) rfl ?_
            refine a_aload_n (pc := 109) X 2 dX4_those_109 rfl rfl ?_
            refine a_getR (pc := 110) X 0 7 7 fl_RX4_26 rfl rfl rfl rfl rfl dX4_those_110 ?_
            refine a_iload_n (pc := 113) X 0 dX4_those_113 rfl rfl ?_
            refine a_iconst (pc := 114) X dX4_those_114 q_ic_1 ?_
            refine a_isub (pc := 115) X dX4_those_115 ?_
            refine a_aload_n (pc := 116) X 2 dX4_those_116 rfl rfl ?_
            refine a_getR (pc := 117) X 0 7 7 fl_RX4_26 rfl rfl rfl rfl rfl dX4_those_117 ?_
            refine a_iload_n (pc := 120) X 0 dX4_those_120 rfl rfl ?_
            refine a_iconst (pc := 121) X dX4_those_121 q_ic_1 ?_
            refine a_isub (pc := 122) X dX4_those_122 ?_
            obtain ⟨y7, e_y7, h⟩ := x_lt_elim h
            refine a_callV (pc := 123) (st2 := [.int y7, .int ((l3 + (-1)) - (1 : Int32)), .ref (ad0 7)]) (vs2 := [w0, v1]) X [(0, 7, 2)] [none] 0 7 3 [.int ((l3 + (-1)) - (1 : Int32))] [.int ((l3 + (-1)) - (1 : Int32)), .ref (ad0 7)] cv_RX4_102 (ct_get (ad0 := (fun i => ad0 (i + 7))) (by decide) e_y7) rfl rfl rfl rfl rfl rfl rfl rfl rfl rfl rfl rfl rfl rfl rfl (Nat.le_of_ble_eq_true rfl) ⟨Nat.le_of_ble_eq_true rfl, Nat.le_of_ble_eq_true rfl⟩ dX4_those_123 (fun _ => ?_)
            refine a_aload_n (pc := 126) X 2 dX4_those_126 rfl rfl ?_
            refine a_getR (pc := 127) X 0 7 7 fl_RX4_26 rfl rfl rfl rfl rfl dX4_those_127 ?_
            refine a_iload_n (pc := 130) X 0 dX4_those_130 rfl rfl ?_
            obtain ⟨y8, e_y8, h⟩ := x_lt_elim h
            refine a_callV (pc := 131) (st2 := [.int y8, .int y7, .int ((l3 + (-1)) - (1 : Int32)), .ref (ad0 7)]) (vs2 := [w0, v1]) X [(0, 7, 2)] [none] 0 7 3 [.int (l3 + (-1))] [.int y7, .int ((l3 + (-1)) - (1 : Int32)), .ref (ad0 7)] cv_RX4_102 (ct_get (ad0 := (fun i => ad0 (i + 7))) (by decide) e_y8) rfl rfl rfl rfl rfl rfl rfl rfl rfl rfl rfl rfl rfl rfl rfl (Nat.le_of_ble_eq_true rfl) ⟨Nat.le_of_ble_eq_true rfl, Nat.le_of_ble_eq_true rfl⟩ dX4_those_131 (fun _ => ?_)
            refine a_ior (pc := 134) X dX4_those_134 ?_
            obtain ⟨y9, e_y9, h⟩ := x_lt_elim h
            refine a_callV (pc := 135) (st2 := []) (vs2 := [x_put w0 7 2 y9, v1]) X [(0, 7, 2)] [some y9] 0 7 3 [.int ((l3 + (-1)) - (1 : Int32)), .int (y7 ||| y8)] [] cv_RX4_98 (ct_put (ad0 := (fun i => ad0 (i + 7))) (by decide) e_y9) rfl rfl rfl rfl rfl rfl rfl rfl rfl rfl rfl rfl rfl rfl rfl (Nat.le_of_ble_eq_true rfl) ⟨Nat.le_of_ble_eq_true rfl, Nat.le_of_ble_eq_true rfl⟩ dX4_those_135 (fun _ => ?_)
            obtain ⟨m10, e_m10, h⟩ := x_lt_elim h
            refine a_nm (vs2 := [m10, v1]) (congrArg (fun q : XM => [q, v1]) e_m10) ?_
            refine a_goto (pc := 138) X 170 dX4_those_138 rfl ?_
            refine a_sub [2, 3, 4, 0, 5] rfl ?_
            exact w_X4_those_170 X   hk5  h
        · have h := x_ifp c_61 h
          refine a_iinc (pc := 64) X 4 [(3, .int (l3 + (-1))), (5, .int y5), (0, .ref (ad0 0)), (1, .ref (ad1 0)), (2, .int l2), (4, .int l4)] dX4_those_64 rfl (congrArg (HAdd.hAdd l3) q_ic_m1) (by decide) rfl ?_
          refine a_aload_n (pc := 67) X 2 dX4_those_67 rfl rfl ?_
          refine a_getR (pc := 68) X 0 7 7 fl_RX4_26 rfl rfl rfl rfl rfl dX4_those_68 ?_
          refine a_iload_n (pc := 71) X 0 dX4_those_71 rfl rfl ?_
          refine a_iconst (pc := 72) X dX4_those_72 q_ic_1 ?_
          refine a_isub (pc := 73) X dX4_those_73 ?_
          refine a_aload_n (pc := 74) X 2 dX4_those_74 rfl rfl ?_
          refine a_getR (pc := 75) X 0 7 7 fl_RX4_26 rfl rfl rfl rfl rfl dX4_those_75 ?_
          refine a_iload_n (pc := 78) X 0 dX4_those_78 rfl rfl ?_
          refine a_iconst (pc := 79) X dX4_those_79 q_ic_1 ?_
          refine a_isub (pc := 80) X dX4_those_80 ?_
          obtain ⟨y11, e_y11, h⟩ := x_lt_elim h
          refine a_callV (pc := 81) (st2 := [.int y11, .int ((l3 + (-1)) - (1 : Int32)), .ref (ad0 7)]) (vs2 := [w0, v1]) X [(0, 7, 2)] [none] 0 7 3 [.int ((l3 + (-1)) - (1 : Int32))] [.int ((l3 + (-1)) - (1 : Int32)), .ref (ad0 7)] cv_RX4_102 (ct_get (ad0 := (fun i => ad0 (i + 7))) (by decide) e_y11) rfl rfl rfl rfl rfl rfl rfl rfl rfl rfl rfl rfl rfl rfl rfl (Nat.le_of_ble_eq_true rfl) ⟨Nat.le_of_ble_eq_true rfl, Nat.le_of_ble_eq_true rfl⟩ dX4_those_81 (fun _ => ?_)
          refine a_aload_n (pc := 84) X 2 dX4_those_84 rfl rfl ?_
          refine a_getR (pc := 85) X 0 7 7 fl_RX4_26 rfl rfl rfl rfl rfl dX4_those_85 ?_
          refine a_iload_n (pc := 88) X 0 dX4_those_88 rfl rfl ?_
          obtain ⟨y12, e_y12, h⟩ := x_lt_elim h
          refine a_callV (pc := 89) (st2 := [.int y12, .int y11, .int ((l3 + (-1)) - (1 : Int32)), .ref (ad0 7)]) (vs2 := [w0, v1]) X [(0, 7, 2)] [none] 0 7 3 [.int (l3 + (-1))] [.int y11, .int ((l3 + (-1)) - (1 : Int32)), .ref (ad0 7)] cv_RX4_102 (ct_get (ad0 := (fun i => ad0 (i + 7))) (by decide) e_y12) rfl rfl rfl rfl rfl rfl rfl rfl rfl rfl rfl rfl rfl rfl rfl (Nat.le_of_ble_eq_true rfl) ⟨Nat.le_of_ble_eq_true rfl, Nat.le_of_ble_eq_true rfl⟩ dX4_those_89 (fun _ => ?_)
          refine a_iand (pc := 92) X dX4_those_92 ?_
          obtain ⟨y13, e_y13, h⟩ := x_lt_elim h
          refine a_callV (pc := 93) (st2 := []) (vs2 := [x_put w0 7 2 y13, v1]) X [(0, 7, 2)] [some y13] 0 7 3 [.int ((l3 + (-1)) - (1 : Int32)), .int (y11 &&& y12)] [] cv_RX4_98 (ct_put (ad0 := (fun i => ad0 (i + 7))) (by decide) e_y13) rfl rfl rfl rfl rfl rfl rfl rfl rfl rfl rfl rfl rfl rfl rfl (Nat.le_of_ble_eq_true rfl) ⟨Nat.le_of_ble_eq_true rfl, Nat.le_of_ble_eq_true rfl⟩ dX4_those_93 (fun _ => ?_)
          obtain ⟨m14, e_m14, h⟩ := x_lt_elim h
          refine a_nm (vs2 := [m14, v1]) (congrArg (fun q : XM => [q, v1]) e_m14) ?_
          refine a_goto (pc := 96) X 170 dX4_those_96 rfl ?_
          refine a_sub [2, 3, 4, 0, 5] rfl ?_
          exact w_X4_those_170 X   hk5  h
      · have h := x_ifp c_29 h
        refine a_aload_n (pc := 32) X 1 dX4_those_32 rfl rfl ?_
        refine a_getR (pc := 33) X 0 7 7 fl_RX4_26 rfl rfl rfl rfl rfl dX4_those_33 ?_
        refine a_iload_n (pc := 36) X 4 dX4_those_36 rfl rfl ?_
        refine a_iconst (pc := 37) X dX4_those_37 q_ic_1 ?_
        refine a_isub (pc := 38) X dX4_those_38 ?_
        refine a_aload_n (pc := 39) X 1 dX4_those_39 rfl rfl ?_
        refine a_getR (pc := 40) X 0 7 7 fl_RX4_26 rfl rfl rfl rfl rfl dX4_those_40 ?_
        refine a_iload_n (pc := 43) X 4 dX4_those_43 rfl rfl ?_
        refine a_iconst (pc := 44) X dX4_those_44 q_ic_1 ?_
        refine a_isub (pc := 45) X dX4_those_45 ?_
        obtain ⟨y15, e_y15, h⟩ := x_lt_elim h
        refine a_callV (pc := 46) (st2 := [.int y15, .int (l3 - (1 : Int32)), .ref (ad0 7)]) (vs2 := [w0, v1]) X [(0, 7, 2)] [none] 0 7 3 [.int (l3 - (1 : Int32))] [.int (l3 - (1 : Int32)), .ref (ad0 7)] cv_RX4_102 (ct_get (ad0 := (fun i => ad0 (i + 7))) (by decide) e_y15) rfl rfl rfl rfl rfl rfl rfl rfl rfl rfl rfl rfl rfl rfl rfl (Nat.le_of_ble_eq_true rfl) ⟨Nat.le_of_ble_eq_true rfl, Nat.le_of_ble_eq_true rfl⟩ dX4_those_46 (fun _ => ?_)
        refine a_iconst (pc := 49) X dX4_those_49 q_ic_m1 ?_
        refine a_ixor (pc := 50) X dX4_those_50 ?_
        obtain ⟨y16, e_y16, h⟩ := x_lt_elim h
        refine a_callV (pc := 51) (st2 := []) (vs2 := [x_put w0 7 2 y16, v1]) X [(0, 7, 2)] [some y16] 0 7 3 [.int (l3 - (1 : Int32)), .int (y15 ^^^ (-1 : Int32))] [] cv_RX4_98 (ct_put (ad0 := (fun i => ad0 (i + 7))) (by decide) e_y16) rfl rfl rfl rfl rfl rfl rfl rfl rfl rfl rfl rfl rfl rfl rfl (Nat.le_of_ble_eq_true rfl) ⟨Nat.le_of_ble_eq_true rfl, Nat.le_of_ble_eq_true rfl⟩ dX4_those_51 (fun _ => ?_)
        obtain ⟨m17, e_m17, h⟩ := x_lt_elim h
        refine a_nm (vs2 := [m17, v1]) (congrArg (fun q : XM => [q, v1]) e_m17) ?_
        refine a_goto (pc := 54) X 170 dX4_those_54 rfl ?_
        refine a_sub [1, 2, 3, 4, 5] rfl ?_
        exact w_X4_those_170 X   hk5  h
set_option maxRecDepth 100000 in
set_option maxHeartbeats 4000000 in
theorem c_X4_those {l : Launch}  {ad0 : Nat → Nat} {ad1 : Nat → Nat} {v0 v1 : XM} {x1 : Int32}  {o : Int32 × XM} (h : f_X4_those v0 v1 x1 = some o) : CT l yX4_those cX4_those 6 (some .int) 5 [(shSentence, ad0), (shWorld, ad1)] [v0, v1] (fun aK => [.ref (ad0 0), .ref (ad1 0), .int x1]) (some (.int o.1)) True [o.2, v1] := by
  refine CT_of (by decide) (fun _ => Nat.le_of_ble_eq_true rfl) ?_
  intro p e s m args below meth c D tc aK aV A X
  have X : Cx p s m args meth c cX4_those 6 (some .int) RX4 D tc aK aV A [(shSentence, ad0), (shWorld, ad1)] := X
  show aW p l e (x_Rm 5) s m args below meth c D tc A 6 [(shSentence, ad0), (shWorld, ad1)] (some (.int o.1)) True [o.2, v1] 0 [(0, .ref (ad0 0)), (1, .ref (ad1 0)), (2, .int x1)] [] [v0, v1]
  unfold f_X4_those at h
  refine a_iconst (pc := 0) X dX4_those_0 q_ic_0 ?_
  refine a_istore_n (pc := 1) X [(3, .int (0 : Int32)), (0, .ref (ad0 0)), (1, .ref (ad1 0)), (2, .int x1)] dX4_those_1 rfl (by decide) rfl ?_
  refine a_iconst (pc := 2) X dX4_those_2 q_ic_0 ?_
  refine a_istore (pc := 3) X [(4, .int (0 : Int32)), (3, .int (0 : Int32)), (0, .ref (ad0 0)), (1, .ref (ad1 0)), (2, .int x1)] dX4_those_3 (by decide) rfl ?_
  refine a_sub [2, 3, 4, 1, 0] rfl ?_
  exact w_X4_those_5 X    x_NN _ _ _ _ h
theorem dX5_begin_0 : decode cX5_begin 0 = .ok (.aload_n 0, 1) := by decide +kernel
theorem dX5_begin_1 : decode cX5_begin 1 = .ok (.iconst 0, 1) := by decide +kernel
theorem dX5_begin_2 : decode cX5_begin 2 = .ok (.putfield 42, 3) := by decide +kernel
theorem dX5_begin_5 : decode cX5_begin 5 = .ok (.aload_n 0, 1) := by decide +kernel
theorem dX5_begin_6 : decode cX5_begin 6 = .ok (.iconst (-1), 1) := by decide +kernel
theorem dX5_begin_7 : decode cX5_begin 7 = .ok (.putfield 9, 3) := by decide +kernel
theorem dX5_begin_10 : decode cX5_begin 10 = .ok (.aload_n 0, 1) := by decide +kernel
theorem dX5_begin_11 : decode cX5_begin 11 = .ok (.iconst 0, 1) := by decide +kernel
theorem dX5_begin_12 : decode cX5_begin 12 = .ok (.putfield 45, 3) := by decide +kernel
theorem dX5_begin_15 : decode cX5_begin 15 = .ok (.aload_n 0, 1) := by decide +kernel
theorem dX5_begin_16 : decode cX5_begin 16 = .ok (.getfield 20, 3) := by decide +kernel
theorem dX5_begin_19 : decode cX5_begin 19 = .ok (.aload_n 1, 1) := by decide +kernel
theorem dX5_begin_20 : decode cX5_begin 20 = .ok (.getfield 48, 3) := by decide +kernel
theorem dX5_begin_23 : decode cX5_begin 23 = .ok (.invokevirtual 53, 3) := by decide +kernel
theorem dX5_begin_26 : decode cX5_begin 26 = .ok (.aload_n 0, 1) := by decide +kernel
theorem dX5_begin_27 : decode cX5_begin 27 = .ok (.getfield 24, 3) := by decide +kernel
theorem dX5_begin_30 : decode cX5_begin 30 = .ok (.iconst (-1), 1) := by decide +kernel
theorem dX5_begin_31 : decode cX5_begin 31 = .ok (.invokevirtual 57, 3) := by decide +kernel
theorem dX5_begin_34 : decode cX5_begin 34 = .ok (.aload_n 0, 1) := by decide +kernel
theorem dX5_begin_35 : decode cX5_begin 35 = .ok (.getfield 27, 3) := by decide +kernel
theorem dX5_begin_38 : decode cX5_begin 38 = .ok (.iconst 0, 1) := by decide +kernel
theorem dX5_begin_39 : decode cX5_begin 39 = .ok (.invokevirtual 57, 3) := by decide +kernel
theorem dX5_begin_42 : decode cX5_begin 42 = .ok (.aload_n 0, 1) := by decide +kernel
theorem dX5_begin_43 : decode cX5_begin 43 = .ok (.getfield 30, 3) := by decide +kernel
theorem dX5_begin_46 : decode cX5_begin 46 = .ok (.iconst 0, 1) := by decide +kernel
theorem dX5_begin_47 : decode cX5_begin 47 = .ok (.invokevirtual 57, 3) := by decide +kernel
theorem dX5_begin_50 : decode cX5_begin 50 = .ok (.aload_n 0, 1) := by decide +kernel
theorem dX5_begin_51 : decode cX5_begin 51 = .ok (.getfield 33, 3) := by decide +kernel
theorem dX5_begin_54 : decode cX5_begin 54 = .ok (.iconst 0, 1) := by decide +kernel
theorem dX5_begin_55 : decode cX5_begin 55 = .ok (.invokevirtual 57, 3) := by decide +kernel
theorem dX5_begin_58 : decode cX5_begin 58 = .ok (.aload_n 0, 1) := by decide +kernel
theorem dX5_begin_59 : decode cX5_begin 59 = .ok (.getfield 36, 3) := by decide +kernel
theorem dX5_begin_62 : decode cX5_begin 62 = .ok (.aload_n 1, 1) := by decide +kernel
theorem dX5_begin_63 : decode cX5_begin 63 = .ok (.getfield 60, 3) := by decide +kernel
theorem dX5_begin_66 : decode cX5_begin 66 = .ok (.invokevirtual 53, 3) := by decide +kernel
theorem dX5_begin_69 : decode cX5_begin 69 = .ok (.aload_n 0, 1) := by decide +kernel
theorem dX5_begin_70 : decode cX5_begin 70 = .ok (.getfield 39, 3) := by decide +kernel
theorem dX5_begin_73 : decode cX5_begin 73 = .ok (.iconst 0, 1) := by decide +kernel
theorem dX5_begin_74 : decode cX5_begin 74 = .ok (.invokevirtual 57, 3) := by decide +kernel
theorem dX5_begin_77 : decode cX5_begin 77 = .ok (.return_, 1) := by decide +kernel
def f_X5_begin (v0 : XM) (v1 : XM) : XM :=
  x_lt (x_si v0 0 0 (0 : Int32)) (fun m1 =>
  x_lt (x_si m1 0 1 (-1 : Int32)) (fun m2 =>
  x_lt (x_si m2 0 2 (0 : Int32)) (fun m3 =>
  x_lt (r_bec 5 5 (x_sub m3 1) (x_sub v1 11)) (fun y4 =>
  x_lt (x_put m3 1 2 y4) (fun m5 =>
  x_lt (r_fill 5 (x_sub m5 3) (-1 : Int32)) (fun y6 =>
  x_lt (x_put m5 3 2 y6) (fun m7 =>
  x_lt (r_fill 5 (x_sub m7 5) (0 : Int32)) (fun y8 =>
  x_lt (x_put m7 5 2 y8) (fun m9 =>
  x_lt (r_fill 5 (x_sub m9 7) (0 : Int32)) (fun y10 =>
  x_lt (x_put m9 7 2 y10) (fun m11 =>
  x_lt (r_fill 5 (x_sub m11 9) (0 : Int32)) (fun y12 =>
  x_lt (x_put m11 9 2 y12) (fun m13 =>
  x_lt (r_bec 12 12 (x_sub m13 11) (x_sub v1 5)) (fun y14 =>
  x_lt (x_put m13 11 2 y14) (fun m15 =>
  x_lt (r_fill 12 (x_sub m15 13) (0 : Int32)) (fun y16 =>
  x_lt (x_put m15 13 2 y16) (fun m17 =>
  m17)))))))))))))))))
set_option maxRecDepth 100000 in
set_option maxHeartbeats 4000000 in
theorem c_X5_begin {l : Launch}  {ad0 : Nat → Nat} {ad1 : Nat → Nat} {v0 v1 : XM}   {o : XM} (h : f_X5_begin v0 v1 = o) : CT l yX5_begin cX5_begin 2 none 2 [(shState, ad0), (shValley, ad1)] [v0, v1] (fun aK => [.ref (ad0 0), .ref (ad1 0)]) none True [o, v1] := by
  refine CT_of (by decide) (fun _ => Nat.le_of_ble_eq_true rfl) ?_
  intro p e s m args below meth c D tc aK aV A X
  have X : Cx p s m args meth c cX5_begin 2 none RX5 D tc aK aV A [(shState, ad0), (shValley, ad1)] := X
  show aW p l e (x_Rm 2) s m args below meth c D tc A 2 [(shState, ad0), (shValley, ad1)] none True [o, v1] 0 [(0, .ref (ad0 0)), (1, .ref (ad1 0))] [] [v0, v1]
  unfold f_X5_begin at h
  refine a_aload_n (pc := 0) X 0 dX5_begin_0 rfl rfl ?_
  refine a_iconst (pc := 1) X dX5_begin_1 q_ic_0 ?_
  refine a_putI (pc := 2) X 0 fl_RX5_42 rfl rfl rfl rfl dX5_begin_2 ?_
  obtain ⟨m1, e_m1, h⟩ := x_lt_elim h
  refine a_nm (vs2 := [m1, v1]) (congrArg (fun q : XM => [q, v1]) e_m1) ?_
  refine a_aload_n (pc := 5) X 0 dX5_begin_5 rfl rfl ?_
  refine a_iconst (pc := 6) X dX5_begin_6 q_ic_m1 ?_
  refine a_putI (pc := 7) X 0 fl_RX5_9 rfl rfl rfl rfl dX5_begin_7 ?_
  obtain ⟨m2, e_m2, h⟩ := x_lt_elim h
  refine a_nm (vs2 := [m2, v1]) (congrArg (fun q : XM => [q, v1]) e_m2) ?_
  refine a_aload_n (pc := 10) X 0 dX5_begin_10 rfl rfl ?_
  refine a_iconst (pc := 11) X dX5_begin_11 q_ic_0 ?_
  refine a_putI (pc := 12) X 0 fl_RX5_45 rfl rfl rfl rfl dX5_begin_12 ?_
  obtain ⟨m3, e_m3, h⟩ := x_lt_elim h
  refine a_nm (vs2 := [m3, v1]) (congrArg (fun q : XM => [q, v1]) e_m3) ?_
  refine a_aload_n (pc := 15) X 0 dX5_begin_15 rfl rfl ?_
  refine a_getR (pc := 16) X 0 1 1 fl_RX5_20 rfl rfl rfl rfl rfl dX5_begin_16 ?_
  refine a_aload_n (pc := 19) X 1 dX5_begin_19 rfl rfl ?_
  refine a_getR (pc := 20) X 1 11 11 fl_RX5_48 rfl rfl rfl rfl rfl dX5_begin_20 ?_
  obtain ⟨y4, e_y4, h⟩ := x_lt_elim h
  refine a_callV (pc := 23) (st2 := []) (vs2 := [x_put m3 1 2 y4, v1]) X [(0, 1, 2), (1, 11, 2)] [some y4, none] 0 1 3 [.ref (ad1 11)] [] cv_RX5_53 (ct_bec (ad0 := (fun i => ad0 (i + 1))) (ad1 := (fun i => ad1 (i + 11))) (by decide) (by decide) e_y4) rfl rfl rfl rfl rfl rfl rfl rfl rfl rfl rfl rfl rfl rfl rfl (Nat.le_of_ble_eq_true rfl) ⟨Nat.le_of_ble_eq_true rfl, Nat.le_of_ble_eq_true rfl⟩ dX5_begin_23 (fun _ => ?_)
  obtain ⟨m5, e_m5, h⟩ := x_lt_elim h
  refine a_nm (vs2 := [m5, v1]) (congrArg (fun q : XM => [q, v1]) e_m5) ?_
  refine a_aload_n (pc := 26) X 0 dX5_begin_26 rfl rfl ?_
  refine a_getR (pc := 27) X 0 3 3 fl_RX5_24 rfl rfl rfl rfl rfl dX5_begin_27 ?_
  refine a_iconst (pc := 30) X dX5_begin_30 q_ic_m1 ?_
  obtain ⟨y6, e_y6, h⟩ := x_lt_elim h
  refine a_callV (pc := 31) (st2 := []) (vs2 := [x_put m5 3 2 y6, v1]) X [(0, 3, 2)] [some y6] 0 3 3 [.int (-1 : Int32)] [] cv_RX5_57 (ct_fill (ad0 := (fun i => ad0 (i + 3))) (by decide) e_y6) rfl rfl rfl rfl rfl rfl rfl rfl rfl rfl rfl rfl rfl rfl rfl (Nat.le_of_ble_eq_true rfl) ⟨Nat.le_of_ble_eq_true rfl, Nat.le_of_ble_eq_true rfl⟩ dX5_begin_31 (fun _ => ?_)
  obtain ⟨m7, e_m7, h⟩ := x_lt_elim h
  refine a_nm (vs2 := [m7, v1]) (congrArg (fun q : XM => [q, v1]) e_m7) ?_
  refine a_aload_n (pc := 34) X 0 dX5_begin_34 rfl rfl ?_
  refine a_getR (pc := 35) X 0 5 5 fl_RX5_27 rfl rfl rfl rfl rfl dX5_begin_35 ?_
  refine a_iconst (pc := 38) X dX5_begin_38 q_ic_0 ?_
  obtain ⟨y8, e_y8, h⟩ := x_lt_elim h
  refine a_callV (pc := 39) (st2 := []) (vs2 := [x_put m7 5 2 y8, v1]) X [(0, 5, 2)] [some y8] 0 5 3 [.int (0 : Int32)] [] cv_RX5_57 (ct_fill (ad0 := (fun i => ad0 (i + 5))) (by decide) e_y8) rfl rfl rfl rfl rfl rfl rfl rfl rfl rfl rfl rfl rfl rfl rfl (Nat.le_of_ble_eq_true rfl) ⟨Nat.le_of_ble_eq_true rfl, Nat.le_of_ble_eq_true rfl⟩ dX5_begin_39 (fun _ => ?_)
  obtain ⟨m9, e_m9, h⟩ := x_lt_elim h
  refine a_nm (vs2 := [m9, v1]) (congrArg (fun q : XM => [q, v1]) e_m9) ?_
  refine a_aload_n (pc := 42) X 0 dX5_begin_42 rfl rfl ?_
  refine a_getR (pc := 43) X 0 7 7 fl_RX5_30 rfl rfl rfl rfl rfl dX5_begin_43 ?_
  refine a_iconst (pc := 46) X dX5_begin_46 q_ic_0 ?_
  obtain ⟨y10, e_y10, h⟩ := x_lt_elim h
  refine a_callV (pc := 47) (st2 := []) (vs2 := [x_put m9 7 2 y10, v1]) X [(0, 7, 2)] [some y10] 0 7 3 [.int (0 : Int32)] [] cv_RX5_57 (ct_fill (ad0 := (fun i => ad0 (i + 7))) (by decide) e_y10) rfl rfl rfl rfl rfl rfl rfl rfl rfl rfl rfl rfl rfl rfl rfl (Nat.le_of_ble_eq_true rfl) ⟨Nat.le_of_ble_eq_true rfl, Nat.le_of_ble_eq_true rfl⟩ dX5_begin_47 (fun _ => ?_)
  obtain ⟨m11, e_m11, h⟩ := x_lt_elim h
  refine a_nm (vs2 := [m11, v1]) (congrArg (fun q : XM => [q, v1]) e_m11) ?_
  refine a_aload_n (pc := 50) X 0 dX5_begin_50 rfl rfl ?_
  refine a_getR (pc := 51) X 0 9 9 fl_RX5_33 rfl rfl rfl rfl rfl dX5_begin_51 ?_
  refine a_iconst (pc := 54) X dX5_begin_54 q_ic_0 ?_
  obtain ⟨y12, e_y12, h⟩ := x_lt_elim h
  refine a_callV (pc := 55) (st2 := []) (vs2 := [x_put m11 9 2 y12, v1]) X [(0, 9, 2)] [some y12] 0 9 3 [.int (0 : Int32)] [] cv_RX5_57 (ct_fill (ad0 := (fun i => ad0 (i + 9))) (by decide) e_y12) rfl rfl rfl rfl rfl rfl rfl rfl rfl rfl rfl rfl rfl rfl rfl (Nat.le_of_ble_eq_true rfl) ⟨Nat.le_of_ble_eq_true rfl, Nat.le_of_ble_eq_true rfl⟩ dX5_begin_55 (fun _ => ?_)
  obtain ⟨m13, e_m13, h⟩ := x_lt_elim h
  refine a_nm (vs2 := [m13, v1]) (congrArg (fun q : XM => [q, v1]) e_m13) ?_
  refine a_aload_n (pc := 58) X 0 dX5_begin_58 rfl rfl ?_
  refine a_getR (pc := 59) X 0 11 11 fl_RX5_36 rfl rfl rfl rfl rfl dX5_begin_59 ?_
  refine a_aload_n (pc := 62) X 1 dX5_begin_62 rfl rfl ?_
  refine a_getR (pc := 63) X 1 5 5 fl_RX5_60 rfl rfl rfl rfl rfl dX5_begin_63 ?_
  obtain ⟨y14, e_y14, h⟩ := x_lt_elim h
  refine a_callV (pc := 66) (st2 := []) (vs2 := [x_put m13 11 2 y14, v1]) X [(0, 11, 2), (1, 5, 2)] [some y14, none] 0 11 3 [.ref (ad1 5)] [] cv_RX5_53 (ct_bec (ad0 := (fun i => ad0 (i + 11))) (ad1 := (fun i => ad1 (i + 5))) (by decide) (by decide) e_y14) rfl rfl rfl rfl rfl rfl rfl rfl rfl rfl rfl rfl rfl rfl rfl (Nat.le_of_ble_eq_true rfl) ⟨Nat.le_of_ble_eq_true rfl, Nat.le_of_ble_eq_true rfl⟩ dX5_begin_66 (fun _ => ?_)
  obtain ⟨m15, e_m15, h⟩ := x_lt_elim h
  refine a_nm (vs2 := [m15, v1]) (congrArg (fun q : XM => [q, v1]) e_m15) ?_
  refine a_aload_n (pc := 69) X 0 dX5_begin_69 rfl rfl ?_
  refine a_getR (pc := 70) X 0 13 13 fl_RX5_39 rfl rfl rfl rfl rfl dX5_begin_70 ?_
  refine a_iconst (pc := 73) X dX5_begin_73 q_ic_0 ?_
  obtain ⟨y16, e_y16, h⟩ := x_lt_elim h
  refine a_callV (pc := 74) (st2 := []) (vs2 := [x_put m15 13 2 y16, v1]) X [(0, 13, 2)] [some y16] 0 13 3 [.int (0 : Int32)] [] cv_RX5_57 (ct_fill (ad0 := (fun i => ad0 (i + 13))) (by decide) e_y16) rfl rfl rfl rfl rfl rfl rfl rfl rfl rfl rfl rfl rfl rfl rfl (Nat.le_of_ble_eq_true rfl) ⟨Nat.le_of_ble_eq_true rfl, Nat.le_of_ble_eq_true rfl⟩ dX5_begin_74 (fun _ => ?_)
  obtain ⟨m17, e_m17, h⟩ := x_lt_elim h
  refine a_nm (vs2 := [m17, v1]) (congrArg (fun q : XM => [q, v1]) e_m17) ?_
  subst h
  exact a_vret (pc := 77) X trivial dX5_begin_77
theorem dX9_empty_0 : decode cX9_empty 0 = .ok (.aload_n 0, 1) := by decide +kernel
theorem dX9_empty_1 : decode cX9_empty 1 = .ok (.iconst 0, 1) := by decide +kernel
theorem dX9_empty_2 : decode cX9_empty 2 = .ok (.putfield 46, 3) := by decide +kernel
theorem dX9_empty_5 : decode cX9_empty 5 = .ok (.aload_n 0, 1) := by decide +kernel
theorem dX9_empty_6 : decode cX9_empty 6 = .ok (.iconst 0, 1) := by decide +kernel
theorem dX9_empty_7 : decode cX9_empty 7 = .ok (.putfield 49, 3) := by decide +kernel
theorem dX9_empty_10 : decode cX9_empty 10 = .ok (.aload_n 0, 1) := by decide +kernel
theorem dX9_empty_11 : decode cX9_empty 11 = .ok (.iconst 0, 1) := by decide +kernel
theorem dX9_empty_12 : decode cX9_empty 12 = .ok (.putfield 52, 3) := by decide +kernel
theorem dX9_empty_15 : decode cX9_empty 15 = .ok (.aload_n 0, 1) := by decide +kernel
theorem dX9_empty_16 : decode cX9_empty 16 = .ok (.iconst 0, 1) := by decide +kernel
theorem dX9_empty_17 : decode cX9_empty 17 = .ok (.putfield 55, 3) := by decide +kernel
theorem dX9_empty_20 : decode cX9_empty 20 = .ok (.aload_n 0, 1) := by decide +kernel
theorem dX9_empty_21 : decode cX9_empty 21 = .ok (.bipush 12, 2) := by decide +kernel
theorem dX9_empty_23 : decode cX9_empty 23 = .ok (.putfield 9, 3) := by decide +kernel
theorem dX9_empty_26 : decode cX9_empty 26 = .ok (.aload_n 0, 1) := by decide +kernel
theorem dX9_empty_27 : decode cX9_empty 27 = .ok (.iconst 0, 1) := by decide +kernel
theorem dX9_empty_28 : decode cX9_empty 28 = .ok (.putfield 58, 3) := by decide +kernel
theorem dX9_empty_31 : decode cX9_empty 31 = .ok (.iconst 0, 1) := by decide +kernel
theorem dX9_empty_32 : decode cX9_empty 32 = .ok (.istore_n 1, 1) := by decide +kernel
theorem dX9_empty_33 : decode cX9_empty 33 = .ok (.iload_n 1, 1) := by decide +kernel
theorem dX9_empty_34 : decode cX9_empty 34 = .ok (.aload_n 0, 1) := by decide +kernel
theorem dX9_empty_35 : decode cX9_empty 35 = .ok (.getfield 42, 3) := by decide +kernel
theorem dX9_empty_38 : decode cX9_empty 38 = .ok (.arraylength, 1) := by decide +kernel
theorem dX9_empty_39 : decode cX9_empty 39 = .ok (.if_icmp .ge 16, 3) := by decide +kernel
theorem dX9_empty_42 : decode cX9_empty 42 = .ok (.aload_n 0, 1) := by decide +kernel
theorem dX9_empty_43 : decode cX9_empty 43 = .ok (.getfield 42, 3) := by decide +kernel
theorem dX9_empty_46 : decode cX9_empty 46 = .ok (.iload_n 1, 1) := by decide +kernel
theorem dX9_empty_47 : decode cX9_empty 47 = .ok (.lconst 0, 1) := by decide +kernel
theorem dX9_empty_48 : decode cX9_empty 48 = .ok (.lastore, 1) := by decide +kernel
theorem dX9_empty_49 : decode cX9_empty 49 = .ok (.iinc 1 1, 3) := by decide +kernel
theorem dX9_empty_52 : decode cX9_empty 52 = .ok (.goto (-19), 3) := by decide +kernel
theorem dX9_empty_55 : decode cX9_empty 55 = .ok (.return_, 1) := by decide +kernel
def f_X9_empty_33 (k33 : XM → Int32 → Option (XM)) (w0 : XM) (l1 : Int32) : Option (XM) :=
  if ((19 : Int32) : Int32) ≤ l1 then
  (some w0)
  else (x_ck l1 19 (
  x_lt (x_pl w0 15 l1 (0 : Int64)) (fun m1 =>
  k33 m1 (l1 + 1))))
def f_X9_empty (v0 : XM) : Option (XM) :=
  x_lt (x_si v0 0 0 (0 : Int32)) (fun m2 =>
  x_lt (x_si m2 0 1 (0 : Int32)) (fun m3 =>
  x_lt (x_si m3 0 2 (0 : Int32)) (fun m4 =>
  x_lt (x_si m4 0 3 (0 : Int32)) (fun m5 =>
  x_lt (x_si m5 0 4 (12 : Int32)) (fun m6 =>
  x_lt (x_si m6 0 5 (0 : Int32)) (fun m7 =>
  x_lp (φ := XM → Int32 → Option (XM)) (fun _ _ => none) (f_X9_empty_33  ) x_NN m7 (0 : Int32)))))))
set_option maxRecDepth 100000 in
set_option maxHeartbeats 4000000 in
theorem w_X9_empty_33 {p : Program} {l : Launch} {e : Env} {s : State} {m : MethodId} {args : Array Value} {below : List Frame} {meth : Method} {c : Code} {D : va_G} {tc : Nat → ClassId} {aK aV : Nat → Nat} {A : Nat → Prop} {ad0 : Nat → Nat}  (X : Cx p s m args meth c cX9_empty 2 none RX9 D tc aK aV A [(shValley, ad0)])  {o : XM}  : ∀ (n : Nat), ∀ (w0 : XM) (l1 : Int32), x_lp (φ := XM → Int32 → Option (XM)) (fun _ _ => none) (f_X9_empty_33  ) n w0 l1 = some o → aW p l e (x_Rm 0) s m args below meth c D tc A 2 [(shValley, ad0)] none True [o] 33 [(0, .ref (ad0 0)), (1, .int l1)] [] [w0] := by
  intro n
  induction n with
  | zero => intro w0 l1 h; exact absurd h (fun q => by cases q)
  | succ n ih =>
    intro w0 l1 h
    have h : f_X9_empty_33   (x_lp (φ := XM → Int32 → Option (XM)) (fun _ _ => none) (f_X9_empty_33  ) n) w0 l1 = some o := h
    generalize x_lp (φ := XM → Int32 → Option (XM)) (fun _ _ => none) (f_X9_empty_33  ) n = k33 at h ih
    have hk33 := ih
    unfold f_X9_empty_33 at h
    refine a_iload_n (pc := 33) X 1 dX9_empty_33 rfl rfl ?_
    refine a_aload_n (pc := 34) X 0 dX9_empty_34 rfl rfl ?_
    refine a_getR (pc := 35) X 0 15 15 fl_RX9_42 rfl rfl rfl rfl rfl dX9_empty_35 ?_
    refine a_alenL (pc := 38) (x := 19) X 0 rfl rfl rfl (by decide) dX9_empty_38 ?_
    refine a_icmp_ge (pc := 39) X 55 dX9_empty_39 rfl (fun c_39 => ?_) (fun c_39 => ?_)
    · have h := x_ifp c_39 h
      have h := Option.some.inj h; subst h
      exact a_vret (pc := 55) X trivial dX9_empty_55
    · have h := x_ifn c_39 h
      refine a_aload_n (pc := 42) X 0 dX9_empty_42 rfl rfl ?_
      refine a_getR (pc := 43) X 0 15 15 fl_RX9_42 rfl rfl rfl rfl rfl dX9_empty_43 ?_
      refine a_iload_n (pc := 46) X 1 dX9_empty_46 rfl rfl ?_
      refine a_lconst (pc := 47) (v := 0) X dX9_empty_47 rfl ?_
      obtain ⟨c_48, h⟩ := x_ck_elim h
      refine a_last (pc := 48) X 0 rfl rfl rfl c_48 dX9_empty_48 ?_
      obtain ⟨m1, e_m1, h⟩ := x_lt_elim h
      refine a_nm (vs2 := [m1]) (congrArg (fun q : XM => [q]) e_m1) ?_
      refine a_iinc (pc := 49) X 1 [(1, .int (l1 + 1)), (0, .ref (ad0 0))] dX9_empty_49 rfl (congrArg (HAdd.hAdd l1) q_ic_1) (by decide) rfl ?_
      refine a_goto (pc := 52) X 33 dX9_empty_52 rfl ?_
      refine a_sub [1, 0] rfl ?_
      exact hk33 _ _ h
set_option maxRecDepth 100000 in
set_option maxHeartbeats 4000000 in
theorem c_X9_empty {l : Launch}  {ad0 : Nat → Nat} {v0 : XM}   {o : XM} (h : f_X9_empty v0 = some o) : CT l yX9_empty cX9_empty 2 none 0 [(shValley, ad0)] [v0] (fun aK => [.ref (ad0 0)]) none True [o] := by
  refine CT_of (by decide) (fun _ => Nat.le_of_ble_eq_true rfl) ?_
  intro p e s m args below meth c D tc aK aV A X
  have X : Cx p s m args meth c cX9_empty 2 none RX9 D tc aK aV A [(shValley, ad0)] := X
  show aW p l e (x_Rm 0) s m args below meth c D tc A 2 [(shValley, ad0)] none True [o] 0 [(0, .ref (ad0 0))] [] [v0]
  unfold f_X9_empty at h
  refine a_aload_n (pc := 0) X 0 dX9_empty_0 rfl rfl ?_
  refine a_iconst (pc := 1) X dX9_empty_1 q_ic_0 ?_
  refine a_putI (pc := 2) X 0 fl_RX9_46 rfl rfl rfl rfl dX9_empty_2 ?_
  obtain ⟨m2, e_m2, h⟩ := x_lt_elim h
  refine a_nm (vs2 := [m2]) (congrArg (fun q : XM => [q]) e_m2) ?_
  refine a_aload_n (pc := 5) X 0 dX9_empty_5 rfl rfl ?_
  refine a_iconst (pc := 6) X dX9_empty_6 q_ic_0 ?_
  refine a_putI (pc := 7) X 0 fl_RX9_49 rfl rfl rfl rfl dX9_empty_7 ?_
  obtain ⟨m3, e_m3, h⟩ := x_lt_elim h
  refine a_nm (vs2 := [m3]) (congrArg (fun q : XM => [q]) e_m3) ?_
  refine a_aload_n (pc := 10) X 0 dX9_empty_10 rfl rfl ?_
  refine a_iconst (pc := 11) X dX9_empty_11 q_ic_0 ?_
  refine a_putI (pc := 12) X 0 fl_RX9_52 rfl rfl rfl rfl dX9_empty_12 ?_
  obtain ⟨m4, e_m4, h⟩ := x_lt_elim h
  refine a_nm (vs2 := [m4]) (congrArg (fun q : XM => [q]) e_m4) ?_
  refine a_aload_n (pc := 15) X 0 dX9_empty_15 rfl rfl ?_
  refine a_iconst (pc := 16) X dX9_empty_16 q_ic_0 ?_
  refine a_putI (pc := 17) X 0 fl_RX9_55 rfl rfl rfl rfl dX9_empty_17 ?_
  obtain ⟨m5, e_m5, h⟩ := x_lt_elim h
  refine a_nm (vs2 := [m5]) (congrArg (fun q : XM => [q]) e_m5) ?_
  refine a_aload_n (pc := 20) X 0 dX9_empty_20 rfl rfl ?_
  refine a_bipush (pc := 21) X dX9_empty_21 q_bp_12 ?_
  refine a_putI (pc := 23) X 0 fl_RX9_9 rfl rfl rfl rfl dX9_empty_23 ?_
  obtain ⟨m6, e_m6, h⟩ := x_lt_elim h
  refine a_nm (vs2 := [m6]) (congrArg (fun q : XM => [q]) e_m6) ?_
  refine a_aload_n (pc := 26) X 0 dX9_empty_26 rfl rfl ?_
  refine a_iconst (pc := 27) X dX9_empty_27 q_ic_0 ?_
  refine a_putI (pc := 28) X 0 fl_RX9_58 rfl rfl rfl rfl dX9_empty_28 ?_
  obtain ⟨m7, e_m7, h⟩ := x_lt_elim h
  refine a_nm (vs2 := [m7]) (congrArg (fun q : XM => [q]) e_m7) ?_
  refine a_iconst (pc := 31) X dX9_empty_31 q_ic_0 ?_
  refine a_istore_n (pc := 32) X [(1, .int (0 : Int32)), (0, .ref (ad0 0))] dX9_empty_32 rfl (by decide) rfl ?_
  refine a_sub [1, 0] rfl ?_
  exact w_X9_empty_33 X    x_NN _ _ h
theorem dX9_setName_0 : decode cX9_setName 0 = .ok (.iload_n 1, 1) := by decide +kernel
theorem dX9_setName_1 : decode cX9_setName 1 = .ok (.ifCond .lt 19, 3) := by decide +kernel
theorem dX9_setName_4 : decode cX9_setName 4 = .ok (.iload_n 1, 1) := by decide +kernel
theorem dX9_setName_5 : decode cX9_setName 5 = .ok (.aload_n 0, 1) := by decide +kernel
theorem dX9_setName_6 : decode cX9_setName 6 = .ok (.getfield 42, 3) := by decide +kernel
theorem dX9_setName_9 : decode cX9_setName 9 = .ok (.arraylength, 1) := by decide +kernel
theorem dX9_setName_10 : decode cX9_setName 10 = .ok (.if_icmp .ge 10, 3) := by decide +kernel
theorem dX9_setName_13 : decode cX9_setName 13 = .ok (.aload_n 0, 1) := by decide +kernel
theorem dX9_setName_14 : decode cX9_setName 14 = .ok (.getfield 42, 3) := by decide +kernel
theorem dX9_setName_17 : decode cX9_setName 17 = .ok (.iload_n 1, 1) := by decide +kernel
theorem dX9_setName_18 : decode cX9_setName 18 = .ok (.lload_n 2, 1) := by decide +kernel
theorem dX9_setName_19 : decode cX9_setName 19 = .ok (.lastore, 1) := by decide +kernel
theorem dX9_setName_20 : decode cX9_setName 20 = .ok (.return_, 1) := by decide +kernel
def f_X9_setName (v0 : XM) (x0 : Int32) (x1 : Int64) : Option (XM) :=
  if x0 < (0 : Int32) then
  (some v0)
  else (if ((19 : Int32) : Int32) ≤ x0 then
  (some v0)
  else (x_ck x0 19 (
  x_lt (x_pl v0 15 x0 x1) (fun m1 =>
  some m1))))
set_option maxRecDepth 100000 in
set_option maxHeartbeats 4000000 in
theorem c_X9_setName {l : Launch}  {ad0 : Nat → Nat} {v0 : XM} {x0 : Int32} {x1 : Int64}  {o : XM} (h : f_X9_setName v0 x0 x1 = some o) : CT l yX9_setName cX9_setName 4 none 0 [(shValley, ad0)] [v0] (fun aK => [.ref (ad0 0), .int x0, .long x1]) none True [o] := by
  refine CT_of (by decide) (fun _ => Nat.le_of_ble_eq_true rfl) ?_
  intro p e s m args below meth c D tc aK aV A X
  have X : Cx p s m args meth c cX9_setName 4 none RX9 D tc aK aV A [(shValley, ad0)] := X
  show aW p l e (x_Rm 0) s m args below meth c D tc A 4 [(shValley, ad0)] none True [o] 0 [(0, .ref (ad0 0)), (1, .int x0), (2, .long x1)] [] [v0]
  unfold f_X9_setName at h
  refine a_iload_n (pc := 0) X 1 dX9_setName_0 rfl rfl ?_
  refine a_if_lt (pc := 1) X 20 dX9_setName_1 rfl (fun c_1 => ?_) (fun c_1 => ?_)
  · have h := x_ifp c_1 h
    have h := Option.some.inj h; subst h
    exact a_vret (pc := 20) X trivial dX9_setName_20
  · have h := x_ifn c_1 h
    refine a_iload_n (pc := 4) X 1 dX9_setName_4 rfl rfl ?_
    refine a_aload_n (pc := 5) X 0 dX9_setName_5 rfl rfl ?_
    refine a_getR (pc := 6) X 0 15 15 fl_RX9_42 rfl rfl rfl rfl rfl dX9_setName_6 ?_
    refine a_alenL (pc := 9) (x := 19) X 0 rfl rfl rfl (by decide) dX9_setName_9 ?_
    refine a_icmp_ge (pc := 10) X 20 dX9_setName_10 rfl (fun c_10 => ?_) (fun c_10 => ?_)
    · have h := x_ifp c_10 h
      have h := Option.some.inj h; subst h
      exact a_vret (pc := 20) X trivial dX9_setName_20
    · have h := x_ifn c_10 h
      refine a_aload_n (pc := 13) X 0 dX9_setName_13 rfl rfl ?_
      refine a_getR (pc := 14) X 0 15 15 fl_RX9_42 rfl rfl rfl rfl rfl dX9_setName_14 ?_
      refine a_iload_n (pc := 17) X 1 dX9_setName_17 rfl rfl ?_
      refine a_lload_n (pc := 18) X 2 dX9_setName_18 rfl rfl ?_
      obtain ⟨c_19, h⟩ := x_ck_elim h
      refine a_last (pc := 19) X 0 rfl rfl rfl c_19 dX9_setName_19 ?_
      obtain ⟨m1, e_m1, h⟩ := x_lt_elim h
      refine a_nm (vs2 := [m1]) (congrArg (fun q : XM => [q]) e_m1) ?_
      have h := Option.some.inj h; subst h
      exact a_vret (pc := 20) X trivial dX9_setName_20
theorem dX6_readNewName_0 : decode cX6_readNewName 0 = .ok (.aload_n 1, 1) := by decide +kernel
theorem dX6_readNewName_1 : decode cX6_readNewName 1 = .ok (.invokevirtual 139, 3) := by decide +kernel
theorem dX6_readNewName_4 : decode cX6_readNewName 4 = .ok (.ifCond .ne 9, 3) := by decide +kernel
theorem dX6_readNewName_7 : decode cX6_readNewName 7 = .ok (.aload_n 1, 1) := by decide +kernel
theorem dX6_readNewName_8 : decode cX6_readNewName 8 = .ok (.iconst 1, 1) := by decide +kernel
theorem dX6_readNewName_9 : decode cX6_readNewName 9 = .ok (.invokevirtual 61, 3) := by decide +kernel
theorem dX6_readNewName_12 : decode cX6_readNewName 12 = .ok (.ireturn, 1) := by decide +kernel
theorem dX6_readNewName_13 : decode cX6_readNewName 13 = .ok (.aload_n 0, 1) := by decide +kernel
theorem dX6_readNewName_14 : decode cX6_readNewName 14 = .ok (.getfield 12, 3) := by decide +kernel
theorem dX6_readNewName_17 : decode cX6_readNewName 17 = .ok (.aload_n 1, 1) := by decide +kernel
theorem dX6_readNewName_18 : decode cX6_readNewName 18 = .ok (.getfield 143, 3) := by decide +kernel
theorem dX6_readNewName_21 : decode cX6_readNewName 21 = .ok (.invokevirtual 147, 3) := by decide +kernel
theorem dX6_readNewName_24 : decode cX6_readNewName 24 = .ok (.iconst (-1), 1) := by decide +kernel
theorem dX6_readNewName_25 : decode cX6_readNewName 25 = .ok (.if_icmp .eq 9, 3) := by decide +kernel
theorem dX6_readNewName_28 : decode cX6_readNewName 28 = .ok (.aload_n 1, 1) := by decide +kernel
theorem dX6_readNewName_29 : decode cX6_readNewName 29 = .ok (.iconst 3, 1) := by decide +kernel
theorem dX6_readNewName_30 : decode cX6_readNewName 30 = .ok (.invokevirtual 61, 3) := by decide +kernel
theorem dX6_readNewName_33 : decode cX6_readNewName 33 = .ok (.ireturn, 1) := by decide +kernel
theorem dX6_readNewName_34 : decode cX6_readNewName 34 = .ok (.aload_n 0, 1) := by decide +kernel
theorem dX6_readNewName_35 : decode cX6_readNewName 35 = .ok (.getfield 12, 3) := by decide +kernel
theorem dX6_readNewName_38 : decode cX6_readNewName 38 = .ok (.iload_n 2, 1) := by decide +kernel
theorem dX6_readNewName_39 : decode cX6_readNewName 39 = .ok (.aload_n 1, 1) := by decide +kernel
theorem dX6_readNewName_40 : decode cX6_readNewName 40 = .ok (.getfield 143, 3) := by decide +kernel
theorem dX6_readNewName_43 : decode cX6_readNewName 43 = .ok (.invokevirtual 151, 3) := by decide +kernel
theorem dX6_readNewName_46 : decode cX6_readNewName 46 = .ok (.aload_n 1, 1) := by decide +kernel
theorem dX6_readNewName_47 : decode cX6_readNewName 47 = .ok (.invokevirtual 68, 3) := by decide +kernel
theorem dX6_readNewName_50 : decode cX6_readNewName 50 = .ok (.iconst 1, 1) := by decide +kernel
theorem dX6_readNewName_51 : decode cX6_readNewName 51 = .ok (.ireturn, 1) := by decide +kernel
def f_X6_readNewName (v0 : XM) (v1 : XM) (x1 : Int32) : Option (Int32 × XM × XM) :=
  x_lt (f_X8_isName v1) (fun y1 =>
  if y1 = (0 : Int32) then
  (x_lt (f_X8_refuse v1 (1 : Int32)) (fun y7 =>
  some (y7.1, v0, y7.2)))
  else (x_bo (f_X9_placeOfName (x_sub v0 1) (v1.2 0 9)) (fun y2 =>
  if (y2 : Int32) = (-1 : Int32) then
  (x_bo (f_X9_setName (x_sub v0 1) x1 (v1.2 0 9)) (fun y3 =>
  x_lt (x_put v0 1 16 y3) (fun m4 =>
  x_bo (f_X8_advance v1) (fun y5 =>
  some ((1 : Int32), m4, y5)))))
  else (x_lt (f_X8_refuse v1 (3 : Int32)) (fun y6 =>
  some (y6.1, v0, y6.2))))))
set_option maxRecDepth 100000 in
set_option maxHeartbeats 4000000 in
theorem c_X6_readNewName {l : Launch}  {ad0 : Nat → Nat} {ad1 : Nat → Nat} {v0 v1 : XM} {x1 : Int32}  {o : Int32 × XM × XM} (h : f_X6_readNewName v0 v1 x1 = some o) : CT l yX6_readNewName cX6_readNewName 3 (some .boolean) 3 [(shSurveyor, ad0), (shTape, ad1)] [v0, v1] (fun aK => [.ref (ad0 0), .ref (ad1 0), .int x1]) (some (.int o.1)) (x_Z o.1) [o.2.1, o.2.2] := by
  refine CT_of (by decide) (fun _ => Nat.le_of_ble_eq_true rfl) ?_
  intro p e s m args below meth c D tc aK aV A X
  have X : Cx p s m args meth c cX6_readNewName 3 (some .boolean) RX6 D tc aK aV A [(shSurveyor, ad0), (shTape, ad1)] := X
  show aW p l e (x_Rm 3) s m args below meth c D tc A 3 [(shSurveyor, ad0), (shTape, ad1)] (some (.int o.1)) (x_Z o.1) [o.2.1, o.2.2] 0 [(0, .ref (ad0 0)), (1, .ref (ad1 0)), (2, .int x1)] [] [v0, v1]
  unfold f_X6_readNewName at h
  refine a_aload_n (pc := 0) X 1 dX6_readNewName_0 rfl rfl ?_
  obtain ⟨y1, e_y1, h⟩ := x_lt_elim h
  refine a_callV (pc := 1) (st2 := [.int y1]) (vs2 := [v0, v1]) X [(1, 0, 4)] [none] 1 0 8 [] [] cv_RX6_139 (c_X8_isName (ad0 := ad1)  e_y1) rfl rfl rfl rfl rfl rfl rfl rfl rfl rfl rfl rfl rfl rfl rfl (Nat.le_of_ble_eq_true rfl) ⟨Nat.le_of_ble_eq_true rfl, Nat.le_of_ble_eq_true rfl⟩ dX6_readNewName_1 (fun z_1 => ?_)
  refine a_if_ne (pc := 4) X 13 dX6_readNewName_4 rfl (fun c_4 => ?_) (fun c_4 => ?_)
  · have h := x_ifn c_4 h
    refine a_aload_n (pc := 13) X 0 dX6_readNewName_13 rfl rfl ?_
    refine a_getR (pc := 14) X 0 1 1 fl_RX6_12 rfl rfl rfl rfl rfl dX6_readNewName_14 ?_
    refine a_aload_n (pc := 17) X 1 dX6_readNewName_17 rfl rfl ?_
    refine a_getL (pc := 18) X 1 fl_RX6_143 rfl rfl rfl rfl dX6_readNewName_18 ?_
    obtain ⟨y2, e_y2, h⟩ := x_bo_elim h
    refine a_callV (pc := 21) (st2 := [.int y2]) (vs2 := [v0, v1]) X [(0, 1, 16)] [none] 0 1 9 [.long (v1.2 0 9)] [] cv_RX6_147 (c_X9_placeOfName (ad0 := (fun i => ad0 (i + 1)))  e_y2) rfl rfl rfl rfl rfl rfl rfl rfl rfl rfl rfl rfl rfl rfl rfl (Nat.le_of_ble_eq_true rfl) ⟨Nat.le_of_ble_eq_true rfl, Nat.le_of_ble_eq_true rfl⟩ dX6_readNewName_21 (fun _ => ?_)
    refine a_iconst (pc := 24) X dX6_readNewName_24 q_ic_m1 ?_
    refine a_icmp_eq (pc := 25) X 34 dX6_readNewName_25 rfl (fun c_25 => ?_) (fun c_25 => ?_)
    · have h := x_ifp c_25 h
      refine a_aload_n (pc := 34) X 0 dX6_readNewName_34 rfl rfl ?_
      refine a_getR (pc := 35) X 0 1 1 fl_RX6_12 rfl rfl rfl rfl rfl dX6_readNewName_35 ?_
      refine a_iload_n (pc := 38) X 2 dX6_readNewName_38 rfl rfl ?_
      refine a_aload_n (pc := 39) X 1 dX6_readNewName_39 rfl rfl ?_
      refine a_getL (pc := 40) X 1 fl_RX6_143 rfl rfl rfl rfl dX6_readNewName_40 ?_
      obtain ⟨y3, e_y3, h⟩ := x_bo_elim h
      refine a_callV (pc := 43) (st2 := []) (vs2 := [x_put v0 1 16 y3, v1]) X [(0, 1, 16)] [some y3] 0 1 9 [.int x1, .long (v1.2 0 9)] [] cv_RX6_151 (c_X9_setName (ad0 := (fun i => ad0 (i + 1)))  e_y3) rfl rfl rfl rfl rfl rfl rfl rfl rfl rfl rfl rfl rfl rfl rfl (Nat.le_of_ble_eq_true rfl) ⟨Nat.le_of_ble_eq_true rfl, Nat.le_of_ble_eq_true rfl⟩ dX6_readNewName_43 (fun _ => ?_)
      obtain ⟨m4, e_m4, h⟩ := x_lt_elim h
      refine a_nm (vs2 := [m4, v1]) (congrArg (fun q : XM => [q, v1]) e_m4) ?_
      refine a_aload_n (pc := 46) X 1 dX6_readNewName_46 rfl rfl ?_
      obtain ⟨y5, e_y5, h⟩ := x_bo_elim h
      refine a_callV (pc := 47) (st2 := []) (vs2 := [m4, y5]) X [(1, 0, 4)] [some y5] 1 0 8 [] [] cv_RX6_68 (c_X8_advance (ad0 := ad1)  e_y5) rfl rfl rfl rfl rfl rfl rfl rfl rfl rfl rfl rfl rfl rfl rfl (Nat.le_of_ble_eq_true rfl) ⟨Nat.le_of_ble_eq_true rfl, Nat.le_of_ble_eq_true rfl⟩ dX6_readNewName_47 (fun _ => ?_)
      refine a_iconst (pc := 50) X dX6_readNewName_50 q_ic_1 ?_
      have h := Option.some.inj h; subst h
      exact a_zret (pc := 51) X x_Z1 x_Z1 dX6_readNewName_51
    · have h := x_ifn c_25 h
      refine a_aload_n (pc := 28) X 1 dX6_readNewName_28 rfl rfl ?_
      refine a_iconst (pc := 29) X dX6_readNewName_29 q_ic_3 ?_
      obtain ⟨y6, e_y6, h⟩ := x_lt_elim h
      refine a_callV (pc := 30) (st2 := [.int y6.1]) (vs2 := [v0, y6.2]) X [(1, 0, 4)] [some y6.2] 1 0 8 [.int (3 : Int32)] [] cv_RX6_61 (c_X8_refuse (ad0 := ad1)  e_y6) rfl rfl rfl rfl rfl rfl rfl rfl rfl rfl rfl rfl rfl rfl rfl (Nat.le_of_ble_eq_true rfl) ⟨Nat.le_of_ble_eq_true rfl, Nat.le_of_ble_eq_true rfl⟩ dX6_readNewName_30 (fun z_30 => ?_)
      have h := Option.some.inj h; subst h
      exact a_zret (pc := 33) X z_30 z_30 dX6_readNewName_33
  · have h := x_ifp c_4 h
    refine a_aload_n (pc := 7) X 1 dX6_readNewName_7 rfl rfl ?_
    refine a_iconst (pc := 8) X dX6_readNewName_8 q_ic_1 ?_
    obtain ⟨y7, e_y7, h⟩ := x_lt_elim h
    refine a_callV (pc := 9) (st2 := [.int y7.1]) (vs2 := [v0, y7.2]) X [(1, 0, 4)] [some y7.2] 1 0 8 [.int (1 : Int32)] [] cv_RX6_61 (c_X8_refuse (ad0 := ad1)  e_y7) rfl rfl rfl rfl rfl rfl rfl rfl rfl rfl rfl rfl rfl rfl rfl (Nat.le_of_ble_eq_true rfl) ⟨Nat.le_of_ble_eq_true rfl, Nat.le_of_ble_eq_true rfl⟩ dX6_readNewName_9 (fun z_9 => ?_)
    have h := Option.some.inj h; subst h
    exact a_zret (pc := 12) X z_9 z_9 dX6_readNewName_12
theorem dX6_readSpot_0 : decode cX6_readSpot 0 = .ok (.aload_n 0, 1) := by decide +kernel
theorem dX6_readSpot_1 : decode cX6_readSpot 1 = .ok (.getfield 12, 3) := by decide +kernel
theorem dX6_readSpot_4 : decode cX6_readSpot 4 = .ok (.getfield 65, 3) := by decide +kernel
theorem dX6_readSpot_7 : decode cX6_readSpot 7 = .ok (.bipush 8, 2) := by decide +kernel
theorem dX6_readSpot_9 : decode cX6_readSpot 9 = .ok (.if_icmp .lt 9, 3) := by decide +kernel
theorem dX6_readSpot_12 : decode cX6_readSpot 12 = .ok (.aload_n 1, 1) := by decide +kernel
theorem dX6_readSpot_13 : decode cX6_readSpot 13 = .ok (.iconst 4, 1) := by decide +kernel
theorem dX6_readSpot_14 : decode cX6_readSpot 14 = .ok (.invokevirtual 61, 3) := by decide +kernel
theorem dX6_readSpot_17 : decode cX6_readSpot 17 = .ok (.ireturn, 1) := by decide +kernel
theorem dX6_readSpot_18 : decode cX6_readSpot 18 = .ok (.aload_n 1, 1) := by decide +kernel
theorem dX6_readSpot_19 : decode cX6_readSpot 19 = .ok (.invokevirtual 68, 3) := by decide +kernel
theorem dX6_readSpot_22 : decode cX6_readSpot 22 = .ok (.aload_n 0, 1) := by decide +kernel
theorem dX6_readSpot_23 : decode cX6_readSpot 23 = .ok (.aload_n 1, 1) := by decide +kernel
theorem dX6_readSpot_24 : decode cX6_readSpot 24 = .ok (.iconst 0, 1) := by decide +kernel
theorem dX6_readSpot_25 : decode cX6_readSpot 25 = .ok (.aload_n 0, 1) := by decide +kernel
theorem dX6_readSpot_26 : decode cX6_readSpot 26 = .ok (.getfield 12, 3) := by decide +kernel
theorem dX6_readSpot_29 : decode cX6_readSpot 29 = .ok (.getfield 65, 3) := by decide +kernel
theorem dX6_readSpot_32 : decode cX6_readSpot 32 = .ok (.iadd, 1) := by decide +kernel
theorem dX6_readSpot_33 : decode cX6_readSpot 33 = .ok (.invokevirtual 71, 3) := by decide +kernel
theorem dX6_readSpot_36 : decode cX6_readSpot 36 = .ok (.ifCond .ne 5, 3) := by decide +kernel
theorem dX6_readSpot_39 : decode cX6_readSpot 39 = .ok (.iconst 0, 1) := by decide +kernel
theorem dX6_readSpot_40 : decode cX6_readSpot 40 = .ok (.ireturn, 1) := by decide +kernel
theorem dX6_readSpot_41 : decode cX6_readSpot 41 = .ok (.aload_n 1, 1) := by decide +kernel
theorem dX6_readSpot_42 : decode cX6_readSpot 42 = .ok (.getfield 43, 3) := by decide +kernel
theorem dX6_readSpot_45 : decode cX6_readSpot 45 = .ok (.iconst 1, 1) := by decide +kernel
theorem dX6_readSpot_46 : decode cX6_readSpot 46 = .ok (.if_icmp .ne 28, 3) := by decide +kernel
theorem dX6_readSpot_49 : decode cX6_readSpot 49 = .ok (.aload_n 0, 1) := by decide +kernel
theorem dX6_readSpot_50 : decode cX6_readSpot 50 = .ok (.getfield 12, 3) := by decide +kernel
theorem dX6_readSpot_53 : decode cX6_readSpot 53 = .ok (.dup, 1) := by decide +kernel
theorem dX6_readSpot_54 : decode cX6_readSpot 54 = .ok (.getfield 75, 3) := by decide +kernel
theorem dX6_readSpot_57 : decode cX6_readSpot 57 = .ok (.iconst 1, 1) := by decide +kernel
theorem dX6_readSpot_58 : decode cX6_readSpot 58 = .ok (.aload_n 0, 1) := by decide +kernel
theorem dX6_readSpot_59 : decode cX6_readSpot 59 = .ok (.getfield 12, 3) := by decide +kernel
theorem dX6_readSpot_62 : decode cX6_readSpot 62 = .ok (.getfield 65, 3) := by decide +kernel
theorem dX6_readSpot_65 : decode cX6_readSpot 65 = .ok (.ishl, 1) := by decide +kernel
theorem dX6_readSpot_66 : decode cX6_readSpot 66 = .ok (.ior, 1) := by decide +kernel
theorem dX6_readSpot_67 : decode cX6_readSpot 67 = .ok (.putfield 75, 3) := by decide +kernel
theorem dX6_readSpot_70 : decode cX6_readSpot 70 = .ok (.aload_n 1, 1) := by decide +kernel
theorem dX6_readSpot_71 : decode cX6_readSpot 71 = .ok (.invokevirtual 68, 3) := by decide +kernel
theorem dX6_readSpot_74 : decode cX6_readSpot 74 = .ok (.aload_n 0, 1) := by decide +kernel
theorem dX6_readSpot_75 : decode cX6_readSpot 75 = .ok (.getfield 12, 3) := by decide +kernel
theorem dX6_readSpot_78 : decode cX6_readSpot 78 = .ok (.dup, 1) := by decide +kernel
theorem dX6_readSpot_79 : decode cX6_readSpot 79 = .ok (.getfield 65, 3) := by decide +kernel
theorem dX6_readSpot_82 : decode cX6_readSpot 82 = .ok (.iconst 1, 1) := by decide +kernel
theorem dX6_readSpot_83 : decode cX6_readSpot 83 = .ok (.iadd, 1) := by decide +kernel
theorem dX6_readSpot_84 : decode cX6_readSpot 84 = .ok (.putfield 65, 3) := by decide +kernel
theorem dX6_readSpot_87 : decode cX6_readSpot 87 = .ok (.iconst 1, 1) := by decide +kernel
theorem dX6_readSpot_88 : decode cX6_readSpot 88 = .ok (.ireturn, 1) := by decide +kernel
def f_X6_readSpot_74 (w0 : XM) (w1 : XM) : Option (Int32 × XM × XM) :=
  x_lt (x_si w0 1 0 ((w0.1 1 0) + (1 : Int32))) (fun m1 =>
  some ((1 : Int32), m1, w1))
def f_X6_readSpot (v0 : XM) (v1 : XM) : Option (Int32 × XM × XM) :=
  if ((v0.1 1 0) : Int32) < (8 : Int32) then
  (x_bo (f_X8_advance v1) (fun y2 =>
  x_bo (f_X6_readNewName v0 y2 ((0 : Int32) + (v0.1 1 0))) (fun y3 =>
  if y3.1 = (0 : Int32) then
  (some ((0 : Int32), y3.2.1, y3.2.2))
  else (if ((y3.2.2.1 0 8) : Int32) = (1 : Int32) then
  (x_lt ((y3.2.1.1 1 5) ||| ((1 : Int32) <<< ((y3.2.1.1 1 0) &&& 31))) (fun y4 =>
  x_lt (x_si y3.2.1 1 5 y4) (fun m5 =>
  x_bo (f_X8_advance y3.2.2) (fun y6 =>
  f_X6_readSpot_74   m5 y6))))
  else (f_X6_readSpot_74   y3.2.1 y3.2.2)))))
  else (x_lt (f_X8_refuse v1 (4 : Int32)) (fun y7 =>
  some (y7.1, v0, y7.2)))
set_option maxRecDepth 100000 in
set_option maxHeartbeats 4000000 in
theorem w_X6_readSpot_74 {p : Program} {l : Launch} {e : Env} {s : State} {m : MethodId} {args : Array Value} {below : List Frame} {meth : Method} {c : Code} {D : va_G} {tc : Nat → ClassId} {aK aV : Nat → Nat} {A : Nat → Prop} {ad0 : Nat → Nat} {ad1 : Nat → Nat}  (X : Cx p s m args meth c cX6_readSpot 2 (some .boolean) RX6 D tc aK aV A [(shSurveyor, ad0), (shTape, ad1)])  {o : Int32 × XM × XM}  {w0 : XM} {w1 : XM}  (h : f_X6_readSpot_74   w0 w1 = some o) : aW p l e (x_Rm 4) s m args below meth c D tc A 2 [(shSurveyor, ad0), (shTape, ad1)] (some (.int o.1)) (x_Z o.1) [o.2.1, o.2.2] 74 [(0, .ref (ad0 0))] [] [w0, w1] := by
  unfold f_X6_readSpot_74 at h
  refine a_aload_n (pc := 74) X 0 dX6_readSpot_74 rfl rfl ?_
  refine a_getR (pc := 75) X 0 1 1 fl_RX6_12 rfl rfl rfl rfl rfl dX6_readSpot_75 ?_
  refine a_dup (pc := 78) X dX6_readSpot_78 rfl ?_
  refine a_getI (pc := 79) X 0 fl_RX6_65 rfl rfl rfl rfl dX6_readSpot_79 ?_
  refine a_iconst (pc := 82) X dX6_readSpot_82 q_ic_1 ?_
  refine a_iadd (pc := 83) X dX6_readSpot_83 ?_
  refine a_putI (pc := 84) X 0 fl_RX6_65 rfl rfl rfl rfl dX6_readSpot_84 ?_
  obtain ⟨m1, e_m1, h⟩ := x_lt_elim h
  refine a_nm (vs2 := [m1, w1]) (congrArg (fun q : XM => [q, w1]) e_m1) ?_
  refine a_iconst (pc := 87) X dX6_readSpot_87 q_ic_1 ?_
  have h := Option.some.inj h; subst h
  exact a_zret (pc := 88) X x_Z1 x_Z1 dX6_readSpot_88
set_option maxRecDepth 100000 in
set_option maxHeartbeats 4000000 in
theorem c_X6_readSpot {l : Launch}  {ad0 : Nat → Nat} {ad1 : Nat → Nat} {v0 v1 : XM}   {o : Int32 × XM × XM} (h : f_X6_readSpot v0 v1 = some o) : CT l yX6_readSpot cX6_readSpot 2 (some .boolean) 4 [(shSurveyor, ad0), (shTape, ad1)] [v0, v1] (fun aK => [.ref (ad0 0), .ref (ad1 0)]) (some (.int o.1)) (x_Z o.1) [o.2.1, o.2.2] := by
  refine CT_of (by decide) (fun _ => Nat.le_of_ble_eq_true rfl) ?_
  intro p e s m args below meth c D tc aK aV A X
  have X : Cx p s m args meth c cX6_readSpot 2 (some .boolean) RX6 D tc aK aV A [(shSurveyor, ad0), (shTape, ad1)] := X
  show aW p l e (x_Rm 4) s m args below meth c D tc A 2 [(shSurveyor, ad0), (shTape, ad1)] (some (.int o.1)) (x_Z o.1) [o.2.1, o.2.2] 0 [(0, .ref (ad0 0)), (1, .ref (ad1 0))] [] [v0, v1]
  unfold f_X6_readSpot at h
  refine a_aload_n (pc := 0) X 0 dX6_readSpot_0 rfl rfl ?_
  refine a_getR (pc := 1) X 0 1 1 fl_RX6_12 rfl rfl rfl rfl rfl dX6_readSpot_1 ?_
  refine a_getI (pc := 4) X 0 fl_RX6_65 rfl rfl rfl rfl dX6_readSpot_4 ?_
  refine a_bipush (pc := 7) X dX6_readSpot_7 q_bp_8 ?_
  refine a_icmp_lt (pc := 9) X 18 dX6_readSpot_9 rfl (fun c_9 => ?_) (fun c_9 => ?_)
  · have h := x_ifp c_9 h
    refine a_aload_n (pc := 18) X 1 dX6_readSpot_18 rfl rfl ?_
    obtain ⟨y2, e_y2, h⟩ := x_bo_elim h
    refine a_callV (pc := 19) (st2 := []) (vs2 := [v0, y2]) X [(1, 0, 4)] [some y2] 1 0 8 [] [] cv_RX6_68 (c_X8_advance (ad0 := ad1)  e_y2) rfl rfl rfl rfl rfl rfl rfl rfl rfl rfl rfl rfl rfl rfl rfl (Nat.le_of_ble_eq_true rfl) ⟨Nat.le_of_ble_eq_true rfl, Nat.le_of_ble_eq_true rfl⟩ dX6_readSpot_19 (fun _ => ?_)
    refine a_aload_n (pc := 22) X 0 dX6_readSpot_22 rfl rfl ?_
    refine a_aload_n (pc := 23) X 1 dX6_readSpot_23 rfl rfl ?_
    refine a_iconst (pc := 24) X dX6_readSpot_24 q_ic_0 ?_
    refine a_aload_n (pc := 25) X 0 dX6_readSpot_25 rfl rfl ?_
    refine a_getR (pc := 26) X 0 1 1 fl_RX6_12 rfl rfl rfl rfl rfl dX6_readSpot_26 ?_
    refine a_getI (pc := 29) X 0 fl_RX6_65 rfl rfl rfl rfl dX6_readSpot_29 ?_
    refine a_iadd (pc := 32) X dX6_readSpot_32 ?_
    obtain ⟨y3, e_y3, h⟩ := x_bo_elim h
    refine a_callV (pc := 33) (st2 := [.int y3.1]) (vs2 := [y3.2.1, y3.2.2]) X [(0, 0, 17), (1, 0, 4)] [some y3.2.1, some y3.2.2] 0 0 6 [.ref (ad1 0), .int ((0 : Int32) + (v0.1 1 0))] [] cv_RX6_71 (c_X6_readNewName (ad0 := ad0) (ad1 := ad1)  e_y3) rfl rfl rfl rfl rfl rfl rfl rfl rfl rfl rfl rfl rfl rfl rfl (Nat.le_of_ble_eq_true rfl) ⟨Nat.le_of_ble_eq_true rfl, Nat.le_of_ble_eq_true rfl⟩ dX6_readSpot_33 (fun z_33 => ?_)
    refine a_if_ne (pc := 36) X 41 dX6_readSpot_36 rfl (fun c_36 => ?_) (fun c_36 => ?_)
    · have h := x_ifn c_36 h
      refine a_aload_n (pc := 41) X 1 dX6_readSpot_41 rfl rfl ?_
      refine a_getI (pc := 42) X 1 fl_RX6_43 rfl rfl rfl rfl dX6_readSpot_42 ?_
      refine a_iconst (pc := 45) X dX6_readSpot_45 q_ic_1 ?_
      refine a_icmp_ne (pc := 46) X 74 dX6_readSpot_46 rfl (fun c_46 => ?_) (fun c_46 => ?_)
      · have h := x_ifn c_46 h
        refine a_sub [0] rfl ?_
        exact w_X6_readSpot_74 X     h
      · have h := x_ifp c_46 h
        refine a_aload_n (pc := 49) X 0 dX6_readSpot_49 rfl rfl ?_
        refine a_getR (pc := 50) X 0 1 1 fl_RX6_12 rfl rfl rfl rfl rfl dX6_readSpot_50 ?_
        refine a_dup (pc := 53) X dX6_readSpot_53 rfl ?_
        refine a_getI (pc := 54) X 0 fl_RX6_75 rfl rfl rfl rfl dX6_readSpot_54 ?_
        refine a_iconst (pc := 57) X dX6_readSpot_57 q_ic_1 ?_
        refine a_aload_n (pc := 58) X 0 dX6_readSpot_58 rfl rfl ?_
        refine a_getR (pc := 59) X 0 1 1 fl_RX6_12 rfl rfl rfl rfl rfl dX6_readSpot_59 ?_
        refine a_getI (pc := 62) X 0 fl_RX6_65 rfl rfl rfl rfl dX6_readSpot_62 ?_
        refine a_ishl (pc := 65) X dX6_readSpot_65 ?_
        refine a_ior (pc := 66) X dX6_readSpot_66 ?_
        obtain ⟨y4, e_y4, h⟩ := x_lt_elim h
        refine a_ni e_y4 ?_
        refine a_putI (pc := 67) X 0 fl_RX6_75 rfl rfl rfl rfl dX6_readSpot_67 ?_
        obtain ⟨m5, e_m5, h⟩ := x_lt_elim h
        refine a_nm (vs2 := [m5, y3.2.2]) (congrArg (fun q : XM => [q, y3.2.2]) e_m5) ?_
        refine a_aload_n (pc := 70) X 1 dX6_readSpot_70 rfl rfl ?_
        obtain ⟨y6, e_y6, h⟩ := x_bo_elim h
        refine a_callV (pc := 71) (st2 := []) (vs2 := [m5, y6]) X [(1, 0, 4)] [some y6] 1 0 8 [] [] cv_RX6_68 (c_X8_advance (ad0 := ad1)  e_y6) rfl rfl rfl rfl rfl rfl rfl rfl rfl rfl rfl rfl rfl rfl rfl (Nat.le_of_ble_eq_true rfl) ⟨Nat.le_of_ble_eq_true rfl, Nat.le_of_ble_eq_true rfl⟩ dX6_readSpot_71 (fun _ => ?_)
        refine a_sub [0] rfl ?_
        exact w_X6_readSpot_74 X     h
    · have h := x_ifp c_36 h
      refine a_iconst (pc := 39) X dX6_readSpot_39 q_ic_0 ?_
      have h := Option.some.inj h; subst h
      exact a_zret (pc := 40) X x_Z0 x_Z0 dX6_readSpot_40
  · have h := x_ifn c_9 h
    refine a_aload_n (pc := 12) X 1 dX6_readSpot_12 rfl rfl ?_
    refine a_iconst (pc := 13) X dX6_readSpot_13 q_ic_4 ?_
    obtain ⟨y7, e_y7, h⟩ := x_lt_elim h
    refine a_callV (pc := 14) (st2 := [.int y7.1]) (vs2 := [v0, y7.2]) X [(1, 0, 4)] [some y7.2] 1 0 8 [.int (4 : Int32)] [] cv_RX6_61 (c_X8_refuse (ad0 := ad1)  e_y7) rfl rfl rfl rfl rfl rfl rfl rfl rfl rfl rfl rfl rfl rfl rfl (Nat.le_of_ble_eq_true rfl) ⟨Nat.le_of_ble_eq_true rfl, Nat.le_of_ble_eq_true rfl⟩ dX6_readSpot_14 (fun z_14 => ?_)
    have h := Option.some.inj h; subst h
    exact a_zret (pc := 17) X z_14 z_14 dX6_readSpot_17
theorem dX9_areJoined_0 : decode cX9_areJoined 0 = .ok (.iconst 0, 1) := by decide +kernel
theorem dX9_areJoined_1 : decode cX9_areJoined 1 = .ok (.istore_n 3, 1) := by decide +kernel
theorem dX9_areJoined_2 : decode cX9_areJoined 2 = .ok (.iload_n 3, 1) := by decide +kernel
theorem dX9_areJoined_3 : decode cX9_areJoined 3 = .ok (.aload_n 0, 1) := by decide +kernel
theorem dX9_areJoined_4 : decode cX9_areJoined 4 = .ok (.getfield 49, 3) := by decide +kernel
theorem dX9_areJoined_7 : decode cX9_areJoined 7 = .ok (.if_icmp .ge 21, 3) := by decide +kernel
theorem dX9_areJoined_10 : decode cX9_areJoined 10 = .ok (.aload_n 0, 1) := by decide +kernel
theorem dX9_areJoined_11 : decode cX9_areJoined 11 = .ok (.iload_n 3, 1) := by decide +kernel
theorem dX9_areJoined_12 : decode cX9_areJoined 12 = .ok (.iload_n 1, 1) := by decide +kernel
theorem dX9_areJoined_13 : decode cX9_areJoined 13 = .ok (.invokevirtual 73, 3) := by decide +kernel
theorem dX9_areJoined_16 : decode cX9_areJoined 16 = .ok (.iload_n 2, 1) := by decide +kernel
theorem dX9_areJoined_17 : decode cX9_areJoined 17 = .ok (.if_icmp .ne 5, 3) := by decide +kernel
theorem dX9_areJoined_20 : decode cX9_areJoined 20 = .ok (.iconst 1, 1) := by decide +kernel
theorem dX9_areJoined_21 : decode cX9_areJoined 21 = .ok (.ireturn, 1) := by decide +kernel
theorem dX9_areJoined_22 : decode cX9_areJoined 22 = .ok (.iinc 3 1, 3) := by decide +kernel
theorem dX9_areJoined_25 : decode cX9_areJoined 25 = .ok (.goto (-23), 3) := by decide +kernel
theorem dX9_areJoined_28 : decode cX9_areJoined 28 = .ok (.iconst 0, 1) := by decide +kernel
theorem dX9_areJoined_29 : decode cX9_areJoined 29 = .ok (.ireturn, 1) := by decide +kernel
def f_X9_areJoined_2 (v0 : XM) (k2 : Int32 → Int32 → Int32 → Option (Int32)) (l1 : Int32) (l2 : Int32) (l3 : Int32) : Option (Int32) :=
  if ((v0.1 0 1) : Int32) ≤ l3 then
  (some ((0 : Int32) : Int32))
  else (x_lt (f_X9_across v0 l3 l1) (fun y1 =>
  if (y1 : Int32) = l2 then
  (some ((1 : Int32) : Int32))
  else (k2 l1 l2 (l3 + 1))))
def f_X9_areJoined (v0 : XM) (x0 : Int32) (x1 : Int32) : Option (Int32) :=
  x_lp (φ := Int32 → Int32 → Int32 → Option (Int32)) (fun _ _ _ => none) (f_X9_areJoined_2 v0 ) x_NN x0 x1 (0 : Int32)
set_option maxRecDepth 100000 in
set_option maxHeartbeats 4000000 in
theorem w_X9_areJoined_2 {p : Program} {l : Launch} {e : Env} {s : State} {m : MethodId} {args : Array Value} {below : List Frame} {meth : Method} {c : Code} {D : va_G} {tc : Nat → ClassId} {aK aV : Nat → Nat} {A : Nat → Prop} {ad0 : Nat → Nat} {v0 : XM} (X : Cx p s m args meth c cX9_areJoined 4 (some .boolean) RX9 D tc aK aV A [(shValley, ad0)])  {o : Int32}  : ∀ (n : Nat), ∀ (l1 : Int32) (l2 : Int32) (l3 : Int32), x_lp (φ := Int32 → Int32 → Int32 → Option (Int32)) (fun _ _ _ => none) (f_X9_areJoined_2 v0 ) n l1 l2 l3 = some o → aW p l e (x_Rm 2) s m args below meth c D tc A 4 [(shValley, ad0)] (some (.int o)) (x_Z o) [v0] 2 [(0, .ref (ad0 0)), (1, .int l1), (2, .int l2), (3, .int l3)] [] [v0] := by
  intro n
  induction n with
  | zero => intro l1 l2 l3 h; exact absurd h (fun q => by cases q)
  | succ n ih =>
    intro l1 l2 l3 h
    have h : f_X9_areJoined_2 v0  (x_lp (φ := Int32 → Int32 → Int32 → Option (Int32)) (fun _ _ _ => none) (f_X9_areJoined_2 v0 ) n) l1 l2 l3 = some o := h
    generalize x_lp (φ := Int32 → Int32 → Int32 → Option (Int32)) (fun _ _ _ => none) (f_X9_areJoined_2 v0 ) n = k2 at h ih
    have hk2 := ih
    unfold f_X9_areJoined_2 at h
    refine a_iload_n (pc := 2) X 3 dX9_areJoined_2 rfl rfl ?_
    refine a_aload_n (pc := 3) X 0 dX9_areJoined_3 rfl rfl ?_
    refine a_getI (pc := 4) X 0 fl_RX9_49 rfl rfl rfl rfl dX9_areJoined_4 ?_
    refine a_icmp_ge (pc := 7) X 28 dX9_areJoined_7 rfl (fun c_7 => ?_) (fun c_7 => ?_)
    · have h := x_ifp c_7 h
      refine a_iconst (pc := 28) X dX9_areJoined_28 q_ic_0 ?_
      have h := Option.some.inj h; subst h
      exact a_zret (pc := 29) X x_Z0 x_Z0 dX9_areJoined_29
    · have h := x_ifn c_7 h
      refine a_aload_n (pc := 10) X 0 dX9_areJoined_10 rfl rfl ?_
      refine a_iload_n (pc := 11) X 3 dX9_areJoined_11 rfl rfl ?_
      refine a_iload_n (pc := 12) X 1 dX9_areJoined_12 rfl rfl ?_
      obtain ⟨y1, e_y1, h⟩ := x_lt_elim h
      refine a_callV (pc := 13) (st2 := [.int y1]) (vs2 := [v0]) X [(0, 0, 16)] [none] 0 0 9 [.int l3, .int l1] [] cv_RX9_73 (c_X9_across (ad0 := ad0)  e_y1) rfl rfl rfl rfl rfl rfl rfl rfl rfl rfl rfl rfl rfl rfl rfl (Nat.le_of_ble_eq_true rfl) ⟨Nat.le_of_ble_eq_true rfl, Nat.le_of_ble_eq_true rfl⟩ dX9_areJoined_13 (fun _ => ?_)
      refine a_iload_n (pc := 16) X 2 dX9_areJoined_16 rfl rfl ?_
      refine a_icmp_ne (pc := 17) X 22 dX9_areJoined_17 rfl (fun c_17 => ?_) (fun c_17 => ?_)
      · have h := x_ifn c_17 h
        refine a_iinc (pc := 22) X 3 [(3, .int (l3 + 1)), (0, .ref (ad0 0)), (1, .int l1), (2, .int l2)] dX9_areJoined_22 rfl (congrArg (HAdd.hAdd l3) q_ic_1) (by decide) rfl ?_
        refine a_goto (pc := 25) X 2 dX9_areJoined_25 rfl ?_
        refine a_sub [1, 2, 3, 0] rfl ?_
        exact hk2 _ _ _ h
      · have h := x_ifp c_17 h
        refine a_iconst (pc := 20) X dX9_areJoined_20 q_ic_1 ?_
        have h := Option.some.inj h; subst h
        exact a_zret (pc := 21) X x_Z1 x_Z1 dX9_areJoined_21
set_option maxRecDepth 100000 in
set_option maxHeartbeats 4000000 in
theorem c_X9_areJoined {l : Launch}  {ad0 : Nat → Nat} {v0 : XM} {x0 : Int32} {x1 : Int32}  {o : Int32} (h : f_X9_areJoined v0 x0 x1 = some o) : CT l yX9_areJoined cX9_areJoined 4 (some .boolean) 2 [(shValley, ad0)] [v0] (fun aK => [.ref (ad0 0), .int x0, .int x1]) (some (.int o)) (x_Z o) [v0] := by
  refine CT_of (by decide) (fun _ => Nat.le_of_ble_eq_true rfl) ?_
  intro p e s m args below meth c D tc aK aV A X
  have X : Cx p s m args meth c cX9_areJoined 4 (some .boolean) RX9 D tc aK aV A [(shValley, ad0)] := X
  show aW p l e (x_Rm 2) s m args below meth c D tc A 4 [(shValley, ad0)] (some (.int o)) (x_Z o) [v0] 0 [(0, .ref (ad0 0)), (1, .int x0), (2, .int x1)] [] [v0]
  unfold f_X9_areJoined at h
  refine a_iconst (pc := 0) X dX9_areJoined_0 q_ic_0 ?_
  refine a_istore_n (pc := 1) X [(3, .int (0 : Int32)), (0, .ref (ad0 0)), (1, .int x0), (2, .int x1)] dX9_areJoined_1 rfl (by decide) rfl ?_
  refine a_sub [1, 2, 3, 0] rfl ?_
  exact w_X9_areJoined_2 X    x_NN _ _ _ h
theorem dX6_readFold_0 : decode cX6_readFold 0 = .ok (.aload_n 0, 1) := by decide +kernel
theorem dX6_readFold_1 : decode cX6_readFold 1 = .ok (.getfield 12, 3) := by decide +kernel
theorem dX6_readFold_4 : decode cX6_readFold 4 = .ok (.getfield 78, 3) := by decide +kernel
theorem dX6_readFold_7 : decode cX6_readFold 7 = .ok (.bipush 12, 2) := by decide +kernel
theorem dX6_readFold_9 : decode cX6_readFold 9 = .ok (.if_icmp .lt 9, 3) := by decide +kernel
theorem dX6_readFold_12 : decode cX6_readFold 12 = .ok (.aload_n 1, 1) := by decide +kernel
theorem dX6_readFold_13 : decode cX6_readFold 13 = .ok (.iconst 4, 1) := by decide +kernel
theorem dX6_readFold_14 : decode cX6_readFold 14 = .ok (.invokevirtual 61, 3) := by decide +kernel
theorem dX6_readFold_17 : decode cX6_readFold 17 = .ok (.ireturn, 1) := by decide +kernel
theorem dX6_readFold_18 : decode cX6_readFold 18 = .ok (.aload_n 1, 1) := by decide +kernel
theorem dX6_readFold_19 : decode cX6_readFold 19 = .ok (.invokevirtual 68, 3) := by decide +kernel
theorem dX6_readFold_22 : decode cX6_readFold 22 = .ok (.aload_n 1, 1) := by decide +kernel
theorem dX6_readFold_23 : decode cX6_readFold 23 = .ok (.aload_n 0, 1) := by decide +kernel
theorem dX6_readFold_24 : decode cX6_readFold 24 = .ok (.getfield 12, 3) := by decide +kernel
theorem dX6_readFold_27 : decode cX6_readFold 27 = .ok (.iconst 0, 1) := by decide +kernel
theorem dX6_readFold_28 : decode cX6_readFold 28 = .ok (.bipush 8, 2) := by decide +kernel
theorem dX6_readFold_30 : decode cX6_readFold 30 = .ok (.invokevirtual 81, 3) := by decide +kernel
theorem dX6_readFold_33 : decode cX6_readFold 33 = .ok (.istore_n 2, 1) := by decide +kernel
theorem dX6_readFold_34 : decode cX6_readFold 34 = .ok (.iload_n 2, 1) := by decide +kernel
theorem dX6_readFold_35 : decode cX6_readFold 35 = .ok (.iconst (-1), 1) := by decide +kernel
theorem dX6_readFold_36 : decode cX6_readFold 36 = .ok (.if_icmp .ne 5, 3) := by decide +kernel
theorem dX6_readFold_39 : decode cX6_readFold 39 = .ok (.iconst 0, 1) := by decide +kernel
theorem dX6_readFold_40 : decode cX6_readFold 40 = .ok (.ireturn, 1) := by decide +kernel
theorem dX6_readFold_41 : decode cX6_readFold 41 = .ok (.aload_n 1, 1) := by decide +kernel
theorem dX6_readFold_42 : decode cX6_readFold 42 = .ok (.getfield 85, 3) := by decide +kernel
theorem dX6_readFold_45 : decode cX6_readFold 45 = .ok (.istore_n 3, 1) := by decide +kernel
theorem dX6_readFold_46 : decode cX6_readFold 46 = .ok (.aload_n 1, 1) := by decide +kernel
theorem dX6_readFold_47 : decode cX6_readFold 47 = .ok (.aload_n 0, 1) := by decide +kernel
theorem dX6_readFold_48 : decode cX6_readFold 48 = .ok (.getfield 12, 3) := by decide +kernel
theorem dX6_readFold_51 : decode cX6_readFold 51 = .ok (.iconst 0, 1) := by decide +kernel
theorem dX6_readFold_52 : decode cX6_readFold 52 = .ok (.bipush 8, 2) := by decide +kernel
theorem dX6_readFold_54 : decode cX6_readFold 54 = .ok (.invokevirtual 81, 3) := by decide +kernel
theorem dX6_readFold_57 : decode cX6_readFold 57 = .ok (.istore 4, 2) := by decide +kernel
theorem dX6_readFold_59 : decode cX6_readFold 59 = .ok (.iload 4, 2) := by decide +kernel
theorem dX6_readFold_61 : decode cX6_readFold 61 = .ok (.iconst (-1), 1) := by decide +kernel
theorem dX6_readFold_62 : decode cX6_readFold 62 = .ok (.if_icmp .ne 5, 3) := by decide +kernel
theorem dX6_readFold_65 : decode cX6_readFold 65 = .ok (.iconst 0, 1) := by decide +kernel
theorem dX6_readFold_66 : decode cX6_readFold 66 = .ok (.ireturn, 1) := by decide +kernel
theorem dX6_readFold_67 : decode cX6_readFold 67 = .ok (.iload_n 2, 1) := by decide +kernel
theorem dX6_readFold_68 : decode cX6_readFold 68 = .ok (.iload 4, 2) := by decide +kernel
theorem dX6_readFold_70 : decode cX6_readFold 70 = .ok (.if_icmp .eq 16, 3) := by decide +kernel
theorem dX6_readFold_73 : decode cX6_readFold 73 = .ok (.aload_n 0, 1) := by decide +kernel
theorem dX6_readFold_74 : decode cX6_readFold 74 = .ok (.getfield 12, 3) := by decide +kernel
theorem dX6_readFold_77 : decode cX6_readFold 77 = .ok (.iload_n 2, 1) := by decide +kernel
theorem dX6_readFold_78 : decode cX6_readFold 78 = .ok (.iload 4, 2) := by decide +kernel
theorem dX6_readFold_80 : decode cX6_readFold 80 = .ok (.invokevirtual 88, 3) := by decide +kernel
theorem dX6_readFold_83 : decode cX6_readFold 83 = .ok (.ifCond .eq 10, 3) := by decide +kernel
theorem dX6_readFold_86 : decode cX6_readFold 86 = .ok (.aload_n 1, 1) := by decide +kernel
theorem dX6_readFold_87 : decode cX6_readFold 87 = .ok (.iconst 3, 1) := by decide +kernel
theorem dX6_readFold_88 : decode cX6_readFold 88 = .ok (.iload_n 3, 1) := by decide +kernel
theorem dX6_readFold_89 : decode cX6_readFold 89 = .ok (.invokevirtual 92, 3) := by decide +kernel
theorem dX6_readFold_92 : decode cX6_readFold 92 = .ok (.ireturn, 1) := by decide +kernel
theorem dX6_readFold_93 : decode cX6_readFold 93 = .ok (.aload_n 1, 1) := by decide +kernel
theorem dX6_readFold_94 : decode cX6_readFold 94 = .ok (.iconst 1, 1) := by decide +kernel
theorem dX6_readFold_95 : decode cX6_readFold 95 = .ok (.bipush 9, 2) := by decide +kernel
theorem dX6_readFold_97 : decode cX6_readFold 97 = .ok (.invokevirtual 95, 3) := by decide +kernel
theorem dX6_readFold_100 : decode cX6_readFold 100 = .ok (.istore 5, 2) := by decide +kernel
theorem dX6_readFold_102 : decode cX6_readFold 102 = .ok (.iload 5, 2) := by decide +kernel
theorem dX6_readFold_104 : decode cX6_readFold 104 = .ok (.iconst (-1), 1) := by decide +kernel
theorem dX6_readFold_105 : decode cX6_readFold 105 = .ok (.if_icmp .ne 5, 3) := by decide +kernel
theorem dX6_readFold_108 : decode cX6_readFold 108 = .ok (.iconst 0, 1) := by decide +kernel
theorem dX6_readFold_109 : decode cX6_readFold 109 = .ok (.ireturn, 1) := by decide +kernel
theorem dX6_readFold_110 : decode cX6_readFold 110 = .ok (.aload_n 1, 1) := by decide +kernel
theorem dX6_readFold_111 : decode cX6_readFold 111 = .ok (.invokevirtual 99, 3) := by decide +kernel
theorem dX6_readFold_114 : decode cX6_readFold 114 = .ok (.istore 6, 2) := by decide +kernel
theorem dX6_readFold_116 : decode cX6_readFold 116 = .ok (.iload 6, 2) := by decide +kernel
theorem dX6_readFold_118 : decode cX6_readFold 118 = .ok (.iconst (-1), 1) := by decide +kernel
theorem dX6_readFold_119 : decode cX6_readFold 119 = .ok (.if_icmp .ne 5, 3) := by decide +kernel
theorem dX6_readFold_122 : decode cX6_readFold 122 = .ok (.iconst 0, 1) := by decide +kernel
theorem dX6_readFold_123 : decode cX6_readFold 123 = .ok (.ireturn, 1) := by decide +kernel
theorem dX6_readFold_124 : decode cX6_readFold 124 = .ok (.aload_n 0, 1) := by decide +kernel
theorem dX6_readFold_125 : decode cX6_readFold 125 = .ok (.getfield 12, 3) := by decide +kernel
theorem dX6_readFold_128 : decode cX6_readFold 128 = .ok (.getfield 103, 3) := by decide +kernel
theorem dX6_readFold_131 : decode cX6_readFold 131 = .ok (.aload_n 0, 1) := by decide +kernel
theorem dX6_readFold_132 : decode cX6_readFold 132 = .ok (.getfield 12, 3) := by decide +kernel
theorem dX6_readFold_135 : decode cX6_readFold 135 = .ok (.getfield 78, 3) := by decide +kernel
theorem dX6_readFold_138 : decode cX6_readFold 138 = .ok (.iload_n 2, 1) := by decide +kernel
theorem dX6_readFold_139 : decode cX6_readFold 139 = .ok (.invokevirtual 107, 3) := by decide +kernel
theorem dX6_readFold_142 : decode cX6_readFold 142 = .ok (.aload_n 0, 1) := by decide +kernel
theorem dX6_readFold_143 : decode cX6_readFold 143 = .ok (.getfield 12, 3) := by decide +kernel
theorem dX6_readFold_146 : decode cX6_readFold 146 = .ok (.getfield 113, 3) := by decide +kernel
theorem dX6_readFold_149 : decode cX6_readFold 149 = .ok (.aload_n 0, 1) := by decide +kernel
theorem dX6_readFold_150 : decode cX6_readFold 150 = .ok (.getfield 12, 3) := by decide +kernel
theorem dX6_readFold_153 : decode cX6_readFold 153 = .ok (.getfield 78, 3) := by decide +kernel
theorem dX6_readFold_156 : decode cX6_readFold 156 = .ok (.iload 4, 2) := by decide +kernel
theorem dX6_readFold_158 : decode cX6_readFold 158 = .ok (.invokevirtual 107, 3) := by decide +kernel
theorem dX6_readFold_161 : decode cX6_readFold 161 = .ok (.aload_n 0, 1) := by decide +kernel
theorem dX6_readFold_162 : decode cX6_readFold 162 = .ok (.getfield 12, 3) := by decide +kernel
theorem dX6_readFold_165 : decode cX6_readFold 165 = .ok (.getfield 116, 3) := by decide +kernel
theorem dX6_readFold_168 : decode cX6_readFold 168 = .ok (.aload_n 0, 1) := by decide +kernel
theorem dX6_readFold_169 : decode cX6_readFold 169 = .ok (.getfield 12, 3) := by decide +kernel
theorem dX6_readFold_172 : decode cX6_readFold 172 = .ok (.getfield 78, 3) := by decide +kernel
theorem dX6_readFold_175 : decode cX6_readFold 175 = .ok (.iload 5, 2) := by decide +kernel
theorem dX6_readFold_177 : decode cX6_readFold 177 = .ok (.invokevirtual 107, 3) := by decide +kernel
theorem dX6_readFold_180 : decode cX6_readFold 180 = .ok (.aload_n 0, 1) := by decide +kernel
theorem dX6_readFold_181 : decode cX6_readFold 181 = .ok (.getfield 12, 3) := by decide +kernel
theorem dX6_readFold_184 : decode cX6_readFold 184 = .ok (.getfield 119, 3) := by decide +kernel
theorem dX6_readFold_187 : decode cX6_readFold 187 = .ok (.aload_n 0, 1) := by decide +kernel
theorem dX6_readFold_188 : decode cX6_readFold 188 = .ok (.getfield 12, 3) := by decide +kernel
theorem dX6_readFold_191 : decode cX6_readFold 191 = .ok (.getfield 78, 3) := by decide +kernel
theorem dX6_readFold_194 : decode cX6_readFold 194 = .ok (.iload 6, 2) := by decide +kernel
theorem dX6_readFold_196 : decode cX6_readFold 196 = .ok (.invokevirtual 107, 3) := by decide +kernel
theorem dX6_readFold_199 : decode cX6_readFold 199 = .ok (.aload_n 0, 1) := by decide +kernel
theorem dX6_readFold_200 : decode cX6_readFold 200 = .ok (.getfield 12, 3) := by decide +kernel
theorem dX6_readFold_203 : decode cX6_readFold 203 = .ok (.dup, 1) := by decide +kernel
theorem dX6_readFold_204 : decode cX6_readFold 204 = .ok (.getfield 78, 3) := by decide +kernel
theorem dX6_readFold_207 : decode cX6_readFold 207 = .ok (.iconst 1, 1) := by decide +kernel
theorem dX6_readFold_208 : decode cX6_readFold 208 = .ok (.iadd, 1) := by decide +kernel
theorem dX6_readFold_209 : decode cX6_readFold 209 = .ok (.putfield 78, 3) := by decide +kernel
theorem dX6_readFold_212 : decode cX6_readFold 212 = .ok (.iconst 1, 1) := by decide +kernel
theorem dX6_readFold_213 : decode cX6_readFold 213 = .ok (.ireturn, 1) := by decide +kernel
def f_X6_readFold_86 (w0 : XM) (w1 : XM) (l3 : Int32) : Option (Int32 × XM × XM) :=
  x_lt (f_X8_refuseAt w1 (3 : Int32) l3) (fun y1 =>
  some (y1.1, w0, y1.2))
def f_X6_readFold (v0 : XM) (v1 : XM) : Option (Int32 × XM × XM) :=
  if ((v0.1 1 1) : Int32) < (12 : Int32) then
  (x_bo (f_X8_advance v1) (fun y2 =>
  x_bo (f_X8_takeNamed y2 (x_sub v0 1) (0 : Int32) (8 : Int32)) (fun y3 =>
  if (y3.1 : Int32) = (-1 : Int32) then
  (some ((0 : Int32), v0, y3.2))
  else (x_bo (f_X8_takeNamed y3.2 (x_sub v0 1) (0 : Int32) (8 : Int32)) (fun y4 =>
  if (y4.1 : Int32) = (-1 : Int32) then
  (some ((0 : Int32), v0, y4.2))
  else (if (y3.1 : Int32) = y4.1 then
  (f_X6_readFold_86   v0 y4.2 (y3.2.1 0 5))
  else (x_bo (f_X9_areJoined (x_sub v0 1) y3.1 y4.1) (fun y5 =>
  if y5 = (0 : Int32) then
  (x_bo (f_X8_takeNumber y4.2 (1 : Int32) (9 : Int32)) (fun y6 =>
  if (y6.1 : Int32) = (-1 : Int32) then
  (some ((0 : Int32), v0, y6.2))
  else (x_bo (f_X8_takeKind y6.2) (fun y7 =>
  if (y7.1 : Int32) = (-1 : Int32) then
  (some ((0 : Int32), v0, y7.2))
  else (x_lt (r_put 12 (x_sub v0 2) (v0.1 1 1) y3.1) (fun y8 =>
  x_lt (x_put v0 2 2 y8) (fun m9 =>
  x_lt (r_put 12 (x_sub m9 4) (m9.1 1 1) y4.1) (fun y10 =>
  x_lt (x_put m9 4 2 y10) (fun m11 =>
  x_lt (r_put 12 (x_sub m11 6) (m11.1 1 1) y6.1) (fun y12 =>
  x_lt (x_put m11 6 2 y12) (fun m13 =>
  x_lt (r_put 12 (x_sub m13 8) (m13.1 1 1) y7.1) (fun y14 =>
  x_lt (x_put m13 8 2 y14) (fun m15 =>
  x_lt (x_si m15 1 1 ((m15.1 1 1) + (1 : Int32))) (fun m16 =>
  some ((1 : Int32), m16, y7.2)))))))))))))))
  else (f_X6_readFold_86   v0 y4.2 (y3.2.1 0 5))))))))))
  else (x_lt (f_X8_refuse v1 (4 : Int32)) (fun y17 =>
  some (y17.1, v0, y17.2)))
set_option maxRecDepth 100000 in
set_option maxHeartbeats 4000000 in
theorem w_X6_readFold_86 {p : Program} {l : Launch} {e : Env} {s : State} {m : MethodId} {args : Array Value} {below : List Frame} {meth : Method} {c : Code} {D : va_G} {tc : Nat → ClassId} {aK aV : Nat → Nat} {A : Nat → Prop} {ad0 : Nat → Nat} {ad1 : Nat → Nat}  (X : Cx p s m args meth c cX6_readFold 7 (some .boolean) RX6 D tc aK aV A [(shSurveyor, ad0), (shTape, ad1)])  {o : Int32 × XM × XM}  {w0 : XM} {w1 : XM} {l3 : Int32}  (h : f_X6_readFold_86   w0 w1 l3 = some o) : aW p l e (x_Rm 4) s m args below meth c D tc A 7 [(shSurveyor, ad0), (shTape, ad1)] (some (.int o.1)) (x_Z o.1) [o.2.1, o.2.2] 86 [(1, .ref (ad1 0)), (3, .int l3)] [] [w0, w1] := by
  unfold f_X6_readFold_86 at h
  refine a_aload_n (pc := 86) X 0 dX6_readFold_86 rfl rfl ?_
  refine a_iconst (pc := 87) X dX6_readFold_87 q_ic_3 ?_
  refine a_iload_n (pc := 88) X 1 dX6_readFold_88 rfl rfl ?_
  obtain ⟨y1, e_y1, h⟩ := x_lt_elim h
  refine a_callV (pc := 89) (st2 := [.int y1.1]) (vs2 := [w0, y1.2]) X [(1, 0, 4)] [some y1.2] 1 0 8 [.int (3 : Int32), .int l3] [] cv_RX6_92 (c_X8_refuseAt (ad0 := ad1)  e_y1) rfl rfl rfl rfl rfl rfl rfl rfl rfl rfl rfl rfl rfl rfl rfl (Nat.le_of_ble_eq_true rfl) ⟨Nat.le_of_ble_eq_true rfl, Nat.le_of_ble_eq_true rfl⟩ dX6_readFold_89 (fun z_89 => ?_)
  have h := Option.some.inj h; subst h
  exact a_zret (pc := 92) X z_89 z_89 dX6_readFold_92
set_option maxRecDepth 100000 in
set_option maxHeartbeats 4000000 in
theorem c_X6_readFold {l : Launch}  {ad0 : Nat → Nat} {ad1 : Nat → Nat} {v0 v1 : XM}   {o : Int32 × XM × XM} (h : f_X6_readFold v0 v1 = some o) : CT l yX6_readFold cX6_readFold 7 (some .boolean) 4 [(shSurveyor, ad0), (shTape, ad1)] [v0, v1] (fun aK => [.ref (ad0 0), .ref (ad1 0)]) (some (.int o.1)) (x_Z o.1) [o.2.1, o.2.2] := by
  refine CT_of (by decide) (fun _ => Nat.le_of_ble_eq_true rfl) ?_
  intro p e s m args below meth c D tc aK aV A X
  have X : Cx p s m args meth c cX6_readFold 7 (some .boolean) RX6 D tc aK aV A [(shSurveyor, ad0), (shTape, ad1)] := X
  show aW p l e (x_Rm 4) s m args below meth c D tc A 7 [(shSurveyor, ad0), (shTape, ad1)] (some (.int o.1)) (x_Z o.1) [o.2.1, o.2.2] 0 [(0, .ref (ad0 0)), (1, .ref (ad1 0))] [] [v0, v1]
  unfold f_X6_readFold at h
  refine a_aload_n (pc := 0) X 0 dX6_readFold_0 rfl rfl ?_
  refine a_getR (pc := 1) X 0 1 1 fl_RX6_12 rfl rfl rfl rfl rfl dX6_readFold_1 ?_
  refine a_getI (pc := 4) X 0 fl_RX6_78 rfl rfl rfl rfl dX6_readFold_4 ?_
  refine a_bipush (pc := 7) X dX6_readFold_7 q_bp_12 ?_
  refine a_icmp_lt (pc := 9) X 18 dX6_readFold_9 rfl (fun c_9 => ?_) (fun c_9 => ?_)
  · have h := x_ifp c_9 h
    refine a_aload_n (pc := 18) X 1 dX6_readFold_18 rfl rfl ?_
    obtain ⟨y2, e_y2, h⟩ := x_bo_elim h
    refine a_callV (pc := 19) (st2 := []) (vs2 := [v0, y2]) X [(1, 0, 4)] [some y2] 1 0 8 [] [] cv_RX6_68 (c_X8_advance (ad0 := ad1)  e_y2) rfl rfl rfl rfl rfl rfl rfl rfl rfl rfl rfl rfl rfl rfl rfl (Nat.le_of_ble_eq_true rfl) ⟨Nat.le_of_ble_eq_true rfl, Nat.le_of_ble_eq_true rfl⟩ dX6_readFold_19 (fun _ => ?_)
    refine a_aload_n (pc := 22) X 1 dX6_readFold_22 rfl rfl ?_
    refine a_aload_n (pc := 23) X 0 dX6_readFold_23 rfl rfl ?_
    refine a_getR (pc := 24) X 0 1 1 fl_RX6_12 rfl rfl rfl rfl rfl dX6_readFold_24 ?_
    refine a_iconst (pc := 27) X dX6_readFold_27 q_ic_0 ?_
    refine a_bipush (pc := 28) X dX6_readFold_28 q_bp_8 ?_
    obtain ⟨y3, e_y3, h⟩ := x_bo_elim h
    refine a_callV (pc := 30) (st2 := [.int y3.1]) (vs2 := [v0, y3.2]) X [(1, 0, 4), (0, 1, 16)] [some y3.2, none] 1 0 8 [.ref (ad0 1), .int (0 : Int32), .int (8 : Int32)] [] cv_RX6_81 (c_X8_takeNamed (ad0 := ad1) (ad1 := (fun i => ad0 (i + 1)))  e_y3) rfl rfl rfl rfl rfl rfl rfl rfl rfl rfl rfl rfl rfl rfl rfl (Nat.le_of_ble_eq_true rfl) ⟨Nat.le_of_ble_eq_true rfl, Nat.le_of_ble_eq_true rfl⟩ dX6_readFold_30 (fun _ => ?_)
    refine a_istore_n (pc := 33) X [(2, .int y3.1), (0, .ref (ad0 0)), (1, .ref (ad1 0))] dX6_readFold_33 rfl (by decide) rfl ?_
    refine a_iload_n (pc := 34) X 0 dX6_readFold_34 rfl rfl ?_
    refine a_iconst (pc := 35) X dX6_readFold_35 q_ic_m1 ?_
    refine a_icmp_ne (pc := 36) X 41 dX6_readFold_36 rfl (fun c_36 => ?_) (fun c_36 => ?_)
    · have h := x_ifn c_36 h
      refine a_aload_n (pc := 41) X 2 dX6_readFold_41 rfl rfl ?_
      refine a_getI (pc := 42) X 1 fl_RX6_85 rfl rfl rfl rfl dX6_readFold_42 ?_
      refine a_istore_n (pc := 45) X [(3, .int (y3.2.1 0 5)), (2, .int y3.1), (0, .ref (ad0 0)), (1, .ref (ad1 0))] dX6_readFold_45 rfl (by decide) rfl ?_
      refine a_aload_n (pc := 46) X 3 dX6_readFold_46 rfl rfl ?_
      refine a_aload_n (pc := 47) X 2 dX6_readFold_47 rfl rfl ?_
      refine a_getR (pc := 48) X 0 1 1 fl_RX6_12 rfl rfl rfl rfl rfl dX6_readFold_48 ?_
      refine a_iconst (pc := 51) X dX6_readFold_51 q_ic_0 ?_
      refine a_bipush (pc := 52) X dX6_readFold_52 q_bp_8 ?_
      obtain ⟨y4, e_y4, h⟩ := x_bo_elim h
      refine a_callV (pc := 54) (st2 := [.int y4.1]) (vs2 := [v0, y4.2]) X [(1, 0, 4), (0, 1, 16)] [some y4.2, none] 1 0 8 [.ref (ad0 1), .int (0 : Int32), .int (8 : Int32)] [] cv_RX6_81 (c_X8_takeNamed (ad0 := ad1) (ad1 := (fun i => ad0 (i + 1)))  e_y4) rfl rfl rfl rfl rfl rfl rfl rfl rfl rfl rfl rfl rfl rfl rfl (Nat.le_of_ble_eq_true rfl) ⟨Nat.le_of_ble_eq_true rfl, Nat.le_of_ble_eq_true rfl⟩ dX6_readFold_54 (fun _ => ?_)
      refine a_istore (pc := 57) X [(4, .int y4.1), (3, .int (y3.2.1 0 5)), (2, .int y3.1), (0, .ref (ad0 0)), (1, .ref (ad1 0))] dX6_readFold_57 (by decide) rfl ?_
      refine a_iload (pc := 59) X 0 dX6_readFold_59 rfl ?_
      refine a_iconst (pc := 61) X dX6_readFold_61 q_ic_m1 ?_
      refine a_icmp_ne (pc := 62) X 67 dX6_readFold_62 rfl (fun c_62 => ?_) (fun c_62 => ?_)
      · have h := x_ifn c_62 h
        refine a_iload_n (pc := 67) X 2 dX6_readFold_67 rfl rfl ?_
        refine a_iload (pc := 68) X 0 dX6_readFold_68 rfl ?_
        refine a_icmp_eq (pc := 70) X 86 dX6_readFold_70 rfl (fun c_70 => ?_) (fun c_70 => ?_)
        · have h := x_ifp c_70 h
          refine a_sub [4, 1] rfl ?_
          exact w_X6_readFold_86 X     h
        · have h := x_ifn c_70 h
          refine a_aload_n (pc := 73) X 3 dX6_readFold_73 rfl rfl ?_
          refine a_getR (pc := 74) X 0 1 1 fl_RX6_12 rfl rfl rfl rfl rfl dX6_readFold_74 ?_
          refine a_iload_n (pc := 77) X 2 dX6_readFold_77 rfl rfl ?_
          refine a_iload (pc := 78) X 0 dX6_readFold_78 rfl ?_
          obtain ⟨y5, e_y5, h⟩ := x_bo_elim h
          refine a_callV (pc := 80) (st2 := [.int y5]) (vs2 := [v0, y4.2]) X [(0, 1, 16)] [none] 0 1 9 [.int y3.1, .int y4.1] [] cv_RX6_88 (c_X9_areJoined (ad0 := (fun i => ad0 (i + 1)))  e_y5) rfl rfl rfl rfl rfl rfl rfl rfl rfl rfl rfl rfl rfl rfl rfl (Nat.le_of_ble_eq_true rfl) ⟨Nat.le_of_ble_eq_true rfl, Nat.le_of_ble_eq_true rfl⟩ dX6_readFold_80 (fun z_80 => ?_)
          refine a_if_eq (pc := 83) X 93 dX6_readFold_83 rfl (fun c_83 => ?_) (fun c_83 => ?_)
          · have h := x_ifp c_83 h
            refine a_aload_n (pc := 93) X 4 dX6_readFold_93 rfl rfl ?_
            refine a_iconst (pc := 94) X dX6_readFold_94 q_ic_1 ?_
            refine a_bipush (pc := 95) X dX6_readFold_95 q_bp_9 ?_
            obtain ⟨y6, e_y6, h⟩ := x_bo_elim h
            refine a_callV (pc := 97) (st2 := [.int y6.1]) (vs2 := [v0, y6.2]) X [(1, 0, 4)] [some y6.2] 1 0 8 [.int (1 : Int32), .int (9 : Int32)] [] cv_RX6_95 (c_X8_takeNumber (ad0 := ad1)  e_y6) rfl rfl rfl rfl rfl rfl rfl rfl rfl rfl rfl rfl rfl rfl rfl (Nat.le_of_ble_eq_true rfl) ⟨Nat.le_of_ble_eq_true rfl, Nat.le_of_ble_eq_true rfl⟩ dX6_readFold_97 (fun _ => ?_)
            refine a_istore (pc := 100) X [(5, .int y6.1), (4, .int y4.1), (3, .int (y3.2.1 0 5)), (2, .int y3.1), (0, .ref (ad0 0)), (1, .ref (ad1 0))] dX6_readFold_100 (by decide) rfl ?_
            refine a_iload (pc := 102) X 0 dX6_readFold_102 rfl ?_
            refine a_iconst (pc := 104) X dX6_readFold_104 q_ic_m1 ?_
            refine a_icmp_ne (pc := 105) X 110 dX6_readFold_105 rfl (fun c_105 => ?_) (fun c_105 => ?_)
            · have h := x_ifn c_105 h
              refine a_aload_n (pc := 110) X 5 dX6_readFold_110 rfl rfl ?_
              obtain ⟨y7, e_y7, h⟩ := x_bo_elim h
              refine a_callV (pc := 111) (st2 := [.int y7.1]) (vs2 := [v0, y7.2]) X [(1, 0, 4)] [some y7.2] 1 0 8 [] [] cv_RX6_99 (c_X8_takeKind (ad0 := ad1)  e_y7) rfl rfl rfl rfl rfl rfl rfl rfl rfl rfl rfl rfl rfl rfl rfl (Nat.le_of_ble_eq_true rfl) ⟨Nat.le_of_ble_eq_true rfl, Nat.le_of_ble_eq_true rfl⟩ dX6_readFold_111 (fun _ => ?_)
              refine a_istore (pc := 114) X [(6, .int y7.1), (5, .int y6.1), (4, .int y4.1), (3, .int (y3.2.1 0 5)), (2, .int y3.1), (0, .ref (ad0 0)), (1, .ref (ad1 0))] dX6_readFold_114 (by decide) rfl ?_
              refine a_iload (pc := 116) X 0 dX6_readFold_116 rfl ?_
              refine a_iconst (pc := 118) X dX6_readFold_118 q_ic_m1 ?_
              refine a_icmp_ne (pc := 119) X 124 dX6_readFold_119 rfl (fun c_119 => ?_) (fun c_119 => ?_)
              · have h := x_ifn c_119 h
                refine a_aload_n (pc := 124) X 5 dX6_readFold_124 rfl rfl ?_
                refine a_getR (pc := 125) X 0 1 1 fl_RX6_12 rfl rfl rfl rfl rfl dX6_readFold_125 ?_
                refine a_getR (pc := 128) X 0 1 2 fl_RX6_103 rfl rfl rfl rfl rfl dX6_readFold_128 ?_
                refine a_aload_n (pc := 131) X 5 dX6_readFold_131 rfl rfl ?_
                refine a_getR (pc := 132) X 0 1 1 fl_RX6_12 rfl rfl rfl rfl rfl dX6_readFold_132 ?_
                refine a_getI (pc := 135) X 0 fl_RX6_78 rfl rfl rfl rfl dX6_readFold_135 ?_
                refine a_iload_n (pc := 138) X 4 dX6_readFold_138 rfl rfl ?_
                obtain ⟨y8, e_y8, h⟩ := x_lt_elim h
                refine a_callV (pc := 139) (st2 := []) (vs2 := [x_put v0 2 2 y8, y7.2]) X [(0, 2, 2)] [some y8] 0 2 3 [.int (v0.1 1 1), .int y3.1] [] cv_RX6_107 (ct_put (ad0 := (fun i => ad0 (i + 2))) (by decide) e_y8) rfl rfl rfl rfl rfl rfl rfl rfl rfl rfl rfl rfl rfl rfl rfl (Nat.le_of_ble_eq_true rfl) ⟨Nat.le_of_ble_eq_true rfl, Nat.le_of_ble_eq_true rfl⟩ dX6_readFold_139 (fun _ => ?_)
                obtain ⟨m9, e_m9, h⟩ := x_lt_elim h
                refine a_nm (vs2 := [m9, y7.2]) (congrArg (fun q : XM => [q, y7.2]) e_m9) ?_
                refine a_aload_n (pc := 142) X 5 dX6_readFold_142 rfl rfl ?_
                refine a_getR (pc := 143) X 0 1 1 fl_RX6_12 rfl rfl rfl rfl rfl dX6_readFold_143 ?_
                refine a_getR (pc := 146) X 0 3 4 fl_RX6_113 rfl rfl rfl rfl rfl dX6_readFold_146 ?_
                refine a_aload_n (pc := 149) X 5 dX6_readFold_149 rfl rfl ?_
                refine a_getR (pc := 150) X 0 1 1 fl_RX6_12 rfl rfl rfl rfl rfl dX6_readFold_150 ?_
                refine a_getI (pc := 153) X 0 fl_RX6_78 rfl rfl rfl rfl dX6_readFold_153 ?_
                refine a_iload (pc := 156) X 2 dX6_readFold_156 rfl ?_
                obtain ⟨y10, e_y10, h⟩ := x_lt_elim h
                refine a_callV (pc := 158) (st2 := []) (vs2 := [x_put m9 4 2 y10, y7.2]) X [(0, 4, 2)] [some y10] 0 4 3 [.int (m9.1 1 1), .int y4.1] [] cv_RX6_107 (ct_put (ad0 := (fun i => ad0 (i + 4))) (by decide) e_y10) rfl rfl rfl rfl rfl rfl rfl rfl rfl rfl rfl rfl rfl rfl rfl (Nat.le_of_ble_eq_true rfl) ⟨Nat.le_of_ble_eq_true rfl, Nat.le_of_ble_eq_true rfl⟩ dX6_readFold_158 (fun _ => ?_)
                obtain ⟨m11, e_m11, h⟩ := x_lt_elim h
                refine a_nm (vs2 := [m11, y7.2]) (congrArg (fun q : XM => [q, y7.2]) e_m11) ?_
                refine a_aload_n (pc := 161) X 5 dX6_readFold_161 rfl rfl ?_
                refine a_getR (pc := 162) X 0 1 1 fl_RX6_12 rfl rfl rfl rfl rfl dX6_readFold_162 ?_
                refine a_getR (pc := 165) X 0 5 6 fl_RX6_116 rfl rfl rfl rfl rfl dX6_readFold_165 ?_
                refine a_aload_n (pc := 168) X 5 dX6_readFold_168 rfl rfl ?_
                refine a_getR (pc := 169) X 0 1 1 fl_RX6_12 rfl rfl rfl rfl rfl dX6_readFold_169 ?_
                refine a_getI (pc := 172) X 0 fl_RX6_78 rfl rfl rfl rfl dX6_readFold_172 ?_
                refine a_iload (pc := 175) X 1 dX6_readFold_175 rfl ?_
                obtain ⟨y12, e_y12, h⟩ := x_lt_elim h
                refine a_callV (pc := 177) (st2 := []) (vs2 := [x_put m11 6 2 y12, y7.2]) X [(0, 6, 2)] [some y12] 0 6 3 [.int (m11.1 1 1), .int y6.1] [] cv_RX6_107 (ct_put (ad0 := (fun i => ad0 (i + 6))) (by decide) e_y12) rfl rfl rfl rfl rfl rfl rfl rfl rfl rfl rfl rfl rfl rfl rfl (Nat.le_of_ble_eq_true rfl) ⟨Nat.le_of_ble_eq_true rfl, Nat.le_of_ble_eq_true rfl⟩ dX6_readFold_177 (fun _ => ?_)
                obtain ⟨m13, e_m13, h⟩ := x_lt_elim h
                refine a_nm (vs2 := [m13, y7.2]) (congrArg (fun q : XM => [q, y7.2]) e_m13) ?_
                refine a_aload_n (pc := 180) X 5 dX6_readFold_180 rfl rfl ?_
                refine a_getR (pc := 181) X 0 1 1 fl_RX6_12 rfl rfl rfl rfl rfl dX6_readFold_181 ?_
                refine a_getR (pc := 184) X 0 7 8 fl_RX6_119 rfl rfl rfl rfl rfl dX6_readFold_184 ?_
                refine a_aload_n (pc := 187) X 5 dX6_readFold_187 rfl rfl ?_
                refine a_getR (pc := 188) X 0 1 1 fl_RX6_12 rfl rfl rfl rfl rfl dX6_readFold_188 ?_
                refine a_getI (pc := 191) X 0 fl_RX6_78 rfl rfl rfl rfl dX6_readFold_191 ?_
                refine a_iload (pc := 194) X 0 dX6_readFold_194 rfl ?_
                obtain ⟨y14, e_y14, h⟩ := x_lt_elim h
                refine a_callV (pc := 196) (st2 := []) (vs2 := [x_put m13 8 2 y14, y7.2]) X [(0, 8, 2)] [some y14] 0 8 3 [.int (m13.1 1 1), .int y7.1] [] cv_RX6_107 (ct_put (ad0 := (fun i => ad0 (i + 8))) (by decide) e_y14) rfl rfl rfl rfl rfl rfl rfl rfl rfl rfl rfl rfl rfl rfl rfl (Nat.le_of_ble_eq_true rfl) ⟨Nat.le_of_ble_eq_true rfl, Nat.le_of_ble_eq_true rfl⟩ dX6_readFold_196 (fun _ => ?_)
                obtain ⟨m15, e_m15, h⟩ := x_lt_elim h
                refine a_nm (vs2 := [m15, y7.2]) (congrArg (fun q : XM => [q, y7.2]) e_m15) ?_
                refine a_aload_n (pc := 199) X 5 dX6_readFold_199 rfl rfl ?_
                refine a_getR (pc := 200) X 0 1 1 fl_RX6_12 rfl rfl rfl rfl rfl dX6_readFold_200 ?_
                refine a_dup (pc := 203) X dX6_readFold_203 rfl ?_
                refine a_getI (pc := 204) X 0 fl_RX6_78 rfl rfl rfl rfl dX6_readFold_204 ?_
                refine a_iconst (pc := 207) X dX6_readFold_207 q_ic_1 ?_
                refine a_iadd (pc := 208) X dX6_readFold_208 ?_
                refine a_putI (pc := 209) X 0 fl_RX6_78 rfl rfl rfl rfl dX6_readFold_209 ?_
                obtain ⟨m16, e_m16, h⟩ := x_lt_elim h
                refine a_nm (vs2 := [m16, y7.2]) (congrArg (fun q : XM => [q, y7.2]) e_m16) ?_
                refine a_iconst (pc := 212) X dX6_readFold_212 q_ic_1 ?_
                have h := Option.some.inj h; subst h
                exact a_zret (pc := 213) X x_Z1 x_Z1 dX6_readFold_213
              · have h := x_ifp c_119 h
                refine a_iconst (pc := 122) X dX6_readFold_122 q_ic_0 ?_
                have h := Option.some.inj h; subst h
                exact a_zret (pc := 123) X x_Z0 x_Z0 dX6_readFold_123
            · have h := x_ifp c_105 h
              refine a_iconst (pc := 108) X dX6_readFold_108 q_ic_0 ?_
              have h := Option.some.inj h; subst h
              exact a_zret (pc := 109) X x_Z0 x_Z0 dX6_readFold_109
          · have h := x_ifn c_83 h
            refine a_sub [4, 1] rfl ?_
            exact w_X6_readFold_86 X     h
      · have h := x_ifp c_62 h
        refine a_iconst (pc := 65) X dX6_readFold_65 q_ic_0 ?_
        have h := Option.some.inj h; subst h
        exact a_zret (pc := 66) X x_Z0 x_Z0 dX6_readFold_66
    · have h := x_ifp c_36 h
      refine a_iconst (pc := 39) X dX6_readFold_39 q_ic_0 ?_
      have h := Option.some.inj h; subst h
      exact a_zret (pc := 40) X x_Z0 x_Z0 dX6_readFold_40
  · have h := x_ifn c_9 h
    refine a_aload_n (pc := 12) X 1 dX6_readFold_12 rfl rfl ?_
    refine a_iconst (pc := 13) X dX6_readFold_13 q_ic_4 ?_
    obtain ⟨y17, e_y17, h⟩ := x_lt_elim h
    refine a_callV (pc := 14) (st2 := [.int y17.1]) (vs2 := [v0, y17.2]) X [(1, 0, 4)] [some y17.2] 1 0 8 [.int (4 : Int32)] [] cv_RX6_61 (c_X8_refuse (ad0 := ad1)  e_y17) rfl rfl rfl rfl rfl rfl rfl rfl rfl rfl rfl rfl rfl rfl rfl (Nat.le_of_ble_eq_true rfl) ⟨Nat.le_of_ble_eq_true rfl, Nat.le_of_ble_eq_true rfl⟩ dX6_readFold_14 (fun z_14 => ?_)
    have h := Option.some.inj h; subst h
    exact a_zret (pc := 17) X z_14 z_14 dX6_readFold_17
theorem dX6_readThing_0 : decode cX6_readThing 0 = .ok (.aload_n 0, 1) := by decide +kernel
theorem dX6_readThing_1 : decode cX6_readThing 1 = .ok (.getfield 12, 3) := by decide +kernel
theorem dX6_readThing_4 : decode cX6_readThing 4 = .ok (.getfield 121, 3) := by decide +kernel
theorem dX6_readThing_7 : decode cX6_readThing 7 = .ok (.bipush 6, 2) := by decide +kernel
theorem dX6_readThing_9 : decode cX6_readThing 9 = .ok (.if_icmp .lt 9, 3) := by decide +kernel
theorem dX6_readThing_12 : decode cX6_readThing 12 = .ok (.aload_n 1, 1) := by decide +kernel
theorem dX6_readThing_13 : decode cX6_readThing 13 = .ok (.iconst 4, 1) := by decide +kernel
theorem dX6_readThing_14 : decode cX6_readThing 14 = .ok (.invokevirtual 61, 3) := by decide +kernel
theorem dX6_readThing_17 : decode cX6_readThing 17 = .ok (.ireturn, 1) := by decide +kernel
theorem dX6_readThing_18 : decode cX6_readThing 18 = .ok (.aload_n 1, 1) := by decide +kernel
theorem dX6_readThing_19 : decode cX6_readThing 19 = .ok (.invokevirtual 68, 3) := by decide +kernel
theorem dX6_readThing_22 : decode cX6_readThing 22 = .ok (.aload_n 0, 1) := by decide +kernel
theorem dX6_readThing_23 : decode cX6_readThing 23 = .ok (.aload_n 1, 1) := by decide +kernel
theorem dX6_readThing_24 : decode cX6_readThing 24 = .ok (.bipush 8, 2) := by decide +kernel
theorem dX6_readThing_26 : decode cX6_readThing 26 = .ok (.aload_n 0, 1) := by decide +kernel
theorem dX6_readThing_27 : decode cX6_readThing 27 = .ok (.getfield 12, 3) := by decide +kernel
theorem dX6_readThing_30 : decode cX6_readThing 30 = .ok (.getfield 121, 3) := by decide +kernel
theorem dX6_readThing_33 : decode cX6_readThing 33 = .ok (.iadd, 1) := by decide +kernel
theorem dX6_readThing_34 : decode cX6_readThing 34 = .ok (.invokevirtual 71, 3) := by decide +kernel
theorem dX6_readThing_37 : decode cX6_readThing 37 = .ok (.ifCond .ne 5, 3) := by decide +kernel
theorem dX6_readThing_40 : decode cX6_readThing 40 = .ok (.iconst 0, 1) := by decide +kernel
theorem dX6_readThing_41 : decode cX6_readThing 41 = .ok (.ireturn, 1) := by decide +kernel
theorem dX6_readThing_42 : decode cX6_readThing 42 = .ok (.aload_n 1, 1) := by decide +kernel
theorem dX6_readThing_43 : decode cX6_readThing 43 = .ok (.aload_n 0, 1) := by decide +kernel
theorem dX6_readThing_44 : decode cX6_readThing 44 = .ok (.getfield 12, 3) := by decide +kernel
theorem dX6_readThing_47 : decode cX6_readThing 47 = .ok (.iconst 0, 1) := by decide +kernel
theorem dX6_readThing_48 : decode cX6_readThing 48 = .ok (.bipush 8, 2) := by decide +kernel
theorem dX6_readThing_50 : decode cX6_readThing 50 = .ok (.invokevirtual 81, 3) := by decide +kernel
theorem dX6_readThing_53 : decode cX6_readThing 53 = .ok (.istore_n 2, 1) := by decide +kernel
theorem dX6_readThing_54 : decode cX6_readThing 54 = .ok (.iload_n 2, 1) := by decide +kernel
theorem dX6_readThing_55 : decode cX6_readThing 55 = .ok (.iconst (-1), 1) := by decide +kernel
theorem dX6_readThing_56 : decode cX6_readThing 56 = .ok (.if_icmp .ne 5, 3) := by decide +kernel
theorem dX6_readThing_59 : decode cX6_readThing 59 = .ok (.iconst 0, 1) := by decide +kernel
theorem dX6_readThing_60 : decode cX6_readThing 60 = .ok (.ireturn, 1) := by decide +kernel
theorem dX6_readThing_61 : decode cX6_readThing 61 = .ok (.aload_n 0, 1) := by decide +kernel
theorem dX6_readThing_62 : decode cX6_readThing 62 = .ok (.getfield 12, 3) := by decide +kernel
theorem dX6_readThing_65 : decode cX6_readThing 65 = .ok (.getfield 124, 3) := by decide +kernel
theorem dX6_readThing_68 : decode cX6_readThing 68 = .ok (.aload_n 0, 1) := by decide +kernel
theorem dX6_readThing_69 : decode cX6_readThing 69 = .ok (.getfield 12, 3) := by decide +kernel
theorem dX6_readThing_72 : decode cX6_readThing 72 = .ok (.getfield 121, 3) := by decide +kernel
theorem dX6_readThing_75 : decode cX6_readThing 75 = .ok (.iload_n 2, 1) := by decide +kernel
theorem dX6_readThing_76 : decode cX6_readThing 76 = .ok (.invokevirtual 107, 3) := by decide +kernel
theorem dX6_readThing_79 : decode cX6_readThing 79 = .ok (.aload_n 0, 1) := by decide +kernel
theorem dX6_readThing_80 : decode cX6_readThing 80 = .ok (.getfield 12, 3) := by decide +kernel
theorem dX6_readThing_83 : decode cX6_readThing 83 = .ok (.dup, 1) := by decide +kernel
theorem dX6_readThing_84 : decode cX6_readThing 84 = .ok (.getfield 121, 3) := by decide +kernel
theorem dX6_readThing_87 : decode cX6_readThing 87 = .ok (.iconst 1, 1) := by decide +kernel
theorem dX6_readThing_88 : decode cX6_readThing 88 = .ok (.iadd, 1) := by decide +kernel
theorem dX6_readThing_89 : decode cX6_readThing 89 = .ok (.putfield 121, 3) := by decide +kernel
theorem dX6_readThing_92 : decode cX6_readThing 92 = .ok (.iconst 1, 1) := by decide +kernel
theorem dX6_readThing_93 : decode cX6_readThing 93 = .ok (.ireturn, 1) := by decide +kernel
def f_X6_readThing (v0 : XM) (v1 : XM) : Option (Int32 × XM × XM) :=
  if ((v0.1 1 2) : Int32) < (6 : Int32) then
  (x_bo (f_X8_advance v1) (fun y1 =>
  x_bo (f_X6_readNewName v0 y1 ((8 : Int32) + (v0.1 1 2))) (fun y2 =>
  if y2.1 = (0 : Int32) then
  (some ((0 : Int32), y2.2.1, y2.2.2))
  else (x_bo (f_X8_takeNamed y2.2.2 (x_sub y2.2.1 1) (0 : Int32) (8 : Int32)) (fun y3 =>
  if (y3.1 : Int32) = (-1 : Int32) then
  (some ((0 : Int32), y2.2.1, y3.2))
  else (x_lt (r_put 6 (x_sub y2.2.1 10) (y2.2.1.1 1 2) y3.1) (fun y4 =>
  x_lt (x_put y2.2.1 10 2 y4) (fun m5 =>
  x_lt (x_si m5 1 2 ((m5.1 1 2) + (1 : Int32))) (fun m6 =>
  some ((1 : Int32), m6, y3.2))))))))))
  else (x_lt (f_X8_refuse v1 (4 : Int32)) (fun y7 =>
  some (y7.1, v0, y7.2)))
set_option maxRecDepth 100000 in
set_option maxHeartbeats 4000000 in
theorem c_X6_readThing {l : Launch}  {ad0 : Nat → Nat} {ad1 : Nat → Nat} {v0 v1 : XM}   {o : Int32 × XM × XM} (h : f_X6_readThing v0 v1 = some o) : CT l yX6_readThing cX6_readThing 3 (some .boolean) 4 [(shSurveyor, ad0), (shTape, ad1)] [v0, v1] (fun aK => [.ref (ad0 0), .ref (ad1 0)]) (some (.int o.1)) (x_Z o.1) [o.2.1, o.2.2] := by
  refine CT_of (by decide) (fun _ => Nat.le_of_ble_eq_true rfl) ?_
  intro p e s m args below meth c D tc aK aV A X
  have X : Cx p s m args meth c cX6_readThing 3 (some .boolean) RX6 D tc aK aV A [(shSurveyor, ad0), (shTape, ad1)] := X
  show aW p l e (x_Rm 4) s m args below meth c D tc A 3 [(shSurveyor, ad0), (shTape, ad1)] (some (.int o.1)) (x_Z o.1) [o.2.1, o.2.2] 0 [(0, .ref (ad0 0)), (1, .ref (ad1 0))] [] [v0, v1]
  unfold f_X6_readThing at h
  refine a_aload_n (pc := 0) X 0 dX6_readThing_0 rfl rfl ?_
  refine a_getR (pc := 1) X 0 1 1 fl_RX6_12 rfl rfl rfl rfl rfl dX6_readThing_1 ?_
  refine a_getI (pc := 4) X 0 fl_RX6_121 rfl rfl rfl rfl dX6_readThing_4 ?_
  refine a_bipush (pc := 7) X dX6_readThing_7 q_bp_6 ?_
  refine a_icmp_lt (pc := 9) X 18 dX6_readThing_9 rfl (fun c_9 => ?_) (fun c_9 => ?_)
  · have h := x_ifp c_9 h
    refine a_aload_n (pc := 18) X 1 dX6_readThing_18 rfl rfl ?_
    obtain ⟨y1, e_y1, h⟩ := x_bo_elim h
    refine a_callV (pc := 19) (st2 := []) (vs2 := [v0, y1]) X [(1, 0, 4)] [some y1] 1 0 8 [] [] cv_RX6_68 (c_X8_advance (ad0 := ad1)  e_y1) rfl rfl rfl rfl rfl rfl rfl rfl rfl rfl rfl rfl rfl rfl rfl (Nat.le_of_ble_eq_true rfl) ⟨Nat.le_of_ble_eq_true rfl, Nat.le_of_ble_eq_true rfl⟩ dX6_readThing_19 (fun _ => ?_)
    refine a_aload_n (pc := 22) X 0 dX6_readThing_22 rfl rfl ?_
    refine a_aload_n (pc := 23) X 1 dX6_readThing_23 rfl rfl ?_
    refine a_bipush (pc := 24) X dX6_readThing_24 q_bp_8 ?_
    refine a_aload_n (pc := 26) X 0 dX6_readThing_26 rfl rfl ?_
    refine a_getR (pc := 27) X 0 1 1 fl_RX6_12 rfl rfl rfl rfl rfl dX6_readThing_27 ?_
    refine a_getI (pc := 30) X 0 fl_RX6_121 rfl rfl rfl rfl dX6_readThing_30 ?_
    refine a_iadd (pc := 33) X dX6_readThing_33 ?_
    obtain ⟨y2, e_y2, h⟩ := x_bo_elim h
    refine a_callV (pc := 34) (st2 := [.int y2.1]) (vs2 := [y2.2.1, y2.2.2]) X [(0, 0, 17), (1, 0, 4)] [some y2.2.1, some y2.2.2] 0 0 6 [.ref (ad1 0), .int ((8 : Int32) + (v0.1 1 2))] [] cv_RX6_71 (c_X6_readNewName (ad0 := ad0) (ad1 := ad1)  e_y2) rfl rfl rfl rfl rfl rfl rfl rfl rfl rfl rfl rfl rfl rfl rfl (Nat.le_of_ble_eq_true rfl) ⟨Nat.le_of_ble_eq_true rfl, Nat.le_of_ble_eq_true rfl⟩ dX6_readThing_34 (fun z_34 => ?_)
    refine a_if_ne (pc := 37) X 42 dX6_readThing_37 rfl (fun c_37 => ?_) (fun c_37 => ?_)
    · have h := x_ifn c_37 h
      refine a_aload_n (pc := 42) X 1 dX6_readThing_42 rfl rfl ?_
      refine a_aload_n (pc := 43) X 0 dX6_readThing_43 rfl rfl ?_
      refine a_getR (pc := 44) X 0 1 1 fl_RX6_12 rfl rfl rfl rfl rfl dX6_readThing_44 ?_
      refine a_iconst (pc := 47) X dX6_readThing_47 q_ic_0 ?_
      refine a_bipush (pc := 48) X dX6_readThing_48 q_bp_8 ?_
      obtain ⟨y3, e_y3, h⟩ := x_bo_elim h
      refine a_callV (pc := 50) (st2 := [.int y3.1]) (vs2 := [y2.2.1, y3.2]) X [(1, 0, 4), (0, 1, 16)] [some y3.2, none] 1 0 8 [.ref (ad0 1), .int (0 : Int32), .int (8 : Int32)] [] cv_RX6_81 (c_X8_takeNamed (ad0 := ad1) (ad1 := (fun i => ad0 (i + 1)))  e_y3) rfl rfl rfl rfl rfl rfl rfl rfl rfl rfl rfl rfl rfl rfl rfl (Nat.le_of_ble_eq_true rfl) ⟨Nat.le_of_ble_eq_true rfl, Nat.le_of_ble_eq_true rfl⟩ dX6_readThing_50 (fun _ => ?_)
      refine a_istore_n (pc := 53) X [(2, .int y3.1), (0, .ref (ad0 0)), (1, .ref (ad1 0))] dX6_readThing_53 rfl (by decide) rfl ?_
      refine a_iload_n (pc := 54) X 0 dX6_readThing_54 rfl rfl ?_
      refine a_iconst (pc := 55) X dX6_readThing_55 q_ic_m1 ?_
      refine a_icmp_ne (pc := 56) X 61 dX6_readThing_56 rfl (fun c_56 => ?_) (fun c_56 => ?_)
      · have h := x_ifn c_56 h
        refine a_aload_n (pc := 61) X 1 dX6_readThing_61 rfl rfl ?_
        refine a_getR (pc := 62) X 0 1 1 fl_RX6_12 rfl rfl rfl rfl rfl dX6_readThing_62 ?_
        refine a_getR (pc := 65) X 0 9 10 fl_RX6_124 rfl rfl rfl rfl rfl dX6_readThing_65 ?_
        refine a_aload_n (pc := 68) X 1 dX6_readThing_68 rfl rfl ?_
        refine a_getR (pc := 69) X 0 1 1 fl_RX6_12 rfl rfl rfl rfl rfl dX6_readThing_69 ?_
        refine a_getI (pc := 72) X 0 fl_RX6_121 rfl rfl rfl rfl dX6_readThing_72 ?_
        refine a_iload_n (pc := 75) X 0 dX6_readThing_75 rfl rfl ?_
        obtain ⟨y4, e_y4, h⟩ := x_lt_elim h
        refine a_callV (pc := 76) (st2 := []) (vs2 := [x_put y2.2.1 10 2 y4, y3.2]) X [(0, 10, 2)] [some y4] 0 10 3 [.int (y2.2.1.1 1 2), .int y3.1] [] cv_RX6_107 (ct_put (ad0 := (fun i => ad0 (i + 10))) (by decide) e_y4) rfl rfl rfl rfl rfl rfl rfl rfl rfl rfl rfl rfl rfl rfl rfl (Nat.le_of_ble_eq_true rfl) ⟨Nat.le_of_ble_eq_true rfl, Nat.le_of_ble_eq_true rfl⟩ dX6_readThing_76 (fun _ => ?_)
        obtain ⟨m5, e_m5, h⟩ := x_lt_elim h
        refine a_nm (vs2 := [m5, y3.2]) (congrArg (fun q : XM => [q, y3.2]) e_m5) ?_
        refine a_aload_n (pc := 79) X 1 dX6_readThing_79 rfl rfl ?_
        refine a_getR (pc := 80) X 0 1 1 fl_RX6_12 rfl rfl rfl rfl rfl dX6_readThing_80 ?_
        refine a_dup (pc := 83) X dX6_readThing_83 rfl ?_
        refine a_getI (pc := 84) X 0 fl_RX6_121 rfl rfl rfl rfl dX6_readThing_84 ?_
        refine a_iconst (pc := 87) X dX6_readThing_87 q_ic_1 ?_
        refine a_iadd (pc := 88) X dX6_readThing_88 ?_
        refine a_putI (pc := 89) X 0 fl_RX6_121 rfl rfl rfl rfl dX6_readThing_89 ?_
        obtain ⟨m6, e_m6, h⟩ := x_lt_elim h
        refine a_nm (vs2 := [m6, y3.2]) (congrArg (fun q : XM => [q, y3.2]) e_m6) ?_
        refine a_iconst (pc := 92) X dX6_readThing_92 q_ic_1 ?_
        have h := Option.some.inj h; subst h
        exact a_zret (pc := 93) X x_Z1 x_Z1 dX6_readThing_93
      · have h := x_ifp c_56 h
        refine a_iconst (pc := 59) X dX6_readThing_59 q_ic_0 ?_
        have h := Option.some.inj h; subst h
        exact a_zret (pc := 60) X x_Z0 x_Z0 dX6_readThing_60
    · have h := x_ifp c_37 h
      refine a_iconst (pc := 40) X dX6_readThing_40 q_ic_0 ?_
      have h := Option.some.inj h; subst h
      exact a_zret (pc := 41) X x_Z0 x_Z0 dX6_readThing_41
  · have h := x_ifn c_9 h
    refine a_aload_n (pc := 12) X 1 dX6_readThing_12 rfl rfl ?_
    refine a_iconst (pc := 13) X dX6_readThing_13 q_ic_4 ?_
    obtain ⟨y7, e_y7, h⟩ := x_lt_elim h
    refine a_callV (pc := 14) (st2 := [.int y7.1]) (vs2 := [v0, y7.2]) X [(1, 0, 4)] [some y7.2] 1 0 8 [.int (4 : Int32)] [] cv_RX6_61 (c_X8_refuse (ad0 := ad1)  e_y7) rfl rfl rfl rfl rfl rfl rfl rfl rfl rfl rfl rfl rfl rfl rfl (Nat.le_of_ble_eq_true rfl) ⟨Nat.le_of_ble_eq_true rfl, Nat.le_of_ble_eq_true rfl⟩ dX6_readThing_14 (fun z_14 => ?_)
    have h := Option.some.inj h; subst h
    exact a_zret (pc := 17) X z_14 z_14 dX6_readThing_17
theorem dX6_readWalker_0 : decode cX6_readWalker 0 = .ok (.aload_n 0, 1) := by decide +kernel
theorem dX6_readWalker_1 : decode cX6_readWalker 1 = .ok (.getfield 12, 3) := by decide +kernel
theorem dX6_readWalker_4 : decode cX6_readWalker 4 = .ok (.getfield 127, 3) := by decide +kernel
theorem dX6_readWalker_7 : decode cX6_readWalker 7 = .ok (.iconst 5, 1) := by decide +kernel
theorem dX6_readWalker_8 : decode cX6_readWalker 8 = .ok (.if_icmp .lt 9, 3) := by decide +kernel
theorem dX6_readWalker_11 : decode cX6_readWalker 11 = .ok (.aload_n 1, 1) := by decide +kernel
theorem dX6_readWalker_12 : decode cX6_readWalker 12 = .ok (.iconst 4, 1) := by decide +kernel
theorem dX6_readWalker_13 : decode cX6_readWalker 13 = .ok (.invokevirtual 61, 3) := by decide +kernel
theorem dX6_readWalker_16 : decode cX6_readWalker 16 = .ok (.ireturn, 1) := by decide +kernel
theorem dX6_readWalker_17 : decode cX6_readWalker 17 = .ok (.aload_n 1, 1) := by decide +kernel
theorem dX6_readWalker_18 : decode cX6_readWalker 18 = .ok (.invokevirtual 68, 3) := by decide +kernel
theorem dX6_readWalker_21 : decode cX6_readWalker 21 = .ok (.aload_n 0, 1) := by decide +kernel
theorem dX6_readWalker_22 : decode cX6_readWalker 22 = .ok (.aload_n 1, 1) := by decide +kernel
theorem dX6_readWalker_23 : decode cX6_readWalker 23 = .ok (.bipush 14, 2) := by decide +kernel
theorem dX6_readWalker_25 : decode cX6_readWalker 25 = .ok (.aload_n 0, 1) := by decide +kernel
theorem dX6_readWalker_26 : decode cX6_readWalker 26 = .ok (.getfield 12, 3) := by decide +kernel
theorem dX6_readWalker_29 : decode cX6_readWalker 29 = .ok (.getfield 127, 3) := by decide +kernel
theorem dX6_readWalker_32 : decode cX6_readWalker 32 = .ok (.iadd, 1) := by decide +kernel
theorem dX6_readWalker_33 : decode cX6_readWalker 33 = .ok (.invokevirtual 71, 3) := by decide +kernel
theorem dX6_readWalker_36 : decode cX6_readWalker 36 = .ok (.ifCond .ne 5, 3) := by decide +kernel
theorem dX6_readWalker_39 : decode cX6_readWalker 39 = .ok (.iconst 0, 1) := by decide +kernel
theorem dX6_readWalker_40 : decode cX6_readWalker 40 = .ok (.ireturn, 1) := by decide +kernel
theorem dX6_readWalker_41 : decode cX6_readWalker 41 = .ok (.aload_n 1, 1) := by decide +kernel
theorem dX6_readWalker_42 : decode cX6_readWalker 42 = .ok (.aload_n 0, 1) := by decide +kernel
theorem dX6_readWalker_43 : decode cX6_readWalker 43 = .ok (.getfield 12, 3) := by decide +kernel
theorem dX6_readWalker_46 : decode cX6_readWalker 46 = .ok (.iconst 0, 1) := by decide +kernel
theorem dX6_readWalker_47 : decode cX6_readWalker 47 = .ok (.bipush 8, 2) := by decide +kernel
theorem dX6_readWalker_49 : decode cX6_readWalker 49 = .ok (.invokevirtual 81, 3) := by decide +kernel
theorem dX6_readWalker_52 : decode cX6_readWalker 52 = .ok (.istore_n 2, 1) := by decide +kernel
theorem dX6_readWalker_53 : decode cX6_readWalker 53 = .ok (.iload_n 2, 1) := by decide +kernel
theorem dX6_readWalker_54 : decode cX6_readWalker 54 = .ok (.iconst (-1), 1) := by decide +kernel
theorem dX6_readWalker_55 : decode cX6_readWalker 55 = .ok (.if_icmp .ne 5, 3) := by decide +kernel
theorem dX6_readWalker_58 : decode cX6_readWalker 58 = .ok (.iconst 0, 1) := by decide +kernel
theorem dX6_readWalker_59 : decode cX6_readWalker 59 = .ok (.ireturn, 1) := by decide +kernel
theorem dX6_readWalker_60 : decode cX6_readWalker 60 = .ok (.aload_n 1, 1) := by decide +kernel
theorem dX6_readWalker_61 : decode cX6_readWalker 61 = .ok (.iconst 1, 1) := by decide +kernel
theorem dX6_readWalker_62 : decode cX6_readWalker 62 = .ok (.iconst 5, 1) := by decide +kernel
theorem dX6_readWalker_63 : decode cX6_readWalker 63 = .ok (.invokevirtual 95, 3) := by decide +kernel
theorem dX6_readWalker_66 : decode cX6_readWalker 66 = .ok (.istore_n 3, 1) := by decide +kernel
theorem dX6_readWalker_67 : decode cX6_readWalker 67 = .ok (.iload_n 3, 1) := by decide +kernel
theorem dX6_readWalker_68 : decode cX6_readWalker 68 = .ok (.iconst (-1), 1) := by decide +kernel
theorem dX6_readWalker_69 : decode cX6_readWalker 69 = .ok (.if_icmp .ne 5, 3) := by decide +kernel
theorem dX6_readWalker_72 : decode cX6_readWalker 72 = .ok (.iconst 0, 1) := by decide +kernel
theorem dX6_readWalker_73 : decode cX6_readWalker 73 = .ok (.ireturn, 1) := by decide +kernel
theorem dX6_readWalker_74 : decode cX6_readWalker 74 = .ok (.aload_n 0, 1) := by decide +kernel
theorem dX6_readWalker_75 : decode cX6_readWalker 75 = .ok (.getfield 12, 3) := by decide +kernel
theorem dX6_readWalker_78 : decode cX6_readWalker 78 = .ok (.getfield 130, 3) := by decide +kernel
theorem dX6_readWalker_81 : decode cX6_readWalker 81 = .ok (.aload_n 0, 1) := by decide +kernel
theorem dX6_readWalker_82 : decode cX6_readWalker 82 = .ok (.getfield 12, 3) := by decide +kernel
theorem dX6_readWalker_85 : decode cX6_readWalker 85 = .ok (.getfield 127, 3) := by decide +kernel
theorem dX6_readWalker_88 : decode cX6_readWalker 88 = .ok (.iload_n 2, 1) := by decide +kernel
theorem dX6_readWalker_89 : decode cX6_readWalker 89 = .ok (.invokevirtual 107, 3) := by decide +kernel
theorem dX6_readWalker_92 : decode cX6_readWalker 92 = .ok (.aload_n 0, 1) := by decide +kernel
theorem dX6_readWalker_93 : decode cX6_readWalker 93 = .ok (.getfield 12, 3) := by decide +kernel
theorem dX6_readWalker_96 : decode cX6_readWalker 96 = .ok (.getfield 133, 3) := by decide +kernel
theorem dX6_readWalker_99 : decode cX6_readWalker 99 = .ok (.aload_n 0, 1) := by decide +kernel
theorem dX6_readWalker_100 : decode cX6_readWalker 100 = .ok (.getfield 12, 3) := by decide +kernel
theorem dX6_readWalker_103 : decode cX6_readWalker 103 = .ok (.getfield 127, 3) := by decide +kernel
theorem dX6_readWalker_106 : decode cX6_readWalker 106 = .ok (.iload_n 3, 1) := by decide +kernel
theorem dX6_readWalker_107 : decode cX6_readWalker 107 = .ok (.invokevirtual 107, 3) := by decide +kernel
theorem dX6_readWalker_110 : decode cX6_readWalker 110 = .ok (.aload_n 0, 1) := by decide +kernel
theorem dX6_readWalker_111 : decode cX6_readWalker 111 = .ok (.getfield 12, 3) := by decide +kernel
theorem dX6_readWalker_114 : decode cX6_readWalker 114 = .ok (.dup, 1) := by decide +kernel
theorem dX6_readWalker_115 : decode cX6_readWalker 115 = .ok (.getfield 127, 3) := by decide +kernel
theorem dX6_readWalker_118 : decode cX6_readWalker 118 = .ok (.iconst 1, 1) := by decide +kernel
theorem dX6_readWalker_119 : decode cX6_readWalker 119 = .ok (.iadd, 1) := by decide +kernel
theorem dX6_readWalker_120 : decode cX6_readWalker 120 = .ok (.putfield 127, 3) := by decide +kernel
theorem dX6_readWalker_123 : decode cX6_readWalker 123 = .ok (.iconst 1, 1) := by decide +kernel
theorem dX6_readWalker_124 : decode cX6_readWalker 124 = .ok (.ireturn, 1) := by decide +kernel
def f_X6_readWalker (v0 : XM) (v1 : XM) : Option (Int32 × XM × XM) :=
  if ((v0.1 1 3) : Int32) < (5 : Int32) then
  (x_bo (f_X8_advance v1) (fun y1 =>
  x_bo (f_X6_readNewName v0 y1 ((14 : Int32) + (v0.1 1 3))) (fun y2 =>
  if y2.1 = (0 : Int32) then
  (some ((0 : Int32), y2.2.1, y2.2.2))
  else (x_bo (f_X8_takeNamed y2.2.2 (x_sub y2.2.1 1) (0 : Int32) (8 : Int32)) (fun y3 =>
  if (y3.1 : Int32) = (-1 : Int32) then
  (some ((0 : Int32), y2.2.1, y3.2))
  else (x_bo (f_X8_takeNumber y3.2 (1 : Int32) (5 : Int32)) (fun y4 =>
  if (y4.1 : Int32) = (-1 : Int32) then
  (some ((0 : Int32), y2.2.1, y4.2))
  else (x_lt (r_put 5 (x_sub y2.2.1 12) (y2.2.1.1 1 3) y3.1) (fun y5 =>
  x_lt (x_put y2.2.1 12 2 y5) (fun m6 =>
  x_lt (r_put 5 (x_sub m6 14) (m6.1 1 3) y4.1) (fun y7 =>
  x_lt (x_put m6 14 2 y7) (fun m8 =>
  x_lt (x_si m8 1 3 ((m8.1 1 3) + (1 : Int32))) (fun m9 =>
  some ((1 : Int32), m9, y4.2))))))))))))))
  else (x_lt (f_X8_refuse v1 (4 : Int32)) (fun y10 =>
  some (y10.1, v0, y10.2)))
set_option maxRecDepth 100000 in
set_option maxHeartbeats 4000000 in
theorem c_X6_readWalker {l : Launch}  {ad0 : Nat → Nat} {ad1 : Nat → Nat} {v0 v1 : XM}   {o : Int32 × XM × XM} (h : f_X6_readWalker v0 v1 = some o) : CT l yX6_readWalker cX6_readWalker 4 (some .boolean) 4 [(shSurveyor, ad0), (shTape, ad1)] [v0, v1] (fun aK => [.ref (ad0 0), .ref (ad1 0)]) (some (.int o.1)) (x_Z o.1) [o.2.1, o.2.2] := by
  refine CT_of (by decide) (fun _ => Nat.le_of_ble_eq_true rfl) ?_
  intro p e s m args below meth c D tc aK aV A X
  have X : Cx p s m args meth c cX6_readWalker 4 (some .boolean) RX6 D tc aK aV A [(shSurveyor, ad0), (shTape, ad1)] := X
  show aW p l e (x_Rm 4) s m args below meth c D tc A 4 [(shSurveyor, ad0), (shTape, ad1)] (some (.int o.1)) (x_Z o.1) [o.2.1, o.2.2] 0 [(0, .ref (ad0 0)), (1, .ref (ad1 0))] [] [v0, v1]
  unfold f_X6_readWalker at h
  refine a_aload_n (pc := 0) X 0 dX6_readWalker_0 rfl rfl ?_
  refine a_getR (pc := 1) X 0 1 1 fl_RX6_12 rfl rfl rfl rfl rfl dX6_readWalker_1 ?_
  refine a_getI (pc := 4) X 0 fl_RX6_127 rfl rfl rfl rfl dX6_readWalker_4 ?_
  refine a_iconst (pc := 7) X dX6_readWalker_7 q_ic_5 ?_
  refine a_icmp_lt (pc := 8) X 17 dX6_readWalker_8 rfl (fun c_8 => ?_) (fun c_8 => ?_)
  · have h := x_ifp c_8 h
    refine a_aload_n (pc := 17) X 1 dX6_readWalker_17 rfl rfl ?_
    obtain ⟨y1, e_y1, h⟩ := x_bo_elim h
    refine a_callV (pc := 18) (st2 := []) (vs2 := [v0, y1]) X [(1, 0, 4)] [some y1] 1 0 8 [] [] cv_RX6_68 (c_X8_advance (ad0 := ad1)  e_y1) rfl rfl rfl rfl rfl rfl rfl rfl rfl rfl rfl rfl rfl rfl rfl (Nat.le_of_ble_eq_true rfl) ⟨Nat.le_of_ble_eq_true rfl, Nat.le_of_ble_eq_true rfl⟩ dX6_readWalker_18 (fun _ => ?_)
    refine a_aload_n (pc := 21) X 0 dX6_readWalker_21 rfl rfl ?_
    refine a_aload_n (pc := 22) X 1 dX6_readWalker_22 rfl rfl ?_
    refine a_bipush (pc := 23) X dX6_readWalker_23 q_bp_14 ?_
    refine a_aload_n (pc := 25) X 0 dX6_readWalker_25 rfl rfl ?_
    refine a_getR (pc := 26) X 0 1 1 fl_RX6_12 rfl rfl rfl rfl rfl dX6_readWalker_26 ?_
    refine a_getI (pc := 29) X 0 fl_RX6_127 rfl rfl rfl rfl dX6_readWalker_29 ?_
    refine a_iadd (pc := 32) X dX6_readWalker_32 ?_
    obtain ⟨y2, e_y2, h⟩ := x_bo_elim h
    refine a_callV (pc := 33) (st2 := [.int y2.1]) (vs2 := [y2.2.1, y2.2.2]) X [(0, 0, 17), (1, 0, 4)] [some y2.2.1, some y2.2.2] 0 0 6 [.ref (ad1 0), .int ((14 : Int32) + (v0.1 1 3))] [] cv_RX6_71 (c_X6_readNewName (ad0 := ad0) (ad1 := ad1)  e_y2) rfl rfl rfl rfl rfl rfl rfl rfl rfl rfl rfl rfl rfl rfl rfl (Nat.le_of_ble_eq_true rfl) ⟨Nat.le_of_ble_eq_true rfl, Nat.le_of_ble_eq_true rfl⟩ dX6_readWalker_33 (fun z_33 => ?_)
    refine a_if_ne (pc := 36) X 41 dX6_readWalker_36 rfl (fun c_36 => ?_) (fun c_36 => ?_)
    · have h := x_ifn c_36 h
      refine a_aload_n (pc := 41) X 1 dX6_readWalker_41 rfl rfl ?_
      refine a_aload_n (pc := 42) X 0 dX6_readWalker_42 rfl rfl ?_
      refine a_getR (pc := 43) X 0 1 1 fl_RX6_12 rfl rfl rfl rfl rfl dX6_readWalker_43 ?_
      refine a_iconst (pc := 46) X dX6_readWalker_46 q_ic_0 ?_
      refine a_bipush (pc := 47) X dX6_readWalker_47 q_bp_8 ?_
      obtain ⟨y3, e_y3, h⟩ := x_bo_elim h
      refine a_callV (pc := 49) (st2 := [.int y3.1]) (vs2 := [y2.2.1, y3.2]) X [(1, 0, 4), (0, 1, 16)] [some y3.2, none] 1 0 8 [.ref (ad0 1), .int (0 : Int32), .int (8 : Int32)] [] cv_RX6_81 (c_X8_takeNamed (ad0 := ad1) (ad1 := (fun i => ad0 (i + 1)))  e_y3) rfl rfl rfl rfl rfl rfl rfl rfl rfl rfl rfl rfl rfl rfl rfl (Nat.le_of_ble_eq_true rfl) ⟨Nat.le_of_ble_eq_true rfl, Nat.le_of_ble_eq_true rfl⟩ dX6_readWalker_49 (fun _ => ?_)
      refine a_istore_n (pc := 52) X [(2, .int y3.1), (0, .ref (ad0 0)), (1, .ref (ad1 0))] dX6_readWalker_52 rfl (by decide) rfl ?_
      refine a_iload_n (pc := 53) X 0 dX6_readWalker_53 rfl rfl ?_
      refine a_iconst (pc := 54) X dX6_readWalker_54 q_ic_m1 ?_
      refine a_icmp_ne (pc := 55) X 60 dX6_readWalker_55 rfl (fun c_55 => ?_) (fun c_55 => ?_)
      · have h := x_ifn c_55 h
        refine a_aload_n (pc := 60) X 2 dX6_readWalker_60 rfl rfl ?_
        refine a_iconst (pc := 61) X dX6_readWalker_61 q_ic_1 ?_
        refine a_iconst (pc := 62) X dX6_readWalker_62 q_ic_5 ?_
        obtain ⟨y4, e_y4, h⟩ := x_bo_elim h
        refine a_callV (pc := 63) (st2 := [.int y4.1]) (vs2 := [y2.2.1, y4.2]) X [(1, 0, 4)] [some y4.2] 1 0 8 [.int (1 : Int32), .int (5 : Int32)] [] cv_RX6_95 (c_X8_takeNumber (ad0 := ad1)  e_y4) rfl rfl rfl rfl rfl rfl rfl rfl rfl rfl rfl rfl rfl rfl rfl (Nat.le_of_ble_eq_true rfl) ⟨Nat.le_of_ble_eq_true rfl, Nat.le_of_ble_eq_true rfl⟩ dX6_readWalker_63 (fun _ => ?_)
        refine a_istore_n (pc := 66) X [(3, .int y4.1), (2, .int y3.1), (0, .ref (ad0 0)), (1, .ref (ad1 0))] dX6_readWalker_66 rfl (by decide) rfl ?_
        refine a_iload_n (pc := 67) X 0 dX6_readWalker_67 rfl rfl ?_
        refine a_iconst (pc := 68) X dX6_readWalker_68 q_ic_m1 ?_
        refine a_icmp_ne (pc := 69) X 74 dX6_readWalker_69 rfl (fun c_69 => ?_) (fun c_69 => ?_)
        · have h := x_ifn c_69 h
          refine a_aload_n (pc := 74) X 2 dX6_readWalker_74 rfl rfl ?_
          refine a_getR (pc := 75) X 0 1 1 fl_RX6_12 rfl rfl rfl rfl rfl dX6_readWalker_75 ?_
          refine a_getR (pc := 78) X 0 11 12 fl_RX6_130 rfl rfl rfl rfl rfl dX6_readWalker_78 ?_
          refine a_aload_n (pc := 81) X 2 dX6_readWalker_81 rfl rfl ?_
          refine a_getR (pc := 82) X 0 1 1 fl_RX6_12 rfl rfl rfl rfl rfl dX6_readWalker_82 ?_
          refine a_getI (pc := 85) X 0 fl_RX6_127 rfl rfl rfl rfl dX6_readWalker_85 ?_
          refine a_iload_n (pc := 88) X 1 dX6_readWalker_88 rfl rfl ?_
          obtain ⟨y5, e_y5, h⟩ := x_lt_elim h
          refine a_callV (pc := 89) (st2 := []) (vs2 := [x_put y2.2.1 12 2 y5, y4.2]) X [(0, 12, 2)] [some y5] 0 12 3 [.int (y2.2.1.1 1 3), .int y3.1] [] cv_RX6_107 (ct_put (ad0 := (fun i => ad0 (i + 12))) (by decide) e_y5) rfl rfl rfl rfl rfl rfl rfl rfl rfl rfl rfl rfl rfl rfl rfl (Nat.le_of_ble_eq_true rfl) ⟨Nat.le_of_ble_eq_true rfl, Nat.le_of_ble_eq_true rfl⟩ dX6_readWalker_89 (fun _ => ?_)
          obtain ⟨m6, e_m6, h⟩ := x_lt_elim h
          refine a_nm (vs2 := [m6, y4.2]) (congrArg (fun q : XM => [q, y4.2]) e_m6) ?_
          refine a_aload_n (pc := 92) X 2 dX6_readWalker_92 rfl rfl ?_
          refine a_getR (pc := 93) X 0 1 1 fl_RX6_12 rfl rfl rfl rfl rfl dX6_readWalker_93 ?_
          refine a_getR (pc := 96) X 0 13 14 fl_RX6_133 rfl rfl rfl rfl rfl dX6_readWalker_96 ?_
          refine a_aload_n (pc := 99) X 2 dX6_readWalker_99 rfl rfl ?_
          refine a_getR (pc := 100) X 0 1 1 fl_RX6_12 rfl rfl rfl rfl rfl dX6_readWalker_100 ?_
          refine a_getI (pc := 103) X 0 fl_RX6_127 rfl rfl rfl rfl dX6_readWalker_103 ?_
          refine a_iload_n (pc := 106) X 0 dX6_readWalker_106 rfl rfl ?_
          obtain ⟨y7, e_y7, h⟩ := x_lt_elim h
          refine a_callV (pc := 107) (st2 := []) (vs2 := [x_put m6 14 2 y7, y4.2]) X [(0, 14, 2)] [some y7] 0 14 3 [.int (m6.1 1 3), .int y4.1] [] cv_RX6_107 (ct_put (ad0 := (fun i => ad0 (i + 14))) (by decide) e_y7) rfl rfl rfl rfl rfl rfl rfl rfl rfl rfl rfl rfl rfl rfl rfl (Nat.le_of_ble_eq_true rfl) ⟨Nat.le_of_ble_eq_true rfl, Nat.le_of_ble_eq_true rfl⟩ dX6_readWalker_107 (fun _ => ?_)
          obtain ⟨m8, e_m8, h⟩ := x_lt_elim h
          refine a_nm (vs2 := [m8, y4.2]) (congrArg (fun q : XM => [q, y4.2]) e_m8) ?_
          refine a_aload_n (pc := 110) X 2 dX6_readWalker_110 rfl rfl ?_
          refine a_getR (pc := 111) X 0 1 1 fl_RX6_12 rfl rfl rfl rfl rfl dX6_readWalker_111 ?_
          refine a_dup (pc := 114) X dX6_readWalker_114 rfl ?_
          refine a_getI (pc := 115) X 0 fl_RX6_127 rfl rfl rfl rfl dX6_readWalker_115 ?_
          refine a_iconst (pc := 118) X dX6_readWalker_118 q_ic_1 ?_
          refine a_iadd (pc := 119) X dX6_readWalker_119 ?_
          refine a_putI (pc := 120) X 0 fl_RX6_127 rfl rfl rfl rfl dX6_readWalker_120 ?_
          obtain ⟨m9, e_m9, h⟩ := x_lt_elim h
          refine a_nm (vs2 := [m9, y4.2]) (congrArg (fun q : XM => [q, y4.2]) e_m9) ?_
          refine a_iconst (pc := 123) X dX6_readWalker_123 q_ic_1 ?_
          have h := Option.some.inj h; subst h
          exact a_zret (pc := 124) X x_Z1 x_Z1 dX6_readWalker_124
        · have h := x_ifp c_69 h
          refine a_iconst (pc := 72) X dX6_readWalker_72 q_ic_0 ?_
          have h := Option.some.inj h; subst h
          exact a_zret (pc := 73) X x_Z0 x_Z0 dX6_readWalker_73
      · have h := x_ifp c_55 h
        refine a_iconst (pc := 58) X dX6_readWalker_58 q_ic_0 ?_
        have h := Option.some.inj h; subst h
        exact a_zret (pc := 59) X x_Z0 x_Z0 dX6_readWalker_59
    · have h := x_ifp c_36 h
      refine a_iconst (pc := 39) X dX6_readWalker_39 q_ic_0 ?_
      have h := Option.some.inj h; subst h
      exact a_zret (pc := 40) X x_Z0 x_Z0 dX6_readWalker_40
  · have h := x_ifn c_8 h
    refine a_aload_n (pc := 11) X 1 dX6_readWalker_11 rfl rfl ?_
    refine a_iconst (pc := 12) X dX6_readWalker_12 q_ic_4 ?_
    obtain ⟨y10, e_y10, h⟩ := x_lt_elim h
    refine a_callV (pc := 13) (st2 := [.int y10.1]) (vs2 := [v0, y10.2]) X [(1, 0, 4)] [some y10.2] 1 0 8 [.int (4 : Int32)] [] cv_RX6_61 (c_X8_refuse (ad0 := ad1)  e_y10) rfl rfl rfl rfl rfl rfl rfl rfl rfl rfl rfl rfl rfl rfl rfl (Nat.le_of_ble_eq_true rfl) ⟨Nat.le_of_ble_eq_true rfl, Nat.le_of_ble_eq_true rfl⟩ dX6_readWalker_13 (fun z_13 => ?_)
    have h := Option.some.inj h; subst h
    exact a_zret (pc := 16) X z_13 z_13 dX6_readWalker_16
theorem dX6_readBreath_0 : decode cX6_readBreath 0 = .ok (.aload_n 0, 1) := by decide +kernel
theorem dX6_readBreath_1 : decode cX6_readBreath 1 = .ok (.getfield 21, 3) := by decide +kernel
theorem dX6_readBreath_4 : decode cX6_readBreath 4 = .ok (.ifCond .eq 9, 3) := by decide +kernel
theorem dX6_readBreath_7 : decode cX6_readBreath 7 = .ok (.aload_n 1, 1) := by decide +kernel
theorem dX6_readBreath_8 : decode cX6_readBreath 8 = .ok (.iconst 3, 1) := by decide +kernel
theorem dX6_readBreath_9 : decode cX6_readBreath 9 = .ok (.invokevirtual 61, 3) := by decide +kernel
theorem dX6_readBreath_12 : decode cX6_readBreath 12 = .ok (.ireturn, 1) := by decide +kernel
theorem dX6_readBreath_13 : decode cX6_readBreath 13 = .ok (.aload_n 0, 1) := by decide +kernel
theorem dX6_readBreath_14 : decode cX6_readBreath 14 = .ok (.iconst 1, 1) := by decide +kernel
theorem dX6_readBreath_15 : decode cX6_readBreath 15 = .ok (.putfield 21, 3) := by decide +kernel
theorem dX6_readBreath_18 : decode cX6_readBreath 18 = .ok (.aload_n 1, 1) := by decide +kernel
theorem dX6_readBreath_19 : decode cX6_readBreath 19 = .ok (.invokevirtual 68, 3) := by decide +kernel
theorem dX6_readBreath_22 : decode cX6_readBreath 22 = .ok (.aload_n 1, 1) := by decide +kernel
theorem dX6_readBreath_23 : decode cX6_readBreath 23 = .ok (.iconst 2, 1) := by decide +kernel
theorem dX6_readBreath_24 : decode cX6_readBreath 24 = .ok (.bipush 40, 2) := by decide +kernel
theorem dX6_readBreath_26 : decode cX6_readBreath 26 = .ok (.invokevirtual 95, 3) := by decide +kernel
theorem dX6_readBreath_29 : decode cX6_readBreath 29 = .ok (.istore_n 2, 1) := by decide +kernel
theorem dX6_readBreath_30 : decode cX6_readBreath 30 = .ok (.iload_n 2, 1) := by decide +kernel
theorem dX6_readBreath_31 : decode cX6_readBreath 31 = .ok (.iconst (-1), 1) := by decide +kernel
theorem dX6_readBreath_32 : decode cX6_readBreath 32 = .ok (.if_icmp .ne 5, 3) := by decide +kernel
theorem dX6_readBreath_35 : decode cX6_readBreath 35 = .ok (.iconst 0, 1) := by decide +kernel
theorem dX6_readBreath_36 : decode cX6_readBreath 36 = .ok (.ireturn, 1) := by decide +kernel
theorem dX6_readBreath_37 : decode cX6_readBreath 37 = .ok (.aload_n 0, 1) := by decide +kernel
theorem dX6_readBreath_38 : decode cX6_readBreath 38 = .ok (.getfield 12, 3) := by decide +kernel
theorem dX6_readBreath_41 : decode cX6_readBreath 41 = .ok (.iload_n 2, 1) := by decide +kernel
theorem dX6_readBreath_42 : decode cX6_readBreath 42 = .ok (.putfield 136, 3) := by decide +kernel
theorem dX6_readBreath_45 : decode cX6_readBreath 45 = .ok (.iconst 1, 1) := by decide +kernel
theorem dX6_readBreath_46 : decode cX6_readBreath 46 = .ok (.ireturn, 1) := by decide +kernel
def f_X6_readBreath (v0 : XM) (v1 : XM) : Option (Int32 × XM × XM) :=
  if (v0.1 0 1) = (0 : Int32) then
  (x_lt (x_si v0 0 1 (1 : Int32)) (fun m1 =>
  x_bo (f_X8_advance v1) (fun y2 =>
  x_bo (f_X8_takeNumber y2 (2 : Int32) (40 : Int32)) (fun y3 =>
  if (y3.1 : Int32) = (-1 : Int32) then
  (some ((0 : Int32), m1, y3.2))
  else (x_lt (x_si m1 1 4 y3.1) (fun m4 =>
  some ((1 : Int32), m4, y3.2)))))))
  else (x_lt (f_X8_refuse v1 (3 : Int32)) (fun y5 =>
  some (y5.1, v0, y5.2)))
set_option maxRecDepth 100000 in
set_option maxHeartbeats 4000000 in
theorem c_X6_readBreath {l : Launch}  {ad0 : Nat → Nat} {ad1 : Nat → Nat} {v0 v1 : XM}   {o : Int32 × XM × XM} (h : f_X6_readBreath v0 v1 = some o) : CT l yX6_readBreath cX6_readBreath 3 (some .boolean) 4 [(shSurveyor, ad0), (shTape, ad1)] [v0, v1] (fun aK => [.ref (ad0 0), .ref (ad1 0)]) (some (.int o.1)) (x_Z o.1) [o.2.1, o.2.2] := by
  refine CT_of (by decide) (fun _ => Nat.le_of_ble_eq_true rfl) ?_
  intro p e s m args below meth c D tc aK aV A X
  have X : Cx p s m args meth c cX6_readBreath 3 (some .boolean) RX6 D tc aK aV A [(shSurveyor, ad0), (shTape, ad1)] := X
  show aW p l e (x_Rm 4) s m args below meth c D tc A 3 [(shSurveyor, ad0), (shTape, ad1)] (some (.int o.1)) (x_Z o.1) [o.2.1, o.2.2] 0 [(0, .ref (ad0 0)), (1, .ref (ad1 0))] [] [v0, v1]
  unfold f_X6_readBreath at h
  refine a_aload_n (pc := 0) X 0 dX6_readBreath_0 rfl rfl ?_
  refine a_getI (pc := 1) X 0 fl_RX6_21 rfl rfl rfl rfl dX6_readBreath_1 ?_
  refine a_if_eq (pc := 4) X 13 dX6_readBreath_4 rfl (fun c_4 => ?_) (fun c_4 => ?_)
  · have h := x_ifp c_4 h
    refine a_aload_n (pc := 13) X 0 dX6_readBreath_13 rfl rfl ?_
    refine a_iconst (pc := 14) X dX6_readBreath_14 q_ic_1 ?_
    refine a_putZ (pc := 15) X 0 x_Z1 fl_RX6_21 rfl rfl rfl rfl dX6_readBreath_15 ?_
    obtain ⟨m1, e_m1, h⟩ := x_lt_elim h
    refine a_nm (vs2 := [m1, v1]) (congrArg (fun q : XM => [q, v1]) e_m1) ?_
    refine a_aload_n (pc := 18) X 1 dX6_readBreath_18 rfl rfl ?_
    obtain ⟨y2, e_y2, h⟩ := x_bo_elim h
    refine a_callV (pc := 19) (st2 := []) (vs2 := [m1, y2]) X [(1, 0, 4)] [some y2] 1 0 8 [] [] cv_RX6_68 (c_X8_advance (ad0 := ad1)  e_y2) rfl rfl rfl rfl rfl rfl rfl rfl rfl rfl rfl rfl rfl rfl rfl (Nat.le_of_ble_eq_true rfl) ⟨Nat.le_of_ble_eq_true rfl, Nat.le_of_ble_eq_true rfl⟩ dX6_readBreath_19 (fun _ => ?_)
    refine a_aload_n (pc := 22) X 1 dX6_readBreath_22 rfl rfl ?_
    refine a_iconst (pc := 23) X dX6_readBreath_23 q_ic_2 ?_
    refine a_bipush (pc := 24) X dX6_readBreath_24 q_bp_40 ?_
    obtain ⟨y3, e_y3, h⟩ := x_bo_elim h
    refine a_callV (pc := 26) (st2 := [.int y3.1]) (vs2 := [m1, y3.2]) X [(1, 0, 4)] [some y3.2] 1 0 8 [.int (2 : Int32), .int (40 : Int32)] [] cv_RX6_95 (c_X8_takeNumber (ad0 := ad1)  e_y3) rfl rfl rfl rfl rfl rfl rfl rfl rfl rfl rfl rfl rfl rfl rfl (Nat.le_of_ble_eq_true rfl) ⟨Nat.le_of_ble_eq_true rfl, Nat.le_of_ble_eq_true rfl⟩ dX6_readBreath_26 (fun _ => ?_)
    refine a_istore_n (pc := 29) X [(2, .int y3.1), (0, .ref (ad0 0)), (1, .ref (ad1 0))] dX6_readBreath_29 rfl (by decide) rfl ?_
    refine a_iload_n (pc := 30) X 0 dX6_readBreath_30 rfl rfl ?_
    refine a_iconst (pc := 31) X dX6_readBreath_31 q_ic_m1 ?_
    refine a_icmp_ne (pc := 32) X 37 dX6_readBreath_32 rfl (fun c_32 => ?_) (fun c_32 => ?_)
    · have h := x_ifn c_32 h
      refine a_aload_n (pc := 37) X 1 dX6_readBreath_37 rfl rfl ?_
      refine a_getR (pc := 38) X 0 1 1 fl_RX6_12 rfl rfl rfl rfl rfl dX6_readBreath_38 ?_
      refine a_iload_n (pc := 41) X 0 dX6_readBreath_41 rfl rfl ?_
      refine a_putI (pc := 42) X 0 fl_RX6_136 rfl rfl rfl rfl dX6_readBreath_42 ?_
      obtain ⟨m4, e_m4, h⟩ := x_lt_elim h
      refine a_nm (vs2 := [m4, y3.2]) (congrArg (fun q : XM => [q, y3.2]) e_m4) ?_
      refine a_iconst (pc := 45) X dX6_readBreath_45 q_ic_1 ?_
      have h := Option.some.inj h; subst h
      exact a_zret (pc := 46) X x_Z1 x_Z1 dX6_readBreath_46
    · have h := x_ifp c_32 h
      refine a_iconst (pc := 35) X dX6_readBreath_35 q_ic_0 ?_
      have h := Option.some.inj h; subst h
      exact a_zret (pc := 36) X x_Z0 x_Z0 dX6_readBreath_36
  · have h := x_ifn c_4 h
    refine a_aload_n (pc := 7) X 1 dX6_readBreath_7 rfl rfl ?_
    refine a_iconst (pc := 8) X dX6_readBreath_8 q_ic_3 ?_
    obtain ⟨y5, e_y5, h⟩ := x_lt_elim h
    refine a_callV (pc := 9) (st2 := [.int y5.1]) (vs2 := [v0, y5.2]) X [(1, 0, 4)] [some y5.2] 1 0 8 [.int (3 : Int32)] [] cv_RX6_61 (c_X8_refuse (ad0 := ad1)  e_y5) rfl rfl rfl rfl rfl rfl rfl rfl rfl rfl rfl rfl rfl rfl rfl (Nat.le_of_ble_eq_true rfl) ⟨Nat.le_of_ble_eq_true rfl, Nat.le_of_ble_eq_true rfl⟩ dX6_readBreath_9 (fun z_9 => ?_)
    have h := Option.some.inj h; subst h
    exact a_zret (pc := 12) X z_9 z_9 dX6_readBreath_12
theorem dX6_readLine_0 : decode cX6_readLine 0 = .ok (.aload_n 1, 1) := by decide +kernel
theorem dX6_readLine_1 : decode cX6_readLine 1 = .ok (.getfield 43, 3) := by decide +kernel
theorem dX6_readLine_4 : decode cX6_readLine 4 = .ok (.tableswitch 70 0 5 #[40, 70, 46, 52, 58, 64], 40) := by decide +kernel
theorem dX6_readLine_44 : decode cX6_readLine 44 = .ok (.aload_n 0, 1) := by decide +kernel
theorem dX6_readLine_45 : decode cX6_readLine 45 = .ok (.aload_n 1, 1) := by decide +kernel
theorem dX6_readLine_46 : decode cX6_readLine 46 = .ok (.invokevirtual 46, 3) := by decide +kernel
theorem dX6_readLine_49 : decode cX6_readLine 49 = .ok (.ireturn, 1) := by decide +kernel
theorem dX6_readLine_50 : decode cX6_readLine 50 = .ok (.aload_n 0, 1) := by decide +kernel
theorem dX6_readLine_51 : decode cX6_readLine 51 = .ok (.aload_n 1, 1) := by decide +kernel
theorem dX6_readLine_52 : decode cX6_readLine 52 = .ok (.invokevirtual 49, 3) := by decide +kernel
theorem dX6_readLine_55 : decode cX6_readLine 55 = .ok (.ireturn, 1) := by decide +kernel
theorem dX6_readLine_56 : decode cX6_readLine 56 = .ok (.aload_n 0, 1) := by decide +kernel
theorem dX6_readLine_57 : decode cX6_readLine 57 = .ok (.aload_n 1, 1) := by decide +kernel
theorem dX6_readLine_58 : decode cX6_readLine 58 = .ok (.invokevirtual 52, 3) := by decide +kernel
theorem dX6_readLine_61 : decode cX6_readLine 61 = .ok (.ireturn, 1) := by decide +kernel
theorem dX6_readLine_62 : decode cX6_readLine 62 = .ok (.aload_n 0, 1) := by decide +kernel
theorem dX6_readLine_63 : decode cX6_readLine 63 = .ok (.aload_n 1, 1) := by decide +kernel
theorem dX6_readLine_64 : decode cX6_readLine 64 = .ok (.invokevirtual 55, 3) := by decide +kernel
theorem dX6_readLine_67 : decode cX6_readLine 67 = .ok (.ireturn, 1) := by decide +kernel
theorem dX6_readLine_68 : decode cX6_readLine 68 = .ok (.aload_n 0, 1) := by decide +kernel
theorem dX6_readLine_69 : decode cX6_readLine 69 = .ok (.aload_n 1, 1) := by decide +kernel
theorem dX6_readLine_70 : decode cX6_readLine 70 = .ok (.invokevirtual 58, 3) := by decide +kernel
theorem dX6_readLine_73 : decode cX6_readLine 73 = .ok (.ireturn, 1) := by decide +kernel
theorem dX6_readLine_74 : decode cX6_readLine 74 = .ok (.aload_n 1, 1) := by decide +kernel
theorem dX6_readLine_75 : decode cX6_readLine 75 = .ok (.iconst 1, 1) := by decide +kernel
theorem dX6_readLine_76 : decode cX6_readLine 76 = .ok (.invokevirtual 61, 3) := by decide +kernel
theorem dX6_readLine_79 : decode cX6_readLine 79 = .ok (.ireturn, 1) := by decide +kernel
def f_X6_readLine (v0 : XM) (v1 : XM) : Option (Int32 × XM × XM) :=
  if (v1.1 0 8) = (0 : Int32) then
  (x_bo (f_X6_readSpot v0 v1) (fun y2 =>
  some (y2.1, y2.2.1, y2.2.2)))
  else (if (v1.1 0 8) = (1 : Int32) then
  (x_lt (f_X8_refuse v1 (1 : Int32)) (fun y3 =>
  some (y3.1, v0, y3.2)))
  else (if (v1.1 0 8) = (2 : Int32) then
  (x_bo (f_X6_readFold v0 v1) (fun y4 =>
  some (y4.1, y4.2.1, y4.2.2)))
  else (if (v1.1 0 8) = (3 : Int32) then
  (x_bo (f_X6_readThing v0 v1) (fun y5 =>
  some (y5.1, y5.2.1, y5.2.2)))
  else (if (v1.1 0 8) = (4 : Int32) then
  (x_bo (f_X6_readWalker v0 v1) (fun y6 =>
  some (y6.1, y6.2.1, y6.2.2)))
  else (if (v1.1 0 8) = (5 : Int32) then
  (x_bo (f_X6_readBreath v0 v1) (fun y7 =>
  some (y7.1, y7.2.1, y7.2.2)))
  else (x_lt (f_X8_refuse v1 (1 : Int32)) (fun y8 =>
  some (y8.1, v0, y8.2))))))))
set_option maxRecDepth 100000 in
set_option maxHeartbeats 4000000 in
theorem c_X6_readLine {l : Launch}  {ad0 : Nat → Nat} {ad1 : Nat → Nat} {v0 v1 : XM}   {o : Int32 × XM × XM} (h : f_X6_readLine v0 v1 = some o) : CT l yX6_readLine cX6_readLine 2 (some .boolean) 5 [(shSurveyor, ad0), (shTape, ad1)] [v0, v1] (fun aK => [.ref (ad0 0), .ref (ad1 0)]) (some (.int o.1)) (x_Z o.1) [o.2.1, o.2.2] := by
  refine CT_of (by decide) (fun _ => Nat.le_of_ble_eq_true rfl) ?_
  intro p e s m args below meth c D tc aK aV A X
  have X : Cx p s m args meth c cX6_readLine 2 (some .boolean) RX6 D tc aK aV A [(shSurveyor, ad0), (shTape, ad1)] := X
  show aW p l e (x_Rm 5) s m args below meth c D tc A 2 [(shSurveyor, ad0), (shTape, ad1)] (some (.int o.1)) (x_Z o.1) [o.2.1, o.2.2] 0 [(0, .ref (ad0 0)), (1, .ref (ad1 0))] [] [v0, v1]
  unfold f_X6_readLine at h
  refine a_aload_n (pc := 0) X 1 dX6_readLine_0 rfl rfl ?_
  refine a_getI (pc := 1) X 1 fl_RX6_43 rfl rfl rfl rfl dX6_readLine_1 ?_
  by_cases c_4_0 : (v1.1 0 8) = (0 : Int32)
  · have h := x_ifp c_4_0 h
    refine a_tin (pc := 4) X 44 dX6_readLine_4 c_4_0 (by decide) (by decide) rfl rfl ?_
    refine a_aload_n (pc := 44) X 0 dX6_readLine_44 rfl rfl ?_
    refine a_aload_n (pc := 45) X 1 dX6_readLine_45 rfl rfl ?_
    obtain ⟨y2, e_y2, h⟩ := x_bo_elim h
    refine a_callV (pc := 46) (st2 := [.int y2.1]) (vs2 := [y2.2.1, y2.2.2]) X [(0, 0, 17), (1, 0, 4)] [some y2.2.1, some y2.2.2] 0 0 6 [.ref (ad1 0)] [] cv_RX6_46 (c_X6_readSpot (ad0 := ad0) (ad1 := ad1)  e_y2) rfl rfl rfl rfl rfl rfl rfl rfl rfl rfl rfl rfl rfl rfl rfl (Nat.le_of_ble_eq_true rfl) ⟨Nat.le_of_ble_eq_true rfl, Nat.le_of_ble_eq_true rfl⟩ dX6_readLine_46 (fun z_46 => ?_)
    have h := Option.some.inj h; subst h
    exact a_zret (pc := 49) X z_46 z_46 dX6_readLine_49
  · have h := x_ifn c_4_0 h
    by_cases c_4_1 : (v1.1 0 8) = (1 : Int32)
    · have h := x_ifp c_4_1 h
      refine a_tin (pc := 4) X 74 dX6_readLine_4 c_4_1 (by decide) (by decide) rfl rfl ?_
      refine a_aload_n (pc := 74) X 1 dX6_readLine_74 rfl rfl ?_
      refine a_iconst (pc := 75) X dX6_readLine_75 q_ic_1 ?_
      obtain ⟨y3, e_y3, h⟩ := x_lt_elim h
      refine a_callV (pc := 76) (st2 := [.int y3.1]) (vs2 := [v0, y3.2]) X [(1, 0, 4)] [some y3.2] 1 0 8 [.int (1 : Int32)] [] cv_RX6_61 (c_X8_refuse (ad0 := ad1)  e_y3) rfl rfl rfl rfl rfl rfl rfl rfl rfl rfl rfl rfl rfl rfl rfl (Nat.le_of_ble_eq_true rfl) ⟨Nat.le_of_ble_eq_true rfl, Nat.le_of_ble_eq_true rfl⟩ dX6_readLine_76 (fun z_76 => ?_)
      have h := Option.some.inj h; subst h
      exact a_zret (pc := 79) X z_76 z_76 dX6_readLine_79
    · have h := x_ifn c_4_1 h
      by_cases c_4_2 : (v1.1 0 8) = (2 : Int32)
      · have h := x_ifp c_4_2 h
        refine a_tin (pc := 4) X 50 dX6_readLine_4 c_4_2 (by decide) (by decide) rfl rfl ?_
        refine a_aload_n (pc := 50) X 0 dX6_readLine_50 rfl rfl ?_
        refine a_aload_n (pc := 51) X 1 dX6_readLine_51 rfl rfl ?_
        obtain ⟨y4, e_y4, h⟩ := x_bo_elim h
        refine a_callV (pc := 52) (st2 := [.int y4.1]) (vs2 := [y4.2.1, y4.2.2]) X [(0, 0, 17), (1, 0, 4)] [some y4.2.1, some y4.2.2] 0 0 6 [.ref (ad1 0)] [] cv_RX6_49 (c_X6_readFold (ad0 := ad0) (ad1 := ad1)  e_y4) rfl rfl rfl rfl rfl rfl rfl rfl rfl rfl rfl rfl rfl rfl rfl (Nat.le_of_ble_eq_true rfl) ⟨Nat.le_of_ble_eq_true rfl, Nat.le_of_ble_eq_true rfl⟩ dX6_readLine_52 (fun z_52 => ?_)
        have h := Option.some.inj h; subst h
        exact a_zret (pc := 55) X z_52 z_52 dX6_readLine_55
      · have h := x_ifn c_4_2 h
        by_cases c_4_3 : (v1.1 0 8) = (3 : Int32)
        · have h := x_ifp c_4_3 h
          refine a_tin (pc := 4) X 56 dX6_readLine_4 c_4_3 (by decide) (by decide) rfl rfl ?_
          refine a_aload_n (pc := 56) X 0 dX6_readLine_56 rfl rfl ?_
          refine a_aload_n (pc := 57) X 1 dX6_readLine_57 rfl rfl ?_
          obtain ⟨y5, e_y5, h⟩ := x_bo_elim h
          refine a_callV (pc := 58) (st2 := [.int y5.1]) (vs2 := [y5.2.1, y5.2.2]) X [(0, 0, 17), (1, 0, 4)] [some y5.2.1, some y5.2.2] 0 0 6 [.ref (ad1 0)] [] cv_RX6_52 (c_X6_readThing (ad0 := ad0) (ad1 := ad1)  e_y5) rfl rfl rfl rfl rfl rfl rfl rfl rfl rfl rfl rfl rfl rfl rfl (Nat.le_of_ble_eq_true rfl) ⟨Nat.le_of_ble_eq_true rfl, Nat.le_of_ble_eq_true rfl⟩ dX6_readLine_58 (fun z_58 => ?_)
          have h := Option.some.inj h; subst h
          exact a_zret (pc := 61) X z_58 z_58 dX6_readLine_61
        · have h := x_ifn c_4_3 h
          by_cases c_4_4 : (v1.1 0 8) = (4 : Int32)
          · have h := x_ifp c_4_4 h
            refine a_tin (pc := 4) X 62 dX6_readLine_4 c_4_4 (by decide) (by decide) rfl rfl ?_
            refine a_aload_n (pc := 62) X 0 dX6_readLine_62 rfl rfl ?_
            refine a_aload_n (pc := 63) X 1 dX6_readLine_63 rfl rfl ?_
            obtain ⟨y6, e_y6, h⟩ := x_bo_elim h
            refine a_callV (pc := 64) (st2 := [.int y6.1]) (vs2 := [y6.2.1, y6.2.2]) X [(0, 0, 17), (1, 0, 4)] [some y6.2.1, some y6.2.2] 0 0 6 [.ref (ad1 0)] [] cv_RX6_55 (c_X6_readWalker (ad0 := ad0) (ad1 := ad1)  e_y6) rfl rfl rfl rfl rfl rfl rfl rfl rfl rfl rfl rfl rfl rfl rfl (Nat.le_of_ble_eq_true rfl) ⟨Nat.le_of_ble_eq_true rfl, Nat.le_of_ble_eq_true rfl⟩ dX6_readLine_64 (fun z_64 => ?_)
            have h := Option.some.inj h; subst h
            exact a_zret (pc := 67) X z_64 z_64 dX6_readLine_67
          · have h := x_ifn c_4_4 h
            by_cases c_4_5 : (v1.1 0 8) = (5 : Int32)
            · have h := x_ifp c_4_5 h
              refine a_tin (pc := 4) X 68 dX6_readLine_4 c_4_5 (by decide) (by decide) rfl rfl ?_
              refine a_aload_n (pc := 68) X 0 dX6_readLine_68 rfl rfl ?_
              refine a_aload_n (pc := 69) X 1 dX6_readLine_69 rfl rfl ?_
              obtain ⟨y7, e_y7, h⟩ := x_bo_elim h
              refine a_callV (pc := 70) (st2 := [.int y7.1]) (vs2 := [y7.2.1, y7.2.2]) X [(0, 0, 17), (1, 0, 4)] [some y7.2.1, some y7.2.2] 0 0 6 [.ref (ad1 0)] [] cv_RX6_58 (c_X6_readBreath (ad0 := ad0) (ad1 := ad1)  e_y7) rfl rfl rfl rfl rfl rfl rfl rfl rfl rfl rfl rfl rfl rfl rfl (Nat.le_of_ble_eq_true rfl) ⟨Nat.le_of_ble_eq_true rfl, Nat.le_of_ble_eq_true rfl⟩ dX6_readLine_70 (fun z_70 => ?_)
              have h := Option.some.inj h; subst h
              exact a_zret (pc := 73) X z_70 z_70 dX6_readLine_73
            · have h := x_ifn c_4_5 h
              refine a_tout (pc := 4) X 74 dX6_readLine_4 (by have q0 := x_ne c_4_0; have q1 := x_ne c_4_1; have q2 := x_ne c_4_2; have q3 := x_ne c_4_3; have q4 := x_ne c_4_4; have q5 := x_ne c_4_5; have q0 : ((v1.1 0 8) : Int32).toInt ≠ 0 := q0; have q1 : ((v1.1 0 8) : Int32).toInt ≠ 1 := q1; have q2 : ((v1.1 0 8) : Int32).toInt ≠ 2 := q2; have q3 : ((v1.1 0 8) : Int32).toInt ≠ 3 := q3; have q4 : ((v1.1 0 8) : Int32).toInt ≠ 4 := q4; have q5 : ((v1.1 0 8) : Int32).toInt ≠ 5 := q5; omega) rfl ?_
              refine a_aload_n (pc := 74) X 1 dX6_readLine_74 rfl rfl ?_
              refine a_iconst (pc := 75) X dX6_readLine_75 q_ic_1 ?_
              obtain ⟨y8, e_y8, h⟩ := x_lt_elim h
              refine a_callV (pc := 76) (st2 := [.int y8.1]) (vs2 := [v0, y8.2]) X [(1, 0, 4)] [some y8.2] 1 0 8 [.int (1 : Int32)] [] cv_RX6_61 (c_X8_refuse (ad0 := ad1)  e_y8) rfl rfl rfl rfl rfl rfl rfl rfl rfl rfl rfl rfl rfl rfl rfl (Nat.le_of_ble_eq_true rfl) ⟨Nat.le_of_ble_eq_true rfl, Nat.le_of_ble_eq_true rfl⟩ dX6_readLine_76 (fun z_76 => ?_)
              have h := Option.some.inj h; subst h
              exact a_zret (pc := 79) X z_76 z_76 dX6_readLine_79
theorem dX6_readValley_0 : decode cX6_readValley 0 = .ok (.aload_n 0, 1) := by decide +kernel
theorem dX6_readValley_1 : decode cX6_readValley 1 = .ok (.getfield 12, 3) := by decide +kernel
theorem dX6_readValley_4 : decode cX6_readValley 4 = .ok (.invokevirtual 18, 3) := by decide +kernel
theorem dX6_readValley_7 : decode cX6_readValley 7 = .ok (.aload_n 0, 1) := by decide +kernel
theorem dX6_readValley_8 : decode cX6_readValley 8 = .ok (.iconst 0, 1) := by decide +kernel
theorem dX6_readValley_9 : decode cX6_readValley 9 = .ok (.putfield 21, 3) := by decide +kernel
theorem dX6_readValley_12 : decode cX6_readValley 12 = .ok (.aload_n 1, 1) := by decide +kernel
theorem dX6_readValley_13 : decode cX6_readValley 13 = .ok (.sipush 900, 3) := by decide +kernel
theorem dX6_readValley_16 : decode cX6_readValley 16 = .ok (.invokevirtual 25, 3) := by decide +kernel
theorem dX6_readValley_19 : decode cX6_readValley 19 = .ok (.iconst 0, 1) := by decide +kernel
theorem dX6_readValley_20 : decode cX6_readValley 20 = .ok (.istore_n 2, 1) := by decide +kernel
theorem dX6_readValley_21 : decode cX6_readValley 21 = .ok (.iload_n 2, 1) := by decide +kernel
theorem dX6_readValley_22 : decode cX6_readValley 22 = .ok (.sipush 900, 3) := by decide +kernel
theorem dX6_readValley_25 : decode cX6_readValley 25 = .ok (.if_icmp .gt 37, 3) := by decide +kernel
theorem dX6_readValley_28 : decode cX6_readValley 28 = .ok (.aload_n 1, 1) := by decide +kernel
theorem dX6_readValley_29 : decode cX6_readValley 29 = .ok (.getfield 31, 3) := by decide +kernel
theorem dX6_readValley_32 : decode cX6_readValley 32 = .ok (.ifCond .ne 5, 3) := by decide +kernel
theorem dX6_readValley_35 : decode cX6_readValley 35 = .ok (.iload_n 2, 1) := by decide +kernel
theorem dX6_readValley_36 : decode cX6_readValley 36 = .ok (.ireturn, 1) := by decide +kernel
theorem dX6_readValley_37 : decode cX6_readValley 37 = .ok (.aload_n 0, 1) := by decide +kernel
theorem dX6_readValley_38 : decode cX6_readValley 38 = .ok (.aload_n 1, 1) := by decide +kernel
theorem dX6_readValley_39 : decode cX6_readValley 39 = .ok (.invokevirtual 35, 3) := by decide +kernel
theorem dX6_readValley_42 : decode cX6_readValley 42 = .ok (.ifCond .eq 12, 3) := by decide +kernel
theorem dX6_readValley_45 : decode cX6_readValley 45 = .ok (.aload_n 1, 1) := by decide +kernel
theorem dX6_readValley_46 : decode cX6_readValley 46 = .ok (.bipush 59, 2) := by decide +kernel
theorem dX6_readValley_48 : decode cX6_readValley 48 = .ok (.invokevirtual 39, 3) := by decide +kernel
theorem dX6_readValley_51 : decode cX6_readValley 51 = .ok (.ifCond .ne 5, 3) := by decide +kernel
theorem dX6_readValley_54 : decode cX6_readValley 54 = .ok (.iconst (-1), 1) := by decide +kernel
theorem dX6_readValley_55 : decode cX6_readValley 55 = .ok (.ireturn, 1) := by decide +kernel
theorem dX6_readValley_56 : decode cX6_readValley 56 = .ok (.iinc 2 1, 3) := by decide +kernel
theorem dX6_readValley_59 : decode cX6_readValley 59 = .ok (.goto (-38), 3) := by decide +kernel
theorem dX6_readValley_62 : decode cX6_readValley 62 = .ok (.iconst (-1), 1) := by decide +kernel
theorem dX6_readValley_63 : decode cX6_readValley 63 = .ok (.ireturn, 1) := by decide +kernel
def f_X6_readValley_21 (k21 : XM → XM → Int32 → Option (Int32 × XM × XM)) (w0 : XM) (w1 : XM) (l2 : Int32) : Option (Int32 × XM × XM) :=
  if ((900 : Int32) : Int32) < l2 then
  (some ((-1 : Int32), w0, w1))
  else (if (w1.1 0 6) = (0 : Int32) then
  (some (l2, w0, w1))
  else (x_bo (f_X6_readLine w0 w1) (fun y1 =>
  if y1.1 = (0 : Int32) then
  (some ((-1 : Int32), y1.2.1, y1.2.2))
  else (x_bo (f_X8_pass y1.2.2 (59 : Int32)) (fun y2 =>
  if y2.1 = (0 : Int32) then
  (some ((-1 : Int32), y1.2.1, y2.2))
  else (k21 y1.2.1 y2.2 (l2 + 1)))))))
def f_X6_readValley (v0 : XM) (v1 : XM) : Option (Int32 × XM × XM) :=
  x_bo (f_X9_empty (x_sub v0 1)) (fun y3 =>
  x_lt (x_put v0 1 16 y3) (fun m4 =>
  x_lt (x_si m4 0 1 (0 : Int32)) (fun m5 =>
  x_bo (f_X8_open v1 (900 : Int32)) (fun y6 =>
  x_lp (φ := XM → XM → Int32 → Option (Int32 × XM × XM)) (fun _ _ _ => none) (f_X6_readValley_21  ) x_NN m5 y6 (0 : Int32)))))
set_option maxRecDepth 100000 in
set_option maxHeartbeats 4000000 in
theorem w_X6_readValley_21 {p : Program} {l : Launch} {e : Env} {s : State} {m : MethodId} {args : Array Value} {below : List Frame} {meth : Method} {c : Code} {D : va_G} {tc : Nat → ClassId} {aK aV : Nat → Nat} {A : Nat → Prop} {ad0 : Nat → Nat} {ad1 : Nat → Nat}  (X : Cx p s m args meth c cX6_readValley 3 (some .int) RX6 D tc aK aV A [(shSurveyor, ad0), (shTape, ad1)])  {o : Int32 × XM × XM}  : ∀ (n : Nat), ∀ (w0 : XM) (w1 : XM) (l2 : Int32), x_lp (φ := XM → XM → Int32 → Option (Int32 × XM × XM)) (fun _ _ _ => none) (f_X6_readValley_21  ) n w0 w1 l2 = some o → aW p l e (x_Rm 6) s m args below meth c D tc A 3 [(shSurveyor, ad0), (shTape, ad1)] (some (.int o.1)) True [o.2.1, o.2.2] 21 [(0, .ref (ad0 0)), (1, .ref (ad1 0)), (2, .int l2)] [] [w0, w1] := by
  intro n
  induction n with
  | zero => intro w0 w1 l2 h; exact absurd h (fun q => by cases q)
  | succ n ih =>
    intro w0 w1 l2 h
    have h : f_X6_readValley_21   (x_lp (φ := XM → XM → Int32 → Option (Int32 × XM × XM)) (fun _ _ _ => none) (f_X6_readValley_21  ) n) w0 w1 l2 = some o := h
    generalize x_lp (φ := XM → XM → Int32 → Option (Int32 × XM × XM)) (fun _ _ _ => none) (f_X6_readValley_21  ) n = k21 at h ih
    have hk21 := ih
    unfold f_X6_readValley_21 at h
    refine a_iload_n (pc := 21) X 2 dX6_readValley_21 rfl rfl ?_
    refine a_sipush (pc := 22) X dX6_readValley_22 q_sp_900 ?_
    refine a_icmp_gt (pc := 25) X 62 dX6_readValley_25 rfl (fun c_25 => ?_) (fun c_25 => ?_)
    · have h := x_ifp c_25 h
      refine a_iconst (pc := 62) X dX6_readValley_62 q_ic_m1 ?_
      have h := Option.some.inj h; subst h
      exact a_iret (pc := 63) X trivial dX6_readValley_63
    · have h := x_ifn c_25 h
      refine a_aload_n (pc := 28) X 1 dX6_readValley_28 rfl rfl ?_
      refine a_getI (pc := 29) X 1 fl_RX6_31 rfl rfl rfl rfl dX6_readValley_29 ?_
      refine a_if_ne (pc := 32) X 37 dX6_readValley_32 rfl (fun c_32 => ?_) (fun c_32 => ?_)
      · have h := x_ifn c_32 h
        refine a_aload_n (pc := 37) X 0 dX6_readValley_37 rfl rfl ?_
        refine a_aload_n (pc := 38) X 1 dX6_readValley_38 rfl rfl ?_
        obtain ⟨y1, e_y1, h⟩ := x_bo_elim h
        refine a_callV (pc := 39) (st2 := [.int y1.1]) (vs2 := [y1.2.1, y1.2.2]) X [(0, 0, 17), (1, 0, 4)] [some y1.2.1, some y1.2.2] 0 0 6 [.ref (ad1 0)] [] cv_RX6_35 (c_X6_readLine (ad0 := ad0) (ad1 := ad1)  e_y1) rfl rfl rfl rfl rfl rfl rfl rfl rfl rfl rfl rfl rfl rfl rfl (Nat.le_of_ble_eq_true rfl) ⟨Nat.le_of_ble_eq_true rfl, Nat.le_of_ble_eq_true rfl⟩ dX6_readValley_39 (fun z_39 => ?_)
        refine a_if_eq (pc := 42) X 54 dX6_readValley_42 rfl (fun c_42 => ?_) (fun c_42 => ?_)
        · have h := x_ifp c_42 h
          refine a_iconst (pc := 54) X dX6_readValley_54 q_ic_m1 ?_
          have h := Option.some.inj h; subst h
          exact a_iret (pc := 55) X trivial dX6_readValley_55
        · have h := x_ifn c_42 h
          refine a_aload_n (pc := 45) X 1 dX6_readValley_45 rfl rfl ?_
          refine a_bipush (pc := 46) X dX6_readValley_46 q_bp_59 ?_
          obtain ⟨y2, e_y2, h⟩ := x_bo_elim h
          refine a_callV (pc := 48) (st2 := [.int y2.1]) (vs2 := [y1.2.1, y2.2]) X [(1, 0, 4)] [some y2.2] 1 0 8 [.int (59 : Int32)] [] cv_RX6_39 (c_X8_pass (ad0 := ad1)  e_y2) rfl rfl rfl rfl rfl rfl rfl rfl rfl rfl rfl rfl rfl rfl rfl (Nat.le_of_ble_eq_true rfl) ⟨Nat.le_of_ble_eq_true rfl, Nat.le_of_ble_eq_true rfl⟩ dX6_readValley_48 (fun z_48 => ?_)
          refine a_if_ne (pc := 51) X 56 dX6_readValley_51 rfl (fun c_51 => ?_) (fun c_51 => ?_)
          · have h := x_ifn c_51 h
            refine a_iinc (pc := 56) X 2 [(2, .int (l2 + 1)), (0, .ref (ad0 0)), (1, .ref (ad1 0))] dX6_readValley_56 rfl (congrArg (HAdd.hAdd l2) q_ic_1) (by decide) rfl ?_
            refine a_goto (pc := 59) X 21 dX6_readValley_59 rfl ?_
            refine a_sub [1, 2, 0] rfl ?_
            exact hk21 _ _ _ h
          · have h := x_ifp c_51 h
            refine a_iconst (pc := 54) X dX6_readValley_54 q_ic_m1 ?_
            have h := Option.some.inj h; subst h
            exact a_iret (pc := 55) X trivial dX6_readValley_55
      · have h := x_ifp c_32 h
        refine a_iload_n (pc := 35) X 2 dX6_readValley_35 rfl rfl ?_
        have h := Option.some.inj h; subst h
        exact a_iret (pc := 36) X trivial dX6_readValley_36
set_option maxRecDepth 100000 in
set_option maxHeartbeats 4000000 in
theorem c_X6_readValley {l : Launch}  {ad0 : Nat → Nat} {ad1 : Nat → Nat} {v0 v1 : XM}   {o : Int32 × XM × XM} (h : f_X6_readValley v0 v1 = some o) : CT l yX6_readValley cX6_readValley 3 (some .int) 6 [(shSurveyor, ad0), (shTape, ad1)] [v0, v1] (fun aK => [.ref (ad0 0), .ref (ad1 0)]) (some (.int o.1)) True [o.2.1, o.2.2] := by
  refine CT_of (by decide) (fun _ => Nat.le_of_ble_eq_true rfl) ?_
  intro p e s m args below meth c D tc aK aV A X
  have X : Cx p s m args meth c cX6_readValley 3 (some .int) RX6 D tc aK aV A [(shSurveyor, ad0), (shTape, ad1)] := X
  show aW p l e (x_Rm 6) s m args below meth c D tc A 3 [(shSurveyor, ad0), (shTape, ad1)] (some (.int o.1)) True [o.2.1, o.2.2] 0 [(0, .ref (ad0 0)), (1, .ref (ad1 0))] [] [v0, v1]
  unfold f_X6_readValley at h
  refine a_aload_n (pc := 0) X 0 dX6_readValley_0 rfl rfl ?_
  refine a_getR (pc := 1) X 0 1 1 fl_RX6_12 rfl rfl rfl rfl rfl dX6_readValley_1 ?_
  obtain ⟨y3, e_y3, h⟩ := x_bo_elim h
  refine a_callV (pc := 4) (st2 := []) (vs2 := [x_put v0 1 16 y3, v1]) X [(0, 1, 16)] [some y3] 0 1 9 [] [] cv_RX6_18 (c_X9_empty (ad0 := (fun i => ad0 (i + 1)))  e_y3) rfl rfl rfl rfl rfl rfl rfl rfl rfl rfl rfl rfl rfl rfl rfl (Nat.le_of_ble_eq_true rfl) ⟨Nat.le_of_ble_eq_true rfl, Nat.le_of_ble_eq_true rfl⟩ dX6_readValley_4 (fun _ => ?_)
  obtain ⟨m4, e_m4, h⟩ := x_lt_elim h
  refine a_nm (vs2 := [m4, v1]) (congrArg (fun q : XM => [q, v1]) e_m4) ?_
  refine a_aload_n (pc := 7) X 0 dX6_readValley_7 rfl rfl ?_
  refine a_iconst (pc := 8) X dX6_readValley_8 q_ic_0 ?_
  refine a_putZ (pc := 9) X 0 x_Z0 fl_RX6_21 rfl rfl rfl rfl dX6_readValley_9 ?_
  obtain ⟨m5, e_m5, h⟩ := x_lt_elim h
  refine a_nm (vs2 := [m5, v1]) (congrArg (fun q : XM => [q, v1]) e_m5) ?_
  refine a_aload_n (pc := 12) X 1 dX6_readValley_12 rfl rfl ?_
  refine a_sipush (pc := 13) X dX6_readValley_13 q_sp_900 ?_
  obtain ⟨y6, e_y6, h⟩ := x_bo_elim h
  refine a_callV (pc := 16) (st2 := []) (vs2 := [m5, y6]) X [(1, 0, 4)] [some y6] 1 0 8 [.int (900 : Int32)] [] cv_RX6_25 (c_X8_open (ad0 := ad1)  e_y6) rfl rfl rfl rfl rfl rfl rfl rfl rfl rfl rfl rfl rfl rfl rfl (Nat.le_of_ble_eq_true rfl) ⟨Nat.le_of_ble_eq_true rfl, Nat.le_of_ble_eq_true rfl⟩ dX6_readValley_16 (fun _ => ?_)
  refine a_iconst (pc := 19) X dX6_readValley_19 q_ic_0 ?_
  refine a_istore_n (pc := 20) X [(2, .int (0 : Int32)), (0, .ref (ad0 0)), (1, .ref (ad1 0))] dX6_readValley_20 rfl (by decide) rfl ?_
  refine a_sub [1, 2, 0] rfl ?_
  exact w_X6_readValley_21 X    x_NN _ _ _ h
theorem dX9_nameAt_0 : decode cX9_nameAt 0 = .ok (.iload_n 1, 1) := by decide +kernel
theorem dX9_nameAt_1 : decode cX9_nameAt 1 = .ok (.ifCond .lt 21, 3) := by decide +kernel
theorem dX9_nameAt_4 : decode cX9_nameAt 4 = .ok (.iload_n 1, 1) := by decide +kernel
theorem dX9_nameAt_5 : decode cX9_nameAt 5 = .ok (.aload_n 0, 1) := by decide +kernel
theorem dX9_nameAt_6 : decode cX9_nameAt 6 = .ok (.getfield 42, 3) := by decide +kernel
theorem dX9_nameAt_9 : decode cX9_nameAt 9 = .ok (.arraylength, 1) := by decide +kernel
theorem dX9_nameAt_10 : decode cX9_nameAt 10 = .ok (.if_icmp .ge 12, 3) := by decide +kernel
theorem dX9_nameAt_13 : decode cX9_nameAt 13 = .ok (.aload_n 0, 1) := by decide +kernel
theorem dX9_nameAt_14 : decode cX9_nameAt 14 = .ok (.getfield 42, 3) := by decide +kernel
theorem dX9_nameAt_17 : decode cX9_nameAt 17 = .ok (.iload_n 1, 1) := by decide +kernel
theorem dX9_nameAt_18 : decode cX9_nameAt 18 = .ok (.laload, 1) := by decide +kernel
theorem dX9_nameAt_19 : decode cX9_nameAt 19 = .ok (.goto 4, 3) := by decide +kernel
theorem dX9_nameAt_22 : decode cX9_nameAt 22 = .ok (.lconst 0, 1) := by decide +kernel
theorem dX9_nameAt_23 : decode cX9_nameAt 23 = .ok (.lreturn, 1) := by decide +kernel
def f_X9_nameAt (v0 : XM) (x0 : Int32) : Option (Int64) :=
  if x0 < (0 : Int32) then
  (some ((0 : Int64) : Int64))
  else (if ((19 : Int32) : Int32) ≤ x0 then
  (some ((0 : Int64) : Int64))
  else (x_ck x0 19 (
  some (x_gl v0 15 x0 : Int64))))
set_option maxRecDepth 100000 in
set_option maxHeartbeats 4000000 in
theorem c_X9_nameAt {l : Launch}  {ad0 : Nat → Nat} {v0 : XM} {x0 : Int32}  {o : Int64} (h : f_X9_nameAt v0 x0 = some o) : CT l yX9_nameAt cX9_nameAt 2 (some .long) 0 [(shValley, ad0)] [v0] (fun aK => [.ref (ad0 0), .int x0]) (some (.long o)) True [v0] := by
  refine CT_of (by decide) (fun _ => Nat.le_of_ble_eq_true rfl) ?_
  intro p e s m args below meth c D tc aK aV A X
  have X : Cx p s m args meth c cX9_nameAt 2 (some .long) RX9 D tc aK aV A [(shValley, ad0)] := X
  show aW p l e (x_Rm 0) s m args below meth c D tc A 2 [(shValley, ad0)] (some (.long o)) True [v0] 0 [(0, .ref (ad0 0)), (1, .int x0)] [] [v0]
  unfold f_X9_nameAt at h
  refine a_iload_n (pc := 0) X 1 dX9_nameAt_0 rfl rfl ?_
  refine a_if_lt (pc := 1) X 22 dX9_nameAt_1 rfl (fun c_1 => ?_) (fun c_1 => ?_)
  · have h := x_ifp c_1 h
    refine a_lconst (pc := 22) (v := 0) X dX9_nameAt_22 rfl ?_
    have h := Option.some.inj h; subst h
    exact a_lret (pc := 23) X trivial dX9_nameAt_23
  · have h := x_ifn c_1 h
    refine a_iload_n (pc := 4) X 1 dX9_nameAt_4 rfl rfl ?_
    refine a_aload_n (pc := 5) X 0 dX9_nameAt_5 rfl rfl ?_
    refine a_getR (pc := 6) X 0 15 15 fl_RX9_42 rfl rfl rfl rfl rfl dX9_nameAt_6 ?_
    refine a_alenL (pc := 9) (x := 19) X 0 rfl rfl rfl (by decide) dX9_nameAt_9 ?_
    refine a_icmp_ge (pc := 10) X 22 dX9_nameAt_10 rfl (fun c_10 => ?_) (fun c_10 => ?_)
    · have h := x_ifp c_10 h
      refine a_lconst (pc := 22) (v := 0) X dX9_nameAt_22 rfl ?_
      have h := Option.some.inj h; subst h
      exact a_lret (pc := 23) X trivial dX9_nameAt_23
    · have h := x_ifn c_10 h
      refine a_aload_n (pc := 13) X 0 dX9_nameAt_13 rfl rfl ?_
      refine a_getR (pc := 14) X 0 15 15 fl_RX9_42 rfl rfl rfl rfl rfl dX9_nameAt_14 ?_
      refine a_iload_n (pc := 17) X 1 dX9_nameAt_17 rfl rfl ?_
      obtain ⟨c_18, h⟩ := x_ck_elim h
      refine a_lald (pc := 18) X 0 rfl rfl rfl c_18 dX9_nameAt_18 ?_
      refine a_goto (pc := 19) X 23 dX9_nameAt_19 rfl ?_
      have h := Option.some.inj h; subst h
      exact a_lret (pc := 23) X trivial dX9_nameAt_23
theorem dX7_addByte_0 : decode cX7_addByte 0 = .ok (.aload_n 0, 1) := by decide +kernel
theorem dX7_addByte_1 : decode cX7_addByte 1 = .ok (.getfield 14, 3) := by decide +kernel
theorem dX7_addByte_4 : decode cX7_addByte 4 = .ok (.aload_n 0, 1) := by decide +kernel
theorem dX7_addByte_5 : decode cX7_addByte 5 = .ok (.getfield 20, 3) := by decide +kernel
theorem dX7_addByte_8 : decode cX7_addByte 8 = .ok (.iload_n 1, 1) := by decide +kernel
theorem dX7_addByte_9 : decode cX7_addByte 9 = .ok (.invokevirtual 75, 3) := by decide +kernel
theorem dX7_addByte_12 : decode cX7_addByte 12 = .ok (.aload_n 0, 1) := by decide +kernel
theorem dX7_addByte_13 : decode cX7_addByte 13 = .ok (.dup, 1) := by decide +kernel
theorem dX7_addByte_14 : decode cX7_addByte 14 = .ok (.getfield 20, 3) := by decide +kernel
theorem dX7_addByte_17 : decode cX7_addByte 17 = .ok (.iconst 1, 1) := by decide +kernel
theorem dX7_addByte_18 : decode cX7_addByte 18 = .ok (.iadd, 1) := by decide +kernel
theorem dX7_addByte_19 : decode cX7_addByte 19 = .ok (.putfield 20, 3) := by decide +kernel
theorem dX7_addByte_22 : decode cX7_addByte 22 = .ok (.return_, 1) := by decide +kernel
def f_X7_addByte (v0 : XM) (x0 : Int32) : XM :=
  x_lt (r_put 32 (x_sub v0 1) (v0.1 0 1) x0) (fun y1 =>
  x_lt (x_put v0 1 2 y1) (fun m2 =>
  x_lt (x_si m2 0 1 ((m2.1 0 1) + (1 : Int32))) (fun m3 =>
  m3)))
set_option maxRecDepth 100000 in
set_option maxHeartbeats 4000000 in
theorem c_X7_addByte {l : Launch}  {ad0 : Nat → Nat} {v0 : XM} {x0 : Int32}  {o : XM} (h : f_X7_addByte v0 x0 = o) : CT l yX7_addByte cX7_addByte 2 none 1 [(shTag, ad0)] [v0] (fun aK => [.ref (ad0 0), .int x0]) none True [o] := by
  refine CT_of (by decide) (fun _ => Nat.le_of_ble_eq_true rfl) ?_
  intro p e s m args below meth c D tc aK aV A X
  have X : Cx p s m args meth c cX7_addByte 2 none RX7 D tc aK aV A [(shTag, ad0)] := X
  show aW p l e (x_Rm 1) s m args below meth c D tc A 2 [(shTag, ad0)] none True [o] 0 [(0, .ref (ad0 0)), (1, .int x0)] [] [v0]
  unfold f_X7_addByte at h
  refine a_aload_n (pc := 0) X 0 dX7_addByte_0 rfl rfl ?_
  refine a_getR (pc := 1) X 0 1 1 fl_RX7_14 rfl rfl rfl rfl rfl dX7_addByte_1 ?_
  refine a_aload_n (pc := 4) X 0 dX7_addByte_4 rfl rfl ?_
  refine a_getI (pc := 5) X 0 fl_RX7_20 rfl rfl rfl rfl dX7_addByte_5 ?_
  refine a_iload_n (pc := 8) X 1 dX7_addByte_8 rfl rfl ?_
  obtain ⟨y1, e_y1, h⟩ := x_lt_elim h
  refine a_callV (pc := 9) (st2 := []) (vs2 := [x_put v0 1 2 y1]) X [(0, 1, 2)] [some y1] 0 1 3 [.int (v0.1 0 1), .int x0] [] cv_RX7_75 (ct_put (ad0 := (fun i => ad0 (i + 1))) (by decide) e_y1) rfl rfl rfl rfl rfl rfl rfl rfl rfl rfl rfl rfl rfl rfl rfl (Nat.le_of_ble_eq_true rfl) ⟨Nat.le_of_ble_eq_true rfl, Nat.le_of_ble_eq_true rfl⟩ dX7_addByte_9 (fun _ => ?_)
  obtain ⟨m2, e_m2, h⟩ := x_lt_elim h
  refine a_nm (vs2 := [m2]) (congrArg (fun q : XM => [q]) e_m2) ?_
  refine a_aload_n (pc := 12) X 0 dX7_addByte_12 rfl rfl ?_
  refine a_dup (pc := 13) X dX7_addByte_13 rfl ?_
  refine a_getI (pc := 14) X 0 fl_RX7_20 rfl rfl rfl rfl dX7_addByte_14 ?_
  refine a_iconst (pc := 17) X dX7_addByte_17 q_ic_1 ?_
  refine a_iadd (pc := 18) X dX7_addByte_18 ?_
  refine a_putI (pc := 19) X 0 fl_RX7_20 rfl rfl rfl rfl dX7_addByte_19 ?_
  obtain ⟨m3, e_m3, h⟩ := x_lt_elim h
  refine a_nm (vs2 := [m3]) (congrArg (fun q : XM => [q]) e_m3) ?_
  subst h
  exact a_vret (pc := 22) X trivial dX7_addByte_22
theorem dX7_addName_0 : decode cX7_addName 0 = .ok (.bipush 30, 2) := by decide +kernel
theorem dX7_addName_2 : decode cX7_addName 2 = .ok (.istore_n 3, 1) := by decide +kernel
theorem dX7_addName_3 : decode cX7_addName 3 = .ok (.iload_n 3, 1) := by decide +kernel
theorem dX7_addName_4 : decode cX7_addName 4 = .ok (.ifCond .lt 35, 3) := by decide +kernel
theorem dX7_addName_7 : decode cX7_addName 7 = .ok (.lload_n 1, 1) := by decide +kernel
theorem dX7_addName_8 : decode cX7_addName 8 = .ok (.iload_n 3, 1) := by decide +kernel
theorem dX7_addName_9 : decode cX7_addName 9 = .ok (.lshr, 1) := by decide +kernel
theorem dX7_addName_10 : decode cX7_addName 10 = .ok (.ldc2_w 91, 3) := by decide +kernel
theorem dX7_addName_13 : decode cX7_addName 13 = .ok (.land, 1) := by decide +kernel
theorem dX7_addName_14 : decode cX7_addName 14 = .ok (.l2i, 1) := by decide +kernel
theorem dX7_addName_15 : decode cX7_addName 15 = .ok (.istore 4, 2) := by decide +kernel
theorem dX7_addName_17 : decode cX7_addName 17 = .ok (.iload 4, 2) := by decide +kernel
theorem dX7_addName_19 : decode cX7_addName 19 = .ok (.ifCond .le 14, 3) := by decide +kernel
theorem dX7_addName_22 : decode cX7_addName 22 = .ok (.aload_n 0, 1) := by decide +kernel
theorem dX7_addName_23 : decode cX7_addName 23 = .ok (.bipush 97, 2) := by decide +kernel
theorem dX7_addName_25 : decode cX7_addName 25 = .ok (.iload 4, 2) := by decide +kernel
theorem dX7_addName_27 : decode cX7_addName 27 = .ok (.iadd, 1) := by decide +kernel
theorem dX7_addName_28 : decode cX7_addName 28 = .ok (.iconst 1, 1) := by decide +kernel
theorem dX7_addName_29 : decode cX7_addName 29 = .ok (.isub, 1) := by decide +kernel
theorem dX7_addName_30 : decode cX7_addName 30 = .ok (.invokevirtual 88, 3) := by decide +kernel
theorem dX7_addName_33 : decode cX7_addName 33 = .ok (.iinc 3 (-5), 3) := by decide +kernel
theorem dX7_addName_36 : decode cX7_addName 36 = .ok (.goto (-33), 3) := by decide +kernel
theorem dX7_addName_39 : decode cX7_addName 39 = .ok (.return_, 1) := by decide +kernel
def f_X7_addName_33 (k3 : XM → Int64 → Int32 → Option (XM)) (w0 : XM) (l1 : Int64) (l3 : Int32) : Option (XM) :=
  k3 w0 l1 (l3 + (-5))
def f_X7_addName_3 (k3 : XM → Int64 → Int32 → Option (XM)) (w0 : XM) (l1 : Int64) (l3 : Int32) : Option (XM) :=
  if l3 < (0 : Int32) then
  (some w0)
  else (x_lt ((l1 >>> ((l3 : Int32).toInt64 &&& 63)) &&& (31 : Int64)) (fun y1 =>
  if ((y1 : Int64).toInt32) ≤ (0 : Int32) then
  (f_X7_addName_33  k3 w0 l1 l3)
  else (x_lt (((97 : Int32) + ((y1 : Int64).toInt32)) - (1 : Int32)) (fun y2 =>
  x_lt (f_X7_addByte w0 y2) (fun y3 =>
  f_X7_addName_33  k3 y3 l1 l3)))))
def f_X7_addName (v0 : XM) (x0 : Int64) : Option (XM) :=
  x_lp (φ := XM → Int64 → Int32 → Option (XM)) (fun _ _ _ => none) (f_X7_addName_3  ) x_NN v0 x0 (30 : Int32)
set_option maxRecDepth 100000 in
set_option maxHeartbeats 4000000 in
theorem w_X7_addName_33 {p : Program} {l : Launch} {e : Env} {s : State} {m : MethodId} {args : Array Value} {below : List Frame} {meth : Method} {c : Code} {D : va_G} {tc : Nat → ClassId} {aK aV : Nat → Nat} {A : Nat → Prop} {ad0 : Nat → Nat}  (X : Cx p s m args meth c cX7_addName 5 none RX7 D tc aK aV A [(shTag, ad0)])  {o : XM} {k3 : XM → Int64 → Int32 → Option (XM)} (hk3 : ∀ (w0 : XM) (l1 : Int64) (l3 : Int32), k3 w0 l1 l3 = some o → aW p l e (x_Rm 2) s m args below meth c D tc A 5 [(shTag, ad0)] none True [o] 3 [(0, .ref (ad0 0)), (1, .long l1), (3, .int l3)] [] [w0]) {w0 : XM} {l1 : Int64} {l3 : Int32}  (h : f_X7_addName_33  k3 w0 l1 l3 = some o) : aW p l e (x_Rm 2) s m args below meth c D tc A 5 [(shTag, ad0)] none True [o] 33 [(0, .ref (ad0 0)), (1, .long l1), (3, .int l3)] [] [w0] := by
  unfold f_X7_addName_33 at h
  refine a_iinc (pc := 33) X 2 [(3, .int (l3 + (-5))), (0, .ref (ad0 0)), (1, .long l1)] dX7_addName_33 rfl (congrArg (HAdd.hAdd l3) q_ic_m5) (by decide) rfl ?_
  refine a_goto (pc := 36) X 3 dX7_addName_36 rfl ?_
  refine a_sub [1, 2, 0] rfl ?_
  exact hk3 _ _ _ h
set_option maxRecDepth 100000 in
set_option maxHeartbeats 4000000 in
theorem w_X7_addName_3 {p : Program} {l : Launch} {e : Env} {s : State} {m : MethodId} {args : Array Value} {below : List Frame} {meth : Method} {c : Code} {D : va_G} {tc : Nat → ClassId} {aK aV : Nat → Nat} {A : Nat → Prop} {ad0 : Nat → Nat}  (X : Cx p s m args meth c cX7_addName 5 none RX7 D tc aK aV A [(shTag, ad0)])  {o : XM}  : ∀ (n : Nat), ∀ (w0 : XM) (l1 : Int64) (l3 : Int32), x_lp (φ := XM → Int64 → Int32 → Option (XM)) (fun _ _ _ => none) (f_X7_addName_3  ) n w0 l1 l3 = some o → aW p l e (x_Rm 2) s m args below meth c D tc A 5 [(shTag, ad0)] none True [o] 3 [(0, .ref (ad0 0)), (1, .long l1), (3, .int l3)] [] [w0] := by
  intro n
  induction n with
  | zero => intro w0 l1 l3 h; exact absurd h (fun q => by cases q)
  | succ n ih =>
    intro w0 l1 l3 h
    have h : f_X7_addName_3   (x_lp (φ := XM → Int64 → Int32 → Option (XM)) (fun _ _ _ => none) (f_X7_addName_3  ) n) w0 l1 l3 = some o := h
    generalize x_lp (φ := XM → Int64 → Int32 → Option (XM)) (fun _ _ _ => none) (f_X7_addName_3  ) n = k3 at h ih
    have hk3 := ih
    unfold f_X7_addName_3 at h
    refine a_iload_n (pc := 3) X 2 dX7_addName_3 rfl rfl ?_
    refine a_if_lt (pc := 4) X 39 dX7_addName_4 rfl (fun c_4 => ?_) (fun c_4 => ?_)
    · have h := x_ifp c_4 h
      have h := Option.some.inj h; subst h
      exact a_vret (pc := 39) X trivial dX7_addName_39
    · have h := x_ifn c_4 h
      refine a_lload_n (pc := 7) X 1 dX7_addName_7 rfl rfl ?_
      refine a_iload_n (pc := 8) X 2 dX7_addName_8 rfl rfl ?_
      refine a_lshr (pc := 9) X dX7_addName_9 ?_
      refine a_ldc2 (pc := 10) X kc_RX7_91 dX7_addName_10 ?_
      refine a_land (pc := 13) X dX7_addName_13 ?_
      obtain ⟨y1, e_y1, h⟩ := x_lt_elim h
      refine a_nl e_y1 ?_
      refine a_l2i (pc := 14) X dX7_addName_14 ?_
      refine a_istore (pc := 15) X [(4, .int ((y1 : Int64).toInt32)), (0, .ref (ad0 0)), (1, .long l1), (3, .int l3)] dX7_addName_15 (by decide) rfl ?_
      refine a_iload (pc := 17) X 0 dX7_addName_17 rfl ?_
      refine a_if_le (pc := 19) X 33 dX7_addName_19 rfl (fun c_19 => ?_) (fun c_19 => ?_)
      · have h := x_ifp c_19 h
        refine a_sub [1, 2, 3] rfl ?_
        exact w_X7_addName_33 X   hk3  h
      · have h := x_ifn c_19 h
        refine a_aload_n (pc := 22) X 1 dX7_addName_22 rfl rfl ?_
        refine a_bipush (pc := 23) X dX7_addName_23 q_bp_97 ?_
        refine a_iload (pc := 25) X 0 dX7_addName_25 rfl ?_
        refine a_iadd (pc := 27) X dX7_addName_27 ?_
        refine a_iconst (pc := 28) X dX7_addName_28 q_ic_1 ?_
        refine a_isub (pc := 29) X dX7_addName_29 ?_
        obtain ⟨y2, e_y2, h⟩ := x_lt_elim h
        refine a_ni e_y2 ?_
        obtain ⟨y3, e_y3, h⟩ := x_lt_elim h
        refine a_callV (pc := 30) (st2 := []) (vs2 := [y3]) X [(0, 0, 3)] [some y3] 0 0 7 [.int y2] [] cv_RX7_88 (c_X7_addByte (ad0 := ad0)  e_y3) rfl rfl rfl rfl rfl rfl rfl rfl rfl rfl rfl rfl rfl rfl rfl (Nat.le_of_ble_eq_true rfl) ⟨Nat.le_of_ble_eq_true rfl, Nat.le_of_ble_eq_true rfl⟩ dX7_addName_30 (fun _ => ?_)
        refine a_sub [1, 2, 3] rfl ?_
        exact w_X7_addName_33 X   hk3  h
set_option maxRecDepth 100000 in
set_option maxHeartbeats 4000000 in
theorem c_X7_addName {l : Launch}  {ad0 : Nat → Nat} {v0 : XM} {x0 : Int64}  {o : XM} (h : f_X7_addName v0 x0 = some o) : CT l yX7_addName cX7_addName 5 none 2 [(shTag, ad0)] [v0] (fun aK => [.ref (ad0 0), .long x0]) none True [o] := by
  refine CT_of (by decide) (fun _ => Nat.le_of_ble_eq_true rfl) ?_
  intro p e s m args below meth c D tc aK aV A X
  have X : Cx p s m args meth c cX7_addName 5 none RX7 D tc aK aV A [(shTag, ad0)] := X
  show aW p l e (x_Rm 2) s m args below meth c D tc A 5 [(shTag, ad0)] none True [o] 0 [(0, .ref (ad0 0)), (1, .long x0)] [] [v0]
  unfold f_X7_addName at h
  refine a_bipush (pc := 0) X dX7_addName_0 q_bp_30 ?_
  refine a_istore_n (pc := 2) X [(3, .int (30 : Int32)), (0, .ref (ad0 0)), (1, .long x0)] dX7_addName_2 rfl (by decide) rfl ?_
  refine a_sub [1, 2, 0] rfl ?_
  exact w_X7_addName_3 X    x_NN _ _ _ h
theorem dX7_addDigit_0 : decode cX7_addDigit 0 = .ok (.aload_n 0, 1) := by decide +kernel
theorem dX7_addDigit_1 : decode cX7_addDigit 1 = .ok (.bipush 48, 2) := by decide +kernel
theorem dX7_addDigit_3 : decode cX7_addDigit 3 = .ok (.iload_n 1, 1) := by decide +kernel
theorem dX7_addDigit_4 : decode cX7_addDigit 4 = .ok (.iadd, 1) := by decide +kernel
theorem dX7_addDigit_5 : decode cX7_addDigit 5 = .ok (.invokevirtual 88, 3) := by decide +kernel
theorem dX7_addDigit_8 : decode cX7_addDigit 8 = .ok (.return_, 1) := by decide +kernel
def f_X7_addDigit (v0 : XM) (x0 : Int32) : XM :=
  x_lt (f_X7_addByte v0 ((48 : Int32) + x0)) (fun y1 =>
  y1)
set_option maxRecDepth 100000 in
set_option maxHeartbeats 4000000 in
theorem c_X7_addDigit {l : Launch}  {ad0 : Nat → Nat} {v0 : XM} {x0 : Int32}  {o : XM} (h : f_X7_addDigit v0 x0 = o) : CT l yX7_addDigit cX7_addDigit 2 none 2 [(shTag, ad0)] [v0] (fun aK => [.ref (ad0 0), .int x0]) none True [o] := by
  refine CT_of (by decide) (fun _ => Nat.le_of_ble_eq_true rfl) ?_
  intro p e s m args below meth c D tc aK aV A X
  have X : Cx p s m args meth c cX7_addDigit 2 none RX7 D tc aK aV A [(shTag, ad0)] := X
  show aW p l e (x_Rm 2) s m args below meth c D tc A 2 [(shTag, ad0)] none True [o] 0 [(0, .ref (ad0 0)), (1, .int x0)] [] [v0]
  unfold f_X7_addDigit at h
  refine a_aload_n (pc := 0) X 0 dX7_addDigit_0 rfl rfl ?_
  refine a_bipush (pc := 1) X dX7_addDigit_1 q_bp_48 ?_
  refine a_iload_n (pc := 3) X 1 dX7_addDigit_3 rfl rfl ?_
  refine a_iadd (pc := 4) X dX7_addDigit_4 ?_
  obtain ⟨y1, e_y1, h⟩ := x_lt_elim h
  refine a_callV (pc := 5) (st2 := []) (vs2 := [y1]) X [(0, 0, 3)] [some y1] 0 0 7 [.int ((48 : Int32) + x0)] [] cv_RX7_88 (c_X7_addByte (ad0 := ad0)  e_y1) rfl rfl rfl rfl rfl rfl rfl rfl rfl rfl rfl rfl rfl rfl rfl (Nat.le_of_ble_eq_true rfl) ⟨Nat.le_of_ble_eq_true rfl, Nat.le_of_ble_eq_true rfl⟩ dX7_addDigit_5 (fun _ => ?_)
  subst h
  exact a_vret (pc := 8) X trivial dX7_addDigit_8
theorem dX8_addNumber_0 : decode cX8_addNumber 0 = .ok (.bipush 24, 2) := by decide +kernel
theorem dX8_addNumber_2 : decode cX8_addNumber 2 = .ok (.istore_n 2, 1) := by decide +kernel
theorem dX8_addNumber_3 : decode cX8_addNumber 3 = .ok (.iload_n 2, 1) := by decide +kernel
theorem dX8_addNumber_4 : decode cX8_addNumber 4 = .ok (.ifCond .lt 37, 3) := by decide +kernel
theorem dX8_addNumber_7 : decode cX8_addNumber 7 = .ok (.aload_n 0, 1) := by decide +kernel
theorem dX8_addNumber_8 : decode cX8_addNumber 8 = .ok (.getfield 14, 3) := by decide +kernel
theorem dX8_addNumber_11 : decode cX8_addNumber 11 = .ok (.aload_n 0, 1) := by decide +kernel
theorem dX8_addNumber_12 : decode cX8_addNumber 12 = .ok (.getfield 42, 3) := by decide +kernel
theorem dX8_addNumber_15 : decode cX8_addNumber 15 = .ok (.iload_n 1, 1) := by decide +kernel
theorem dX8_addNumber_16 : decode cX8_addNumber 16 = .ok (.iload_n 2, 1) := by decide +kernel
theorem dX8_addNumber_17 : decode cX8_addNumber 17 = .ok (.iushr, 1) := by decide +kernel
theorem dX8_addNumber_18 : decode cX8_addNumber 18 = .ok (.sipush 255, 3) := by decide +kernel
theorem dX8_addNumber_21 : decode cX8_addNumber 21 = .ok (.iand, 1) := by decide +kernel
theorem dX8_addNumber_22 : decode cX8_addNumber 22 = .ok (.invokevirtual 45, 3) := by decide +kernel
theorem dX8_addNumber_25 : decode cX8_addNumber 25 = .ok (.aload_n 0, 1) := by decide +kernel
theorem dX8_addNumber_26 : decode cX8_addNumber 26 = .ok (.dup, 1) := by decide +kernel
theorem dX8_addNumber_27 : decode cX8_addNumber 27 = .ok (.getfield 42, 3) := by decide +kernel
theorem dX8_addNumber_30 : decode cX8_addNumber 30 = .ok (.iconst 1, 1) := by decide +kernel
theorem dX8_addNumber_31 : decode cX8_addNumber 31 = .ok (.iadd, 1) := by decide +kernel
theorem dX8_addNumber_32 : decode cX8_addNumber 32 = .ok (.putfield 42, 3) := by decide +kernel
theorem dX8_addNumber_35 : decode cX8_addNumber 35 = .ok (.iinc 2 (-8), 3) := by decide +kernel
theorem dX8_addNumber_38 : decode cX8_addNumber 38 = .ok (.goto (-35), 3) := by decide +kernel
theorem dX8_addNumber_41 : decode cX8_addNumber 41 = .ok (.return_, 1) := by decide +kernel
def f_X8_addNumber_3 (k3 : XM → Int32 → Int32 → Option (XM)) (w0 : XM) (l1 : Int32) (l2 : Int32) : Option (XM) :=
  if l2 < (0 : Int32) then
  (some w0)
  else (x_lt (((l1 : Int32).toUInt32 >>> ((l2 : Int32).toUInt32 &&& Int32.toUInt32 31)).toInt32) (fun y1 =>
  x_lt (r_put 940 (x_sub w0 1) (w0.1 0 2) (y1 &&& (255 : Int32))) (fun y2 =>
  x_lt (x_put w0 1 2 y2) (fun m3 =>
  x_lt (x_si m3 0 2 ((m3.1 0 2) + (1 : Int32))) (fun m4 =>
  k3 m4 l1 (l2 + (-8)))))))
def f_X8_addNumber (v0 : XM) (x0 : Int32) : Option (XM) :=
  x_lp (φ := XM → Int32 → Int32 → Option (XM)) (fun _ _ _ => none) (f_X8_addNumber_3  ) x_NN v0 x0 (24 : Int32)
set_option maxRecDepth 100000 in
set_option maxHeartbeats 4000000 in
theorem w_X8_addNumber_3 {p : Program} {l : Launch} {e : Env} {s : State} {m : MethodId} {args : Array Value} {below : List Frame} {meth : Method} {c : Code} {D : va_G} {tc : Nat → ClassId} {aK aV : Nat → Nat} {A : Nat → Prop} {ad0 : Nat → Nat}  (X : Cx p s m args meth c cX8_addNumber 3 none RX8 D tc aK aV A [(shTape, ad0)])  {o : XM}  : ∀ (n : Nat), ∀ (w0 : XM) (l1 : Int32) (l2 : Int32), x_lp (φ := XM → Int32 → Int32 → Option (XM)) (fun _ _ _ => none) (f_X8_addNumber_3  ) n w0 l1 l2 = some o → aW p l e (x_Rm 1) s m args below meth c D tc A 3 [(shTape, ad0)] none True [o] 3 [(0, .ref (ad0 0)), (1, .int l1), (2, .int l2)] [] [w0] := by
  intro n
  induction n with
  | zero => intro w0 l1 l2 h; exact absurd h (fun q => by cases q)
  | succ n ih =>
    intro w0 l1 l2 h
    have h : f_X8_addNumber_3   (x_lp (φ := XM → Int32 → Int32 → Option (XM)) (fun _ _ _ => none) (f_X8_addNumber_3  ) n) w0 l1 l2 = some o := h
    generalize x_lp (φ := XM → Int32 → Int32 → Option (XM)) (fun _ _ _ => none) (f_X8_addNumber_3  ) n = k3 at h ih
    have hk3 := ih
    unfold f_X8_addNumber_3 at h
    refine a_iload_n (pc := 3) X 2 dX8_addNumber_3 rfl rfl ?_
    refine a_if_lt (pc := 4) X 41 dX8_addNumber_4 rfl (fun c_4 => ?_) (fun c_4 => ?_)
    · have h := x_ifp c_4 h
      have h := Option.some.inj h; subst h
      exact a_vret (pc := 41) X trivial dX8_addNumber_41
    · have h := x_ifn c_4 h
      refine a_aload_n (pc := 7) X 0 dX8_addNumber_7 rfl rfl ?_
      refine a_getR (pc := 8) X 0 1 1 fl_RX8_14 rfl rfl rfl rfl rfl dX8_addNumber_8 ?_
      refine a_aload_n (pc := 11) X 0 dX8_addNumber_11 rfl rfl ?_
      refine a_getI (pc := 12) X 0 fl_RX8_42 rfl rfl rfl rfl dX8_addNumber_12 ?_
      refine a_iload_n (pc := 15) X 1 dX8_addNumber_15 rfl rfl ?_
      refine a_iload_n (pc := 16) X 2 dX8_addNumber_16 rfl rfl ?_
      refine a_iushr (pc := 17) X dX8_addNumber_17 ?_
      obtain ⟨y1, e_y1, h⟩ := x_lt_elim h
      refine a_ni e_y1 ?_
      refine a_sipush (pc := 18) X dX8_addNumber_18 q_sp_255 ?_
      refine a_iand (pc := 21) X dX8_addNumber_21 ?_
      obtain ⟨y2, e_y2, h⟩ := x_lt_elim h
      refine a_callV (pc := 22) (st2 := []) (vs2 := [x_put w0 1 2 y2]) X [(0, 1, 2)] [some y2] 0 1 3 [.int (w0.1 0 2), .int (y1 &&& (255 : Int32))] [] cv_RX8_45 (ct_put (ad0 := (fun i => ad0 (i + 1))) (by decide) e_y2) rfl rfl rfl rfl rfl rfl rfl rfl rfl rfl rfl rfl rfl rfl rfl (Nat.le_of_ble_eq_true rfl) ⟨Nat.le_of_ble_eq_true rfl, Nat.le_of_ble_eq_true rfl⟩ dX8_addNumber_22 (fun _ => ?_)
      obtain ⟨m3, e_m3, h⟩ := x_lt_elim h
      refine a_nm (vs2 := [m3]) (congrArg (fun q : XM => [q]) e_m3) ?_
      refine a_aload_n (pc := 25) X 0 dX8_addNumber_25 rfl rfl ?_
      refine a_dup (pc := 26) X dX8_addNumber_26 rfl ?_
      refine a_getI (pc := 27) X 0 fl_RX8_42 rfl rfl rfl rfl dX8_addNumber_27 ?_
      refine a_iconst (pc := 30) X dX8_addNumber_30 q_ic_1 ?_
      refine a_iadd (pc := 31) X dX8_addNumber_31 ?_
      refine a_putI (pc := 32) X 0 fl_RX8_42 rfl rfl rfl rfl dX8_addNumber_32 ?_
      obtain ⟨m4, e_m4, h⟩ := x_lt_elim h
      refine a_nm (vs2 := [m4]) (congrArg (fun q : XM => [q]) e_m4) ?_
      refine a_iinc (pc := 35) X 2 [(2, .int (l2 + (-8))), (0, .ref (ad0 0)), (1, .int l1)] dX8_addNumber_35 rfl (congrArg (HAdd.hAdd l2) q_ic_m8) (by decide) rfl ?_
      refine a_goto (pc := 38) X 3 dX8_addNumber_38 rfl ?_
      refine a_sub [1, 2, 0] rfl ?_
      exact hk3 _ _ _ h
set_option maxRecDepth 100000 in
set_option maxHeartbeats 4000000 in
theorem c_X8_addNumber {l : Launch}  {ad0 : Nat → Nat} {v0 : XM} {x0 : Int32}  {o : XM} (h : f_X8_addNumber v0 x0 = some o) : CT l yX8_addNumber cX8_addNumber 3 none 1 [(shTape, ad0)] [v0] (fun aK => [.ref (ad0 0), .int x0]) none True [o] := by
  refine CT_of (by decide) (fun _ => Nat.le_of_ble_eq_true rfl) ?_
  intro p e s m args below meth c D tc aK aV A X
  have X : Cx p s m args meth c cX8_addNumber 3 none RX8 D tc aK aV A [(shTape, ad0)] := X
  show aW p l e (x_Rm 1) s m args below meth c D tc A 3 [(shTape, ad0)] none True [o] 0 [(0, .ref (ad0 0)), (1, .int x0)] [] [v0]
  unfold f_X8_addNumber at h
  refine a_bipush (pc := 0) X dX8_addNumber_0 q_bp_24 ?_
  refine a_istore_n (pc := 2) X [(2, .int (24 : Int32)), (0, .ref (ad0 0)), (1, .int x0)] dX8_addNumber_2 rfl (by decide) rfl ?_
  refine a_sub [1, 2, 0] rfl ?_
  exact w_X8_addNumber_3 X    x_NN _ _ _ h
theorem dX9_become_0 : decode cX9_become 0 = .ok (.aload_n 0, 1) := by decide +kernel
theorem dX9_become_1 : decode cX9_become 1 = .ok (.aload_n 1, 1) := by decide +kernel
theorem dX9_become_2 : decode cX9_become 2 = .ok (.getfield 46, 3) := by decide +kernel
theorem dX9_become_5 : decode cX9_become 5 = .ok (.putfield 46, 3) := by decide +kernel
theorem dX9_become_8 : decode cX9_become 8 = .ok (.aload_n 0, 1) := by decide +kernel
theorem dX9_become_9 : decode cX9_become 9 = .ok (.aload_n 1, 1) := by decide +kernel
theorem dX9_become_10 : decode cX9_become 10 = .ok (.getfield 49, 3) := by decide +kernel
theorem dX9_become_13 : decode cX9_become 13 = .ok (.putfield 49, 3) := by decide +kernel
theorem dX9_become_16 : decode cX9_become 16 = .ok (.aload_n 0, 1) := by decide +kernel
theorem dX9_become_17 : decode cX9_become 17 = .ok (.aload_n 1, 1) := by decide +kernel
theorem dX9_become_18 : decode cX9_become 18 = .ok (.getfield 52, 3) := by decide +kernel
theorem dX9_become_21 : decode cX9_become 21 = .ok (.putfield 52, 3) := by decide +kernel
theorem dX9_become_24 : decode cX9_become 24 = .ok (.aload_n 0, 1) := by decide +kernel
theorem dX9_become_25 : decode cX9_become 25 = .ok (.aload_n 1, 1) := by decide +kernel
theorem dX9_become_26 : decode cX9_become 26 = .ok (.getfield 55, 3) := by decide +kernel
theorem dX9_become_29 : decode cX9_become 29 = .ok (.putfield 55, 3) := by decide +kernel
theorem dX9_become_32 : decode cX9_become 32 = .ok (.aload_n 0, 1) := by decide +kernel
theorem dX9_become_33 : decode cX9_become 33 = .ok (.aload_n 1, 1) := by decide +kernel
theorem dX9_become_34 : decode cX9_become 34 = .ok (.getfield 9, 3) := by decide +kernel
theorem dX9_become_37 : decode cX9_become 37 = .ok (.putfield 9, 3) := by decide +kernel
theorem dX9_become_40 : decode cX9_become 40 = .ok (.aload_n 0, 1) := by decide +kernel
theorem dX9_become_41 : decode cX9_become 41 = .ok (.aload_n 1, 1) := by decide +kernel
theorem dX9_become_42 : decode cX9_become 42 = .ok (.getfield 58, 3) := by decide +kernel
theorem dX9_become_45 : decode cX9_become 45 = .ok (.putfield 58, 3) := by decide +kernel
theorem dX9_become_48 : decode cX9_become 48 = .ok (.aload_n 0, 1) := by decide +kernel
theorem dX9_become_49 : decode cX9_become 49 = .ok (.getfield 20, 3) := by decide +kernel
theorem dX9_become_52 : decode cX9_become 52 = .ok (.aload_n 1, 1) := by decide +kernel
theorem dX9_become_53 : decode cX9_become 53 = .ok (.getfield 20, 3) := by decide +kernel
theorem dX9_become_56 : decode cX9_become 56 = .ok (.invokevirtual 61, 3) := by decide +kernel
theorem dX9_become_59 : decode cX9_become 59 = .ok (.aload_n 0, 1) := by decide +kernel
theorem dX9_become_60 : decode cX9_become 60 = .ok (.getfield 24, 3) := by decide +kernel
theorem dX9_become_63 : decode cX9_become 63 = .ok (.aload_n 1, 1) := by decide +kernel
theorem dX9_become_64 : decode cX9_become 64 = .ok (.getfield 24, 3) := by decide +kernel
theorem dX9_become_67 : decode cX9_become 67 = .ok (.invokevirtual 61, 3) := by decide +kernel
theorem dX9_become_70 : decode cX9_become 70 = .ok (.aload_n 0, 1) := by decide +kernel
theorem dX9_become_71 : decode cX9_become 71 = .ok (.getfield 27, 3) := by decide +kernel
theorem dX9_become_74 : decode cX9_become 74 = .ok (.aload_n 1, 1) := by decide +kernel
theorem dX9_become_75 : decode cX9_become 75 = .ok (.getfield 27, 3) := by decide +kernel
theorem dX9_become_78 : decode cX9_become 78 = .ok (.invokevirtual 61, 3) := by decide +kernel
theorem dX9_become_81 : decode cX9_become 81 = .ok (.aload_n 0, 1) := by decide +kernel
theorem dX9_become_82 : decode cX9_become 82 = .ok (.getfield 30, 3) := by decide +kernel
theorem dX9_become_85 : decode cX9_become 85 = .ok (.aload_n 1, 1) := by decide +kernel
theorem dX9_become_86 : decode cX9_become 86 = .ok (.getfield 30, 3) := by decide +kernel
theorem dX9_become_89 : decode cX9_become 89 = .ok (.invokevirtual 61, 3) := by decide +kernel
theorem dX9_become_92 : decode cX9_become 92 = .ok (.aload_n 0, 1) := by decide +kernel
theorem dX9_become_93 : decode cX9_become 93 = .ok (.getfield 33, 3) := by decide +kernel
theorem dX9_become_96 : decode cX9_become 96 = .ok (.aload_n 1, 1) := by decide +kernel
theorem dX9_become_97 : decode cX9_become 97 = .ok (.getfield 33, 3) := by decide +kernel
theorem dX9_become_100 : decode cX9_become 100 = .ok (.invokevirtual 61, 3) := by decide +kernel
theorem dX9_become_103 : decode cX9_become 103 = .ok (.aload_n 0, 1) := by decide +kernel
theorem dX9_become_104 : decode cX9_become 104 = .ok (.getfield 36, 3) := by decide +kernel
theorem dX9_become_107 : decode cX9_become 107 = .ok (.aload_n 1, 1) := by decide +kernel
theorem dX9_become_108 : decode cX9_become 108 = .ok (.getfield 36, 3) := by decide +kernel
theorem dX9_become_111 : decode cX9_become 111 = .ok (.invokevirtual 61, 3) := by decide +kernel
theorem dX9_become_114 : decode cX9_become 114 = .ok (.aload_n 0, 1) := by decide +kernel
theorem dX9_become_115 : decode cX9_become 115 = .ok (.getfield 39, 3) := by decide +kernel
theorem dX9_become_118 : decode cX9_become 118 = .ok (.aload_n 1, 1) := by decide +kernel
theorem dX9_become_119 : decode cX9_become 119 = .ok (.getfield 39, 3) := by decide +kernel
theorem dX9_become_122 : decode cX9_become 122 = .ok (.invokevirtual 61, 3) := by decide +kernel
theorem dX9_become_125 : decode cX9_become 125 = .ok (.iconst 0, 1) := by decide +kernel
theorem dX9_become_126 : decode cX9_become 126 = .ok (.istore_n 2, 1) := by decide +kernel
theorem dX9_become_127 : decode cX9_become 127 = .ok (.iload_n 2, 1) := by decide +kernel
theorem dX9_become_128 : decode cX9_become 128 = .ok (.aload_n 0, 1) := by decide +kernel
theorem dX9_become_129 : decode cX9_become 129 = .ok (.getfield 42, 3) := by decide +kernel
theorem dX9_become_132 : decode cX9_become 132 = .ok (.arraylength, 1) := by decide +kernel
theorem dX9_become_133 : decode cX9_become 133 = .ok (.if_icmp .ge 20, 3) := by decide +kernel
theorem dX9_become_136 : decode cX9_become 136 = .ok (.aload_n 0, 1) := by decide +kernel
theorem dX9_become_137 : decode cX9_become 137 = .ok (.getfield 42, 3) := by decide +kernel
theorem dX9_become_140 : decode cX9_become 140 = .ok (.iload_n 2, 1) := by decide +kernel
theorem dX9_become_141 : decode cX9_become 141 = .ok (.aload_n 1, 1) := by decide +kernel
theorem dX9_become_142 : decode cX9_become 142 = .ok (.iload_n 2, 1) := by decide +kernel
theorem dX9_become_143 : decode cX9_become 143 = .ok (.invokevirtual 65, 3) := by decide +kernel
theorem dX9_become_146 : decode cX9_become 146 = .ok (.lastore, 1) := by decide +kernel
theorem dX9_become_147 : decode cX9_become 147 = .ok (.iinc 2 1, 3) := by decide +kernel
theorem dX9_become_150 : decode cX9_become 150 = .ok (.goto (-23), 3) := by decide +kernel
theorem dX9_become_153 : decode cX9_become 153 = .ok (.return_, 1) := by decide +kernel
def f_X9_become_127 (v1 : XM) (k127 : XM → Int32 → Option (XM)) (w0 : XM) (l2 : Int32) : Option (XM) :=
  if ((19 : Int32) : Int32) ≤ l2 then
  (some w0)
  else (x_bo (f_X9_nameAt v1 l2) (fun y1 =>
  x_ck l2 19 (
  x_lt (x_pl w0 15 l2 y1) (fun m2 =>
  k127 m2 (l2 + 1)))))
def f_X9_become (v0 : XM) (v1 : XM) : Option (XM) :=
  x_lt (x_si v0 0 0 (v1.1 0 0)) (fun m3 =>
  x_lt (x_si m3 0 1 (v1.1 0 1)) (fun m4 =>
  x_lt (x_si m4 0 2 (v1.1 0 2)) (fun m5 =>
  x_lt (x_si m5 0 3 (v1.1 0 3)) (fun m6 =>
  x_lt (x_si m6 0 4 (v1.1 0 4)) (fun m7 =>
  x_lt (x_si m7 0 5 (v1.1 0 5)) (fun m8 =>
  x_lt (r_bec 12 12 (x_sub m8 1) (x_sub v1 1)) (fun y9 =>
  x_lt (x_put m8 1 2 y9) (fun m10 =>
  x_lt (r_bec 12 12 (x_sub m10 3) (x_sub v1 3)) (fun y11 =>
  x_lt (x_put m10 3 2 y11) (fun m12 =>
  x_lt (r_bec 12 12 (x_sub m12 5) (x_sub v1 5)) (fun y13 =>
  x_lt (x_put m12 5 2 y13) (fun m14 =>
  x_lt (r_bec 12 12 (x_sub m14 7) (x_sub v1 7)) (fun y15 =>
  x_lt (x_put m14 7 2 y15) (fun m16 =>
  x_lt (r_bec 6 6 (x_sub m16 9) (x_sub v1 9)) (fun y17 =>
  x_lt (x_put m16 9 2 y17) (fun m18 =>
  x_lt (r_bec 5 5 (x_sub m18 11) (x_sub v1 11)) (fun y19 =>
  x_lt (x_put m18 11 2 y19) (fun m20 =>
  x_lt (r_bec 5 5 (x_sub m20 13) (x_sub v1 13)) (fun y21 =>
  x_lt (x_put m20 13 2 y21) (fun m22 =>
  x_lp (φ := XM → Int32 → Option (XM)) (fun _ _ => none) (f_X9_become_127 v1 ) x_NN m22 (0 : Int32)))))))))))))))))))))
set_option maxRecDepth 100000 in
set_option maxHeartbeats 4000000 in
theorem w_X9_become_127 {p : Program} {l : Launch} {e : Env} {s : State} {m : MethodId} {args : Array Value} {below : List Frame} {meth : Method} {c : Code} {D : va_G} {tc : Nat → ClassId} {aK aV : Nat → Nat} {A : Nat → Prop} {ad0 : Nat → Nat} {ad1 : Nat → Nat} {v1 : XM} (X : Cx p s m args meth c cX9_become 3 none RX9 D tc aK aV A [(shValley, ad0), (shValley, ad1)])  {o : XM}  : ∀ (n : Nat), ∀ (w0 : XM) (l2 : Int32), x_lp (φ := XM → Int32 → Option (XM)) (fun _ _ => none) (f_X9_become_127 v1 ) n w0 l2 = some o → aW p l e (x_Rm 2) s m args below meth c D tc A 3 [(shValley, ad0), (shValley, ad1)] none True [o, v1] 127 [(0, .ref (ad0 0)), (1, .ref (ad1 0)), (2, .int l2)] [] [w0, v1] := by
  intro n
  induction n with
  | zero => intro w0 l2 h; exact absurd h (fun q => by cases q)
  | succ n ih =>
    intro w0 l2 h
    have h : f_X9_become_127 v1  (x_lp (φ := XM → Int32 → Option (XM)) (fun _ _ => none) (f_X9_become_127 v1 ) n) w0 l2 = some o := h
    generalize x_lp (φ := XM → Int32 → Option (XM)) (fun _ _ => none) (f_X9_become_127 v1 ) n = k127 at h ih
    have hk127 := ih
    unfold f_X9_become_127 at h
    refine a_iload_n (pc := 127) X 2 dX9_become_127 rfl rfl ?_
    refine a_aload_n (pc := 128) X 0 dX9_become_128 rfl rfl ?_
    refine a_getR (pc := 129) X 0 15 15 fl_RX9_42 rfl rfl rfl rfl rfl dX9_become_129 ?_
    refine a_alenL (pc := 132) (x := 19) X 0 rfl rfl rfl (by decide) dX9_become_132 ?_
    refine a_icmp_ge (pc := 133) X 153 dX9_become_133 rfl (fun c_133 => ?_) (fun c_133 => ?_)
    · have h := x_ifp c_133 h
      have h := Option.some.inj h; subst h
      exact a_vret (pc := 153) X trivial dX9_become_153
    · have h := x_ifn c_133 h
      refine a_aload_n (pc := 136) X 0 dX9_become_136 rfl rfl ?_
      refine a_getR (pc := 137) X 0 15 15 fl_RX9_42 rfl rfl rfl rfl rfl dX9_become_137 ?_
      refine a_iload_n (pc := 140) X 2 dX9_become_140 rfl rfl ?_
      refine a_aload_n (pc := 141) X 1 dX9_become_141 rfl rfl ?_
      refine a_iload_n (pc := 142) X 2 dX9_become_142 rfl rfl ?_
      obtain ⟨y1, e_y1, h⟩ := x_bo_elim h
      refine a_callV (pc := 143) (st2 := [.long y1, .int l2, .ref (ad0 15)]) (vs2 := [w0, v1]) X [(1, 0, 16)] [none] 1 0 9 [.int l2] [.int l2, .ref (ad0 15)] cv_RX9_65 (c_X9_nameAt (ad0 := ad1)  e_y1) rfl rfl rfl rfl rfl rfl rfl rfl rfl rfl rfl rfl rfl rfl rfl (Nat.le_of_ble_eq_true rfl) ⟨Nat.le_of_ble_eq_true rfl, Nat.le_of_ble_eq_true rfl⟩ dX9_become_143 (fun _ => ?_)
      obtain ⟨c_146, h⟩ := x_ck_elim h
      refine a_last (pc := 146) X 0 rfl rfl rfl c_146 dX9_become_146 ?_
      obtain ⟨m2, e_m2, h⟩ := x_lt_elim h
      refine a_nm (vs2 := [m2, v1]) (congrArg (fun q : XM => [q, v1]) e_m2) ?_
      refine a_iinc (pc := 147) X 2 [(2, .int (l2 + 1)), (0, .ref (ad0 0)), (1, .ref (ad1 0))] dX9_become_147 rfl (congrArg (HAdd.hAdd l2) q_ic_1) (by decide) rfl ?_
      refine a_goto (pc := 150) X 127 dX9_become_150 rfl ?_
      refine a_sub [1, 2, 0] rfl ?_
      exact hk127 _ _ h
set_option maxRecDepth 100000 in
set_option maxHeartbeats 4000000 in
theorem c_X9_become {l : Launch}  {ad0 : Nat → Nat} {ad1 : Nat → Nat} {v0 v1 : XM}   {o : XM} (h : f_X9_become v0 v1 = some o) : CT l yX9_become cX9_become 3 none 2 [(shValley, ad0), (shValley, ad1)] [v0, v1] (fun aK => [.ref (ad0 0), .ref (ad1 0)]) none True [o, v1] := by
  refine CT_of (by decide) (fun _ => Nat.le_of_ble_eq_true rfl) ?_
  intro p e s m args below meth c D tc aK aV A X
  have X : Cx p s m args meth c cX9_become 3 none RX9 D tc aK aV A [(shValley, ad0), (shValley, ad1)] := X
  show aW p l e (x_Rm 2) s m args below meth c D tc A 3 [(shValley, ad0), (shValley, ad1)] none True [o, v1] 0 [(0, .ref (ad0 0)), (1, .ref (ad1 0))] [] [v0, v1]
  unfold f_X9_become at h
  refine a_aload_n (pc := 0) X 0 dX9_become_0 rfl rfl ?_
  refine a_aload_n (pc := 1) X 1 dX9_become_1 rfl rfl ?_
  refine a_getI (pc := 2) X 1 fl_RX9_46 rfl rfl rfl rfl dX9_become_2 ?_
  refine a_putI (pc := 5) X 0 fl_RX9_46 rfl rfl rfl rfl dX9_become_5 ?_
  obtain ⟨m3, e_m3, h⟩ := x_lt_elim h
  refine a_nm (vs2 := [m3, v1]) (congrArg (fun q : XM => [q, v1]) e_m3) ?_
  refine a_aload_n (pc := 8) X 0 dX9_become_8 rfl rfl ?_
  refine a_aload_n (pc := 9) X 1 dX9_become_9 rfl rfl ?_
  refine a_getI (pc := 10) X 1 fl_RX9_49 rfl rfl rfl rfl dX9_become_10 ?_
  refine a_putI (pc := 13) X 0 fl_RX9_49 rfl rfl rfl rfl dX9_become_13 ?_
  obtain ⟨m4, e_m4, h⟩ := x_lt_elim h
  refine a_nm (vs2 := [m4, v1]) (congrArg (fun q : XM => [q, v1]) e_m4) ?_
  refine a_aload_n (pc := 16) X 0 dX9_become_16 rfl rfl ?_
  refine a_aload_n (pc := 17) X 1 dX9_become_17 rfl rfl ?_
  refine a_getI (pc := 18) X 1 fl_RX9_52 rfl rfl rfl rfl dX9_become_18 ?_
  refine a_putI (pc := 21) X 0 fl_RX9_52 rfl rfl rfl rfl dX9_become_21 ?_
  obtain ⟨m5, e_m5, h⟩ := x_lt_elim h
  refine a_nm (vs2 := [m5, v1]) (congrArg (fun q : XM => [q, v1]) e_m5) ?_
  refine a_aload_n (pc := 24) X 0 dX9_become_24 rfl rfl ?_
  refine a_aload_n (pc := 25) X 1 dX9_become_25 rfl rfl ?_
  refine a_getI (pc := 26) X 1 fl_RX9_55 rfl rfl rfl rfl dX9_become_26 ?_
  refine a_putI (pc := 29) X 0 fl_RX9_55 rfl rfl rfl rfl dX9_become_29 ?_
  obtain ⟨m6, e_m6, h⟩ := x_lt_elim h
  refine a_nm (vs2 := [m6, v1]) (congrArg (fun q : XM => [q, v1]) e_m6) ?_
  refine a_aload_n (pc := 32) X 0 dX9_become_32 rfl rfl ?_
  refine a_aload_n (pc := 33) X 1 dX9_become_33 rfl rfl ?_
  refine a_getI (pc := 34) X 1 fl_RX9_9 rfl rfl rfl rfl dX9_become_34 ?_
  refine a_putI (pc := 37) X 0 fl_RX9_9 rfl rfl rfl rfl dX9_become_37 ?_
  obtain ⟨m7, e_m7, h⟩ := x_lt_elim h
  refine a_nm (vs2 := [m7, v1]) (congrArg (fun q : XM => [q, v1]) e_m7) ?_
  refine a_aload_n (pc := 40) X 0 dX9_become_40 rfl rfl ?_
  refine a_aload_n (pc := 41) X 1 dX9_become_41 rfl rfl ?_
  refine a_getI (pc := 42) X 1 fl_RX9_58 rfl rfl rfl rfl dX9_become_42 ?_
  refine a_putI (pc := 45) X 0 fl_RX9_58 rfl rfl rfl rfl dX9_become_45 ?_
  obtain ⟨m8, e_m8, h⟩ := x_lt_elim h
  refine a_nm (vs2 := [m8, v1]) (congrArg (fun q : XM => [q, v1]) e_m8) ?_
  refine a_aload_n (pc := 48) X 0 dX9_become_48 rfl rfl ?_
  refine a_getR (pc := 49) X 0 1 1 fl_RX9_20 rfl rfl rfl rfl rfl dX9_become_49 ?_
  refine a_aload_n (pc := 52) X 1 dX9_become_52 rfl rfl ?_
  refine a_getR (pc := 53) X 1 1 1 fl_RX9_20 rfl rfl rfl rfl rfl dX9_become_53 ?_
  obtain ⟨y9, e_y9, h⟩ := x_lt_elim h
  refine a_callV (pc := 56) (st2 := []) (vs2 := [x_put m8 1 2 y9, v1]) X [(0, 1, 2), (1, 1, 2)] [some y9, none] 0 1 3 [.ref (ad1 1)] [] cv_RX9_61 (ct_bec (ad0 := (fun i => ad0 (i + 1))) (ad1 := (fun i => ad1 (i + 1))) (by decide) (by decide) e_y9) rfl rfl rfl rfl rfl rfl rfl rfl rfl rfl rfl rfl rfl rfl rfl (Nat.le_of_ble_eq_true rfl) ⟨Nat.le_of_ble_eq_true rfl, Nat.le_of_ble_eq_true rfl⟩ dX9_become_56 (fun _ => ?_)
  obtain ⟨m10, e_m10, h⟩ := x_lt_elim h
  refine a_nm (vs2 := [m10, v1]) (congrArg (fun q : XM => [q, v1]) e_m10) ?_
  refine a_aload_n (pc := 59) X 0 dX9_become_59 rfl rfl ?_
  refine a_getR (pc := 60) X 0 3 3 fl_RX9_24 rfl rfl rfl rfl rfl dX9_become_60 ?_
  refine a_aload_n (pc := 63) X 1 dX9_become_63 rfl rfl ?_
  refine a_getR (pc := 64) X 1 3 3 fl_RX9_24 rfl rfl rfl rfl rfl dX9_become_64 ?_
  obtain ⟨y11, e_y11, h⟩ := x_lt_elim h
  refine a_callV (pc := 67) (st2 := []) (vs2 := [x_put m10 3 2 y11, v1]) X [(0, 3, 2), (1, 3, 2)] [some y11, none] 0 3 3 [.ref (ad1 3)] [] cv_RX9_61 (ct_bec (ad0 := (fun i => ad0 (i + 3))) (ad1 := (fun i => ad1 (i + 3))) (by decide) (by decide) e_y11) rfl rfl rfl rfl rfl rfl rfl rfl rfl rfl rfl rfl rfl rfl rfl (Nat.le_of_ble_eq_true rfl) ⟨Nat.le_of_ble_eq_true rfl, Nat.le_of_ble_eq_true rfl⟩ dX9_become_67 (fun _ => ?_)
  obtain ⟨m12, e_m12, h⟩ := x_lt_elim h
  refine a_nm (vs2 := [m12, v1]) (congrArg (fun q : XM => [q, v1]) e_m12) ?_
  refine a_aload_n (pc := 70) X 0 dX9_become_70 rfl rfl ?_
  refine a_getR (pc := 71) X 0 5 5 fl_RX9_27 rfl rfl rfl rfl rfl dX9_become_71 ?_
  refine a_aload_n (pc := 74) X 1 dX9_become_74 rfl rfl ?_
  refine a_getR (pc := 75) X 1 5 5 fl_RX9_27 rfl rfl rfl rfl rfl dX9_become_75 ?_
  obtain ⟨y13, e_y13, h⟩ := x_lt_elim h
  refine a_callV (pc := 78) (st2 := []) (vs2 := [x_put m12 5 2 y13, v1]) X [(0, 5, 2), (1, 5, 2)] [some y13, none] 0 5 3 [.ref (ad1 5)] [] cv_RX9_61 (ct_bec (ad0 := (fun i => ad0 (i + 5))) (ad1 := (fun i => ad1 (i + 5))) (by decide) (by decide) e_y13) rfl rfl rfl rfl rfl rfl rfl rfl rfl rfl rfl rfl rfl rfl rfl (Nat.le_of_ble_eq_true rfl) ⟨Nat.le_of_ble_eq_true rfl, Nat.le_of_ble_eq_true rfl⟩ dX9_become_78 (fun _ => ?_)
  obtain ⟨m14, e_m14, h⟩ := x_lt_elim h
  refine a_nm (vs2 := [m14, v1]) (congrArg (fun q : XM => [q, v1]) e_m14) ?_
  refine a_aload_n (pc := 81) X 0 dX9_become_81 rfl rfl ?_
  refine a_getR (pc := 82) X 0 7 7 fl_RX9_30 rfl rfl rfl rfl rfl dX9_become_82 ?_
  refine a_aload_n (pc := 85) X 1 dX9_become_85 rfl rfl ?_
  refine a_getR (pc := 86) X 1 7 7 fl_RX9_30 rfl rfl rfl rfl rfl dX9_become_86 ?_
  obtain ⟨y15, e_y15, h⟩ := x_lt_elim h
  refine a_callV (pc := 89) (st2 := []) (vs2 := [x_put m14 7 2 y15, v1]) X [(0, 7, 2), (1, 7, 2)] [some y15, none] 0 7 3 [.ref (ad1 7)] [] cv_RX9_61 (ct_bec (ad0 := (fun i => ad0 (i + 7))) (ad1 := (fun i => ad1 (i + 7))) (by decide) (by decide) e_y15) rfl rfl rfl rfl rfl rfl rfl rfl rfl rfl rfl rfl rfl rfl rfl (Nat.le_of_ble_eq_true rfl) ⟨Nat.le_of_ble_eq_true rfl, Nat.le_of_ble_eq_true rfl⟩ dX9_become_89 (fun _ => ?_)
  obtain ⟨m16, e_m16, h⟩ := x_lt_elim h
  refine a_nm (vs2 := [m16, v1]) (congrArg (fun q : XM => [q, v1]) e_m16) ?_
  refine a_aload_n (pc := 92) X 0 dX9_become_92 rfl rfl ?_
  refine a_getR (pc := 93) X 0 9 9 fl_RX9_33 rfl rfl rfl rfl rfl dX9_become_93 ?_
  refine a_aload_n (pc := 96) X 1 dX9_become_96 rfl rfl ?_
  refine a_getR (pc := 97) X 1 9 9 fl_RX9_33 rfl rfl rfl rfl rfl dX9_become_97 ?_
  obtain ⟨y17, e_y17, h⟩ := x_lt_elim h
  refine a_callV (pc := 100) (st2 := []) (vs2 := [x_put m16 9 2 y17, v1]) X [(0, 9, 2), (1, 9, 2)] [some y17, none] 0 9 3 [.ref (ad1 9)] [] cv_RX9_61 (ct_bec (ad0 := (fun i => ad0 (i + 9))) (ad1 := (fun i => ad1 (i + 9))) (by decide) (by decide) e_y17) rfl rfl rfl rfl rfl rfl rfl rfl rfl rfl rfl rfl rfl rfl rfl (Nat.le_of_ble_eq_true rfl) ⟨Nat.le_of_ble_eq_true rfl, Nat.le_of_ble_eq_true rfl⟩ dX9_become_100 (fun _ => ?_)
  obtain ⟨m18, e_m18, h⟩ := x_lt_elim h
  refine a_nm (vs2 := [m18, v1]) (congrArg (fun q : XM => [q, v1]) e_m18) ?_
  refine a_aload_n (pc := 103) X 0 dX9_become_103 rfl rfl ?_
  refine a_getR (pc := 104) X 0 11 11 fl_RX9_36 rfl rfl rfl rfl rfl dX9_become_104 ?_
  refine a_aload_n (pc := 107) X 1 dX9_become_107 rfl rfl ?_
  refine a_getR (pc := 108) X 1 11 11 fl_RX9_36 rfl rfl rfl rfl rfl dX9_become_108 ?_
  obtain ⟨y19, e_y19, h⟩ := x_lt_elim h
  refine a_callV (pc := 111) (st2 := []) (vs2 := [x_put m18 11 2 y19, v1]) X [(0, 11, 2), (1, 11, 2)] [some y19, none] 0 11 3 [.ref (ad1 11)] [] cv_RX9_61 (ct_bec (ad0 := (fun i => ad0 (i + 11))) (ad1 := (fun i => ad1 (i + 11))) (by decide) (by decide) e_y19) rfl rfl rfl rfl rfl rfl rfl rfl rfl rfl rfl rfl rfl rfl rfl (Nat.le_of_ble_eq_true rfl) ⟨Nat.le_of_ble_eq_true rfl, Nat.le_of_ble_eq_true rfl⟩ dX9_become_111 (fun _ => ?_)
  obtain ⟨m20, e_m20, h⟩ := x_lt_elim h
  refine a_nm (vs2 := [m20, v1]) (congrArg (fun q : XM => [q, v1]) e_m20) ?_
  refine a_aload_n (pc := 114) X 0 dX9_become_114 rfl rfl ?_
  refine a_getR (pc := 115) X 0 13 13 fl_RX9_39 rfl rfl rfl rfl rfl dX9_become_115 ?_
  refine a_aload_n (pc := 118) X 1 dX9_become_118 rfl rfl ?_
  refine a_getR (pc := 119) X 1 13 13 fl_RX9_39 rfl rfl rfl rfl rfl dX9_become_119 ?_
  obtain ⟨y21, e_y21, h⟩ := x_lt_elim h
  refine a_callV (pc := 122) (st2 := []) (vs2 := [x_put m20 13 2 y21, v1]) X [(0, 13, 2), (1, 13, 2)] [some y21, none] 0 13 3 [.ref (ad1 13)] [] cv_RX9_61 (ct_bec (ad0 := (fun i => ad0 (i + 13))) (ad1 := (fun i => ad1 (i + 13))) (by decide) (by decide) e_y21) rfl rfl rfl rfl rfl rfl rfl rfl rfl rfl rfl rfl rfl rfl rfl (Nat.le_of_ble_eq_true rfl) ⟨Nat.le_of_ble_eq_true rfl, Nat.le_of_ble_eq_true rfl⟩ dX9_become_122 (fun _ => ?_)
  obtain ⟨m22, e_m22, h⟩ := x_lt_elim h
  refine a_nm (vs2 := [m22, v1]) (congrArg (fun q : XM => [q, v1]) e_m22) ?_
  refine a_iconst (pc := 125) X dX9_become_125 q_ic_0 ?_
  refine a_istore_n (pc := 126) X [(2, .int (0 : Int32)), (0, .ref (ad0 0)), (1, .ref (ad1 0))] dX9_become_126 rfl (by decide) rfl ?_
  refine a_sub [1, 2, 0] rfl ?_
  exact w_X9_become_127 X    x_NN _ _ h
theorem dX9_hasThing_0 : decode cX9_hasThing 0 = .ok (.iload_n 1, 1) := by decide +kernel
theorem dX9_hasThing_1 : decode cX9_hasThing 1 = .ok (.ifCond .lt 15, 3) := by decide +kernel
theorem dX9_hasThing_4 : decode cX9_hasThing 4 = .ok (.iload_n 1, 1) := by decide +kernel
theorem dX9_hasThing_5 : decode cX9_hasThing 5 = .ok (.aload_n 0, 1) := by decide +kernel
theorem dX9_hasThing_6 : decode cX9_hasThing 6 = .ok (.getfield 52, 3) := by decide +kernel
theorem dX9_hasThing_9 : decode cX9_hasThing 9 = .ok (.if_icmp .ge 7, 3) := by decide +kernel
theorem dX9_hasThing_12 : decode cX9_hasThing 12 = .ok (.iconst 1, 1) := by decide +kernel
theorem dX9_hasThing_13 : decode cX9_hasThing 13 = .ok (.goto 4, 3) := by decide +kernel
theorem dX9_hasThing_16 : decode cX9_hasThing 16 = .ok (.iconst 0, 1) := by decide +kernel
theorem dX9_hasThing_17 : decode cX9_hasThing 17 = .ok (.ireturn, 1) := by decide +kernel
def f_X9_hasThing (v0 : XM) (x0 : Int32) : Int32 :=
  if x0 < (0 : Int32) then
  (((0 : Int32) : Int32))
  else (if ((v0.1 0 2) : Int32) ≤ x0 then
  (((0 : Int32) : Int32))
  else (((1 : Int32) : Int32)))
set_option maxRecDepth 100000 in
set_option maxHeartbeats 4000000 in
theorem c_X9_hasThing {l : Launch}  {ad0 : Nat → Nat} {v0 : XM} {x0 : Int32}  {o : Int32} (h : f_X9_hasThing v0 x0 = o) : CT l yX9_hasThing cX9_hasThing 2 (some .boolean) 0 [(shValley, ad0)] [v0] (fun aK => [.ref (ad0 0), .int x0]) (some (.int o)) (x_Z o) [v0] := by
  refine CT_of (by decide) (fun _ => Nat.le_of_ble_eq_true rfl) ?_
  intro p e s m args below meth c D tc aK aV A X
  have X : Cx p s m args meth c cX9_hasThing 2 (some .boolean) RX9 D tc aK aV A [(shValley, ad0)] := X
  show aW p l e (x_Rm 0) s m args below meth c D tc A 2 [(shValley, ad0)] (some (.int o)) (x_Z o) [v0] 0 [(0, .ref (ad0 0)), (1, .int x0)] [] [v0]
  unfold f_X9_hasThing at h
  refine a_iload_n (pc := 0) X 1 dX9_hasThing_0 rfl rfl ?_
  refine a_if_lt (pc := 1) X 16 dX9_hasThing_1 rfl (fun c_1 => ?_) (fun c_1 => ?_)
  · have h := x_ifp c_1 h
    refine a_iconst (pc := 16) X dX9_hasThing_16 q_ic_0 ?_
    subst h
    exact a_zret (pc := 17) X x_Z0 x_Z0 dX9_hasThing_17
  · have h := x_ifn c_1 h
    refine a_iload_n (pc := 4) X 1 dX9_hasThing_4 rfl rfl ?_
    refine a_aload_n (pc := 5) X 0 dX9_hasThing_5 rfl rfl ?_
    refine a_getI (pc := 6) X 0 fl_RX9_52 rfl rfl rfl rfl dX9_hasThing_6 ?_
    refine a_icmp_ge (pc := 9) X 16 dX9_hasThing_9 rfl (fun c_9 => ?_) (fun c_9 => ?_)
    · have h := x_ifp c_9 h
      refine a_iconst (pc := 16) X dX9_hasThing_16 q_ic_0 ?_
      subst h
      exact a_zret (pc := 17) X x_Z0 x_Z0 dX9_hasThing_17
    · have h := x_ifn c_9 h
      refine a_iconst (pc := 12) X dX9_hasThing_12 q_ic_1 ?_
      refine a_goto (pc := 13) X 17 dX9_hasThing_13 rfl ?_
      subst h
      exact a_zret (pc := 17) X x_Z1 x_Z1 dX9_hasThing_17
theorem dX9_hasWalker_0 : decode cX9_hasWalker 0 = .ok (.iload_n 1, 1) := by decide +kernel
theorem dX9_hasWalker_1 : decode cX9_hasWalker 1 = .ok (.ifCond .lt 15, 3) := by decide +kernel
theorem dX9_hasWalker_4 : decode cX9_hasWalker 4 = .ok (.iload_n 1, 1) := by decide +kernel
theorem dX9_hasWalker_5 : decode cX9_hasWalker 5 = .ok (.aload_n 0, 1) := by decide +kernel
theorem dX9_hasWalker_6 : decode cX9_hasWalker 6 = .ok (.getfield 55, 3) := by decide +kernel
theorem dX9_hasWalker_9 : decode cX9_hasWalker 9 = .ok (.if_icmp .ge 7, 3) := by decide +kernel
theorem dX9_hasWalker_12 : decode cX9_hasWalker 12 = .ok (.iconst 1, 1) := by decide +kernel
theorem dX9_hasWalker_13 : decode cX9_hasWalker 13 = .ok (.goto 4, 3) := by decide +kernel
theorem dX9_hasWalker_16 : decode cX9_hasWalker 16 = .ok (.iconst 0, 1) := by decide +kernel
theorem dX9_hasWalker_17 : decode cX9_hasWalker 17 = .ok (.ireturn, 1) := by decide +kernel
def f_X9_hasWalker (v0 : XM) (x0 : Int32) : Int32 :=
  if x0 < (0 : Int32) then
  (((0 : Int32) : Int32))
  else (if ((v0.1 0 3) : Int32) ≤ x0 then
  (((0 : Int32) : Int32))
  else (((1 : Int32) : Int32)))
set_option maxRecDepth 100000 in
set_option maxHeartbeats 4000000 in
theorem c_X9_hasWalker {l : Launch}  {ad0 : Nat → Nat} {v0 : XM} {x0 : Int32}  {o : Int32} (h : f_X9_hasWalker v0 x0 = o) : CT l yX9_hasWalker cX9_hasWalker 2 (some .boolean) 0 [(shValley, ad0)] [v0] (fun aK => [.ref (ad0 0), .int x0]) (some (.int o)) (x_Z o) [v0] := by
  refine CT_of (by decide) (fun _ => Nat.le_of_ble_eq_true rfl) ?_
  intro p e s m args below meth c D tc aK aV A X
  have X : Cx p s m args meth c cX9_hasWalker 2 (some .boolean) RX9 D tc aK aV A [(shValley, ad0)] := X
  show aW p l e (x_Rm 0) s m args below meth c D tc A 2 [(shValley, ad0)] (some (.int o)) (x_Z o) [v0] 0 [(0, .ref (ad0 0)), (1, .int x0)] [] [v0]
  unfold f_X9_hasWalker at h
  refine a_iload_n (pc := 0) X 1 dX9_hasWalker_0 rfl rfl ?_
  refine a_if_lt (pc := 1) X 16 dX9_hasWalker_1 rfl (fun c_1 => ?_) (fun c_1 => ?_)
  · have h := x_ifp c_1 h
    refine a_iconst (pc := 16) X dX9_hasWalker_16 q_ic_0 ?_
    subst h
    exact a_zret (pc := 17) X x_Z0 x_Z0 dX9_hasWalker_17
  · have h := x_ifn c_1 h
    refine a_iload_n (pc := 4) X 1 dX9_hasWalker_4 rfl rfl ?_
    refine a_aload_n (pc := 5) X 0 dX9_hasWalker_5 rfl rfl ?_
    refine a_getI (pc := 6) X 0 fl_RX9_55 rfl rfl rfl rfl dX9_hasWalker_6 ?_
    refine a_icmp_ge (pc := 9) X 16 dX9_hasWalker_9 rfl (fun c_9 => ?_) (fun c_9 => ?_)
    · have h := x_ifp c_9 h
      refine a_iconst (pc := 16) X dX9_hasWalker_16 q_ic_0 ?_
      subst h
      exact a_zret (pc := 17) X x_Z0 x_Z0 dX9_hasWalker_17
    · have h := x_ifn c_9 h
      refine a_iconst (pc := 12) X dX9_hasWalker_12 q_ic_1 ?_
      refine a_goto (pc := 13) X 17 dX9_hasWalker_13 rfl ?_
      subst h
      exact a_zret (pc := 17) X x_Z1 x_Z1 dX9_hasWalker_17
theorem dX9_thingsAt_0 : decode cX9_thingsAt 0 = .ok (.iconst 0, 1) := by decide +kernel
theorem dX9_thingsAt_1 : decode cX9_thingsAt 1 = .ok (.istore_n 2, 1) := by decide +kernel
theorem dX9_thingsAt_2 : decode cX9_thingsAt 2 = .ok (.iconst 0, 1) := by decide +kernel
theorem dX9_thingsAt_3 : decode cX9_thingsAt 3 = .ok (.istore_n 3, 1) := by decide +kernel
theorem dX9_thingsAt_4 : decode cX9_thingsAt 4 = .ok (.iload_n 3, 1) := by decide +kernel
theorem dX9_thingsAt_5 : decode cX9_thingsAt 5 = .ok (.aload_n 0, 1) := by decide +kernel
theorem dX9_thingsAt_6 : decode cX9_thingsAt 6 = .ok (.getfield 52, 3) := by decide +kernel
theorem dX9_thingsAt_9 : decode cX9_thingsAt 9 = .ok (.if_icmp .ge 27, 3) := by decide +kernel
theorem dX9_thingsAt_12 : decode cX9_thingsAt 12 = .ok (.aload_n 0, 1) := by decide +kernel
theorem dX9_thingsAt_13 : decode cX9_thingsAt 13 = .ok (.getfield 33, 3) := by decide +kernel
theorem dX9_thingsAt_16 : decode cX9_thingsAt 16 = .ok (.iload_n 3, 1) := by decide +kernel
theorem dX9_thingsAt_17 : decode cX9_thingsAt 17 = .ok (.invokevirtual 69, 3) := by decide +kernel
theorem dX9_thingsAt_20 : decode cX9_thingsAt 20 = .ok (.iload_n 1, 1) := by decide +kernel
theorem dX9_thingsAt_21 : decode cX9_thingsAt 21 = .ok (.if_icmp .ne 9, 3) := by decide +kernel
theorem dX9_thingsAt_24 : decode cX9_thingsAt 24 = .ok (.iload_n 2, 1) := by decide +kernel
theorem dX9_thingsAt_25 : decode cX9_thingsAt 25 = .ok (.iconst 1, 1) := by decide +kernel
theorem dX9_thingsAt_26 : decode cX9_thingsAt 26 = .ok (.iload_n 3, 1) := by decide +kernel
theorem dX9_thingsAt_27 : decode cX9_thingsAt 27 = .ok (.ishl, 1) := by decide +kernel
theorem dX9_thingsAt_28 : decode cX9_thingsAt 28 = .ok (.ior, 1) := by decide +kernel
theorem dX9_thingsAt_29 : decode cX9_thingsAt 29 = .ok (.istore_n 2, 1) := by decide +kernel
theorem dX9_thingsAt_30 : decode cX9_thingsAt 30 = .ok (.iinc 3 1, 3) := by decide +kernel
theorem dX9_thingsAt_33 : decode cX9_thingsAt 33 = .ok (.goto (-29), 3) := by decide +kernel
theorem dX9_thingsAt_36 : decode cX9_thingsAt 36 = .ok (.iload_n 2, 1) := by decide +kernel
theorem dX9_thingsAt_37 : decode cX9_thingsAt 37 = .ok (.ireturn, 1) := by decide +kernel
def f_X9_thingsAt_30 (v0 : XM) (k4 : Int32 → Int32 → Int32 → Option (Int32)) (l1 : Int32) (l2 : Int32) (l3 : Int32) : Option (Int32) :=
  k4 l1 l2 (l3 + 1)
def f_X9_thingsAt_4 (v0 : XM) (k4 : Int32 → Int32 → Int32 → Option (Int32)) (l1 : Int32) (l2 : Int32) (l3 : Int32) : Option (Int32) :=
  if ((v0.1 0 2) : Int32) ≤ l3 then
  (some (l2 : Int32))
  else (x_lt (r_get 6 (x_sub v0 9) l3) (fun y1 =>
  if (y1 : Int32) = l1 then
  (x_lt (l2 ||| ((1 : Int32) <<< (l3 &&& 31))) (fun y2 =>
  f_X9_thingsAt_30 v0 k4 l1 y2 l3))
  else (f_X9_thingsAt_30 v0 k4 l1 l2 l3)))
def f_X9_thingsAt (v0 : XM) (x0 : Int32) : Option (Int32) :=
  x_lp (φ := Int32 → Int32 → Int32 → Option (Int32)) (fun _ _ _ => none) (f_X9_thingsAt_4 v0 ) x_NN x0 (0 : Int32) (0 : Int32)
set_option maxRecDepth 100000 in
set_option maxHeartbeats 4000000 in
theorem w_X9_thingsAt_30 {p : Program} {l : Launch} {e : Env} {s : State} {m : MethodId} {args : Array Value} {below : List Frame} {meth : Method} {c : Code} {D : va_G} {tc : Nat → ClassId} {aK aV : Nat → Nat} {A : Nat → Prop} {ad0 : Nat → Nat} {v0 : XM} (X : Cx p s m args meth c cX9_thingsAt 4 (some .int) RX9 D tc aK aV A [(shValley, ad0)])  {o : Int32} {k4 : Int32 → Int32 → Int32 → Option (Int32)} (hk4 : ∀ (l1 : Int32) (l2 : Int32) (l3 : Int32), k4 l1 l2 l3 = some o → aW p l e (x_Rm 1) s m args below meth c D tc A 4 [(shValley, ad0)] (some (.int o)) True [v0] 4 [(0, .ref (ad0 0)), (1, .int l1), (2, .int l2), (3, .int l3)] [] [v0]) {l1 : Int32} {l2 : Int32} {l3 : Int32}  (h : f_X9_thingsAt_30 v0 k4 l1 l2 l3 = some o) : aW p l e (x_Rm 1) s m args below meth c D tc A 4 [(shValley, ad0)] (some (.int o)) True [v0] 30 [(0, .ref (ad0 0)), (1, .int l1), (2, .int l2), (3, .int l3)] [] [v0] := by
  unfold f_X9_thingsAt_30 at h
  refine a_iinc (pc := 30) X 3 [(3, .int (l3 + 1)), (0, .ref (ad0 0)), (1, .int l1), (2, .int l2)] dX9_thingsAt_30 rfl (congrArg (HAdd.hAdd l3) q_ic_1) (by decide) rfl ?_
  refine a_goto (pc := 33) X 4 dX9_thingsAt_33 rfl ?_
  refine a_sub [1, 2, 3, 0] rfl ?_
  exact hk4 _ _ _ h
set_option maxRecDepth 100000 in
set_option maxHeartbeats 4000000 in
theorem w_X9_thingsAt_4 {p : Program} {l : Launch} {e : Env} {s : State} {m : MethodId} {args : Array Value} {below : List Frame} {meth : Method} {c : Code} {D : va_G} {tc : Nat → ClassId} {aK aV : Nat → Nat} {A : Nat → Prop} {ad0 : Nat → Nat} {v0 : XM} (X : Cx p s m args meth c cX9_thingsAt 4 (some .int) RX9 D tc aK aV A [(shValley, ad0)])  {o : Int32}  : ∀ (n : Nat), ∀ (l1 : Int32) (l2 : Int32) (l3 : Int32), x_lp (φ := Int32 → Int32 → Int32 → Option (Int32)) (fun _ _ _ => none) (f_X9_thingsAt_4 v0 ) n l1 l2 l3 = some o → aW p l e (x_Rm 1) s m args below meth c D tc A 4 [(shValley, ad0)] (some (.int o)) True [v0] 4 [(0, .ref (ad0 0)), (1, .int l1), (2, .int l2), (3, .int l3)] [] [v0] := by
  intro n
  induction n with
  | zero => intro l1 l2 l3 h; exact absurd h (fun q => by cases q)
  | succ n ih =>
    intro l1 l2 l3 h
    have h : f_X9_thingsAt_4 v0  (x_lp (φ := Int32 → Int32 → Int32 → Option (Int32)) (fun _ _ _ => none) (f_X9_thingsAt_4 v0 ) n) l1 l2 l3 = some o := h
    generalize x_lp (φ := Int32 → Int32 → Int32 → Option (Int32)) (fun _ _ _ => none) (f_X9_thingsAt_4 v0 ) n = k4 at h ih
    have hk4 := ih
    unfold f_X9_thingsAt_4 at h
    refine a_iload_n (pc := 4) X 3 dX9_thingsAt_4 rfl rfl ?_
    refine a_aload_n (pc := 5) X 0 dX9_thingsAt_5 rfl rfl ?_
    refine a_getI (pc := 6) X 0 fl_RX9_52 rfl rfl rfl rfl dX9_thingsAt_6 ?_
    refine a_icmp_ge (pc := 9) X 36 dX9_thingsAt_9 rfl (fun c_9 => ?_) (fun c_9 => ?_)
    · have h := x_ifp c_9 h
      refine a_iload_n (pc := 36) X 2 dX9_thingsAt_36 rfl rfl ?_
      have h := Option.some.inj h; subst h
      exact a_iret (pc := 37) X trivial dX9_thingsAt_37
    · have h := x_ifn c_9 h
      refine a_aload_n (pc := 12) X 0 dX9_thingsAt_12 rfl rfl ?_
      refine a_getR (pc := 13) X 0 9 9 fl_RX9_33 rfl rfl rfl rfl rfl dX9_thingsAt_13 ?_
      refine a_iload_n (pc := 16) X 3 dX9_thingsAt_16 rfl rfl ?_
      obtain ⟨y1, e_y1, h⟩ := x_lt_elim h
      refine a_callV (pc := 17) (st2 := [.int y1]) (vs2 := [v0]) X [(0, 9, 2)] [none] 0 9 3 [.int l3] [] cv_RX9_69 (ct_get (ad0 := (fun i => ad0 (i + 9))) (by decide) e_y1) rfl rfl rfl rfl rfl rfl rfl rfl rfl rfl rfl rfl rfl rfl rfl (Nat.le_of_ble_eq_true rfl) ⟨Nat.le_of_ble_eq_true rfl, Nat.le_of_ble_eq_true rfl⟩ dX9_thingsAt_17 (fun _ => ?_)
      refine a_iload_n (pc := 20) X 1 dX9_thingsAt_20 rfl rfl ?_
      refine a_icmp_ne (pc := 21) X 30 dX9_thingsAt_21 rfl (fun c_21 => ?_) (fun c_21 => ?_)
      · have h := x_ifn c_21 h
        exact w_X9_thingsAt_30 X   hk4  h
      · have h := x_ifp c_21 h
        refine a_iload_n (pc := 24) X 2 dX9_thingsAt_24 rfl rfl ?_
        refine a_iconst (pc := 25) X dX9_thingsAt_25 q_ic_1 ?_
        refine a_iload_n (pc := 26) X 3 dX9_thingsAt_26 rfl rfl ?_
        refine a_ishl (pc := 27) X dX9_thingsAt_27 ?_
        refine a_ior (pc := 28) X dX9_thingsAt_28 ?_
        obtain ⟨y2, e_y2, h⟩ := x_lt_elim h
        refine a_ni e_y2 ?_
        refine a_istore_n (pc := 29) X [(2, .int y2), (0, .ref (ad0 0)), (1, .int l1), (3, .int l3)] dX9_thingsAt_29 rfl (by decide) rfl ?_
        refine a_sub [1, 2, 0, 3] rfl ?_
        exact w_X9_thingsAt_30 X   hk4  h
set_option maxRecDepth 100000 in
set_option maxHeartbeats 4000000 in
theorem c_X9_thingsAt {l : Launch}  {ad0 : Nat → Nat} {v0 : XM} {x0 : Int32}  {o : Int32} (h : f_X9_thingsAt v0 x0 = some o) : CT l yX9_thingsAt cX9_thingsAt 4 (some .int) 1 [(shValley, ad0)] [v0] (fun aK => [.ref (ad0 0), .int x0]) (some (.int o)) True [v0] := by
  refine CT_of (by decide) (fun _ => Nat.le_of_ble_eq_true rfl) ?_
  intro p e s m args below meth c D tc aK aV A X
  have X : Cx p s m args meth c cX9_thingsAt 4 (some .int) RX9 D tc aK aV A [(shValley, ad0)] := X
  show aW p l e (x_Rm 1) s m args below meth c D tc A 4 [(shValley, ad0)] (some (.int o)) True [v0] 0 [(0, .ref (ad0 0)), (1, .int x0)] [] [v0]
  unfold f_X9_thingsAt at h
  refine a_iconst (pc := 0) X dX9_thingsAt_0 q_ic_0 ?_
  refine a_istore_n (pc := 1) X [(2, .int (0 : Int32)), (0, .ref (ad0 0)), (1, .int x0)] dX9_thingsAt_1 rfl (by decide) rfl ?_
  refine a_iconst (pc := 2) X dX9_thingsAt_2 q_ic_0 ?_
  refine a_istore_n (pc := 3) X [(3, .int (0 : Int32)), (2, .int (0 : Int32)), (0, .ref (ad0 0)), (1, .int x0)] dX9_thingsAt_3 rfl (by decide) rfl ?_
  refine a_sub [2, 3, 1, 0] rfl ?_
  exact w_X9_thingsAt_4 X    x_NN _ _ _ h
theorem dX9_foldsAt_0 : decode cX9_foldsAt 0 = .ok (.iconst 0, 1) := by decide +kernel
theorem dX9_foldsAt_1 : decode cX9_foldsAt 1 = .ok (.istore_n 2, 1) := by decide +kernel
theorem dX9_foldsAt_2 : decode cX9_foldsAt 2 = .ok (.iconst 0, 1) := by decide +kernel
theorem dX9_foldsAt_3 : decode cX9_foldsAt 3 = .ok (.istore_n 3, 1) := by decide +kernel
theorem dX9_foldsAt_4 : decode cX9_foldsAt 4 = .ok (.iload_n 3, 1) := by decide +kernel
theorem dX9_foldsAt_5 : decode cX9_foldsAt 5 = .ok (.aload_n 0, 1) := by decide +kernel
theorem dX9_foldsAt_6 : decode cX9_foldsAt 6 = .ok (.getfield 49, 3) := by decide +kernel
theorem dX9_foldsAt_9 : decode cX9_foldsAt 9 = .ok (.if_icmp .ge 25, 3) := by decide +kernel
theorem dX9_foldsAt_12 : decode cX9_foldsAt 12 = .ok (.aload_n 0, 1) := by decide +kernel
theorem dX9_foldsAt_13 : decode cX9_foldsAt 13 = .ok (.iload_n 3, 1) := by decide +kernel
theorem dX9_foldsAt_14 : decode cX9_foldsAt 14 = .ok (.iload_n 1, 1) := by decide +kernel
theorem dX9_foldsAt_15 : decode cX9_foldsAt 15 = .ok (.invokevirtual 73, 3) := by decide +kernel
theorem dX9_foldsAt_18 : decode cX9_foldsAt 18 = .ok (.iconst (-1), 1) := by decide +kernel
theorem dX9_foldsAt_19 : decode cX9_foldsAt 19 = .ok (.if_icmp .eq 9, 3) := by decide +kernel
theorem dX9_foldsAt_22 : decode cX9_foldsAt 22 = .ok (.iload_n 2, 1) := by decide +kernel
theorem dX9_foldsAt_23 : decode cX9_foldsAt 23 = .ok (.iconst 1, 1) := by decide +kernel
theorem dX9_foldsAt_24 : decode cX9_foldsAt 24 = .ok (.iload_n 3, 1) := by decide +kernel
theorem dX9_foldsAt_25 : decode cX9_foldsAt 25 = .ok (.ishl, 1) := by decide +kernel
theorem dX9_foldsAt_26 : decode cX9_foldsAt 26 = .ok (.ior, 1) := by decide +kernel
theorem dX9_foldsAt_27 : decode cX9_foldsAt 27 = .ok (.istore_n 2, 1) := by decide +kernel
theorem dX9_foldsAt_28 : decode cX9_foldsAt 28 = .ok (.iinc 3 1, 3) := by decide +kernel
theorem dX9_foldsAt_31 : decode cX9_foldsAt 31 = .ok (.goto (-27), 3) := by decide +kernel
theorem dX9_foldsAt_34 : decode cX9_foldsAt 34 = .ok (.iload_n 2, 1) := by decide +kernel
theorem dX9_foldsAt_35 : decode cX9_foldsAt 35 = .ok (.ireturn, 1) := by decide +kernel
def f_X9_foldsAt_28 (v0 : XM) (k4 : Int32 → Int32 → Int32 → Option (Int32)) (l1 : Int32) (l2 : Int32) (l3 : Int32) : Option (Int32) :=
  k4 l1 l2 (l3 + 1)
def f_X9_foldsAt_4 (v0 : XM) (k4 : Int32 → Int32 → Int32 → Option (Int32)) (l1 : Int32) (l2 : Int32) (l3 : Int32) : Option (Int32) :=
  if ((v0.1 0 1) : Int32) ≤ l3 then
  (some (l2 : Int32))
  else (x_lt (f_X9_across v0 l3 l1) (fun y1 =>
  if (y1 : Int32) = (-1 : Int32) then
  (f_X9_foldsAt_28 v0 k4 l1 l2 l3)
  else (x_lt (l2 ||| ((1 : Int32) <<< (l3 &&& 31))) (fun y2 =>
  f_X9_foldsAt_28 v0 k4 l1 y2 l3))))
def f_X9_foldsAt (v0 : XM) (x0 : Int32) : Option (Int32) :=
  x_lp (φ := Int32 → Int32 → Int32 → Option (Int32)) (fun _ _ _ => none) (f_X9_foldsAt_4 v0 ) x_NN x0 (0 : Int32) (0 : Int32)
set_option maxRecDepth 100000 in
set_option maxHeartbeats 4000000 in
theorem w_X9_foldsAt_28 {p : Program} {l : Launch} {e : Env} {s : State} {m : MethodId} {args : Array Value} {below : List Frame} {meth : Method} {c : Code} {D : va_G} {tc : Nat → ClassId} {aK aV : Nat → Nat} {A : Nat → Prop} {ad0 : Nat → Nat} {v0 : XM} (X : Cx p s m args meth c cX9_foldsAt 4 (some .int) RX9 D tc aK aV A [(shValley, ad0)])  {o : Int32} {k4 : Int32 → Int32 → Int32 → Option (Int32)} (hk4 : ∀ (l1 : Int32) (l2 : Int32) (l3 : Int32), k4 l1 l2 l3 = some o → aW p l e (x_Rm 2) s m args below meth c D tc A 4 [(shValley, ad0)] (some (.int o)) True [v0] 4 [(0, .ref (ad0 0)), (1, .int l1), (2, .int l2), (3, .int l3)] [] [v0]) {l1 : Int32} {l2 : Int32} {l3 : Int32}  (h : f_X9_foldsAt_28 v0 k4 l1 l2 l3 = some o) : aW p l e (x_Rm 2) s m args below meth c D tc A 4 [(shValley, ad0)] (some (.int o)) True [v0] 28 [(0, .ref (ad0 0)), (1, .int l1), (2, .int l2), (3, .int l3)] [] [v0] := by
  unfold f_X9_foldsAt_28 at h
  refine a_iinc (pc := 28) X 3 [(3, .int (l3 + 1)), (0, .ref (ad0 0)), (1, .int l1), (2, .int l2)] dX9_foldsAt_28 rfl (congrArg (HAdd.hAdd l3) q_ic_1) (by decide) rfl ?_
  refine a_goto (pc := 31) X 4 dX9_foldsAt_31 rfl ?_
  refine a_sub [1, 2, 3, 0] rfl ?_
  exact hk4 _ _ _ h
set_option maxRecDepth 100000 in
set_option maxHeartbeats 4000000 in
theorem w_X9_foldsAt_4 {p : Program} {l : Launch} {e : Env} {s : State} {m : MethodId} {args : Array Value} {below : List Frame} {meth : Method} {c : Code} {D : va_G} {tc : Nat → ClassId} {aK aV : Nat → Nat} {A : Nat → Prop} {ad0 : Nat → Nat} {v0 : XM} (X : Cx p s m args meth c cX9_foldsAt 4 (some .int) RX9 D tc aK aV A [(shValley, ad0)])  {o : Int32}  : ∀ (n : Nat), ∀ (l1 : Int32) (l2 : Int32) (l3 : Int32), x_lp (φ := Int32 → Int32 → Int32 → Option (Int32)) (fun _ _ _ => none) (f_X9_foldsAt_4 v0 ) n l1 l2 l3 = some o → aW p l e (x_Rm 2) s m args below meth c D tc A 4 [(shValley, ad0)] (some (.int o)) True [v0] 4 [(0, .ref (ad0 0)), (1, .int l1), (2, .int l2), (3, .int l3)] [] [v0] := by
  intro n
  induction n with
  | zero => intro l1 l2 l3 h; exact absurd h (fun q => by cases q)
  | succ n ih =>
    intro l1 l2 l3 h
    have h : f_X9_foldsAt_4 v0  (x_lp (φ := Int32 → Int32 → Int32 → Option (Int32)) (fun _ _ _ => none) (f_X9_foldsAt_4 v0 ) n) l1 l2 l3 = some o := h
    generalize x_lp (φ := Int32 → Int32 → Int32 → Option (Int32)) (fun _ _ _ => none) (f_X9_foldsAt_4 v0 ) n = k4 at h ih
    have hk4 := ih
    unfold f_X9_foldsAt_4 at h
    refine a_iload_n (pc := 4) X 3 dX9_foldsAt_4 rfl rfl ?_
    refine a_aload_n (pc := 5) X 0 dX9_foldsAt_5 rfl rfl ?_
    refine a_getI (pc := 6) X 0 fl_RX9_49 rfl rfl rfl rfl dX9_foldsAt_6 ?_
    refine a_icmp_ge (pc := 9) X 34 dX9_foldsAt_9 rfl (fun c_9 => ?_) (fun c_9 => ?_)
    · have h := x_ifp c_9 h
      refine a_iload_n (pc := 34) X 2 dX9_foldsAt_34 rfl rfl ?_
      have h := Option.some.inj h; subst h
      exact a_iret (pc := 35) X trivial dX9_foldsAt_35
    · have h := x_ifn c_9 h
      refine a_aload_n (pc := 12) X 0 dX9_foldsAt_12 rfl rfl ?_
      refine a_iload_n (pc := 13) X 3 dX9_foldsAt_13 rfl rfl ?_
      refine a_iload_n (pc := 14) X 1 dX9_foldsAt_14 rfl rfl ?_
      obtain ⟨y1, e_y1, h⟩ := x_lt_elim h
      refine a_callV (pc := 15) (st2 := [.int y1]) (vs2 := [v0]) X [(0, 0, 16)] [none] 0 0 9 [.int l3, .int l1] [] cv_RX9_73 (c_X9_across (ad0 := ad0)  e_y1) rfl rfl rfl rfl rfl rfl rfl rfl rfl rfl rfl rfl rfl rfl rfl (Nat.le_of_ble_eq_true rfl) ⟨Nat.le_of_ble_eq_true rfl, Nat.le_of_ble_eq_true rfl⟩ dX9_foldsAt_15 (fun _ => ?_)
      refine a_iconst (pc := 18) X dX9_foldsAt_18 q_ic_m1 ?_
      refine a_icmp_eq (pc := 19) X 28 dX9_foldsAt_19 rfl (fun c_19 => ?_) (fun c_19 => ?_)
      · have h := x_ifp c_19 h
        exact w_X9_foldsAt_28 X   hk4  h
      · have h := x_ifn c_19 h
        refine a_iload_n (pc := 22) X 2 dX9_foldsAt_22 rfl rfl ?_
        refine a_iconst (pc := 23) X dX9_foldsAt_23 q_ic_1 ?_
        refine a_iload_n (pc := 24) X 3 dX9_foldsAt_24 rfl rfl ?_
        refine a_ishl (pc := 25) X dX9_foldsAt_25 ?_
        refine a_ior (pc := 26) X dX9_foldsAt_26 ?_
        obtain ⟨y2, e_y2, h⟩ := x_lt_elim h
        refine a_ni e_y2 ?_
        refine a_istore_n (pc := 27) X [(2, .int y2), (0, .ref (ad0 0)), (1, .int l1), (3, .int l3)] dX9_foldsAt_27 rfl (by decide) rfl ?_
        refine a_sub [1, 2, 0, 3] rfl ?_
        exact w_X9_foldsAt_28 X   hk4  h
set_option maxRecDepth 100000 in
set_option maxHeartbeats 4000000 in
theorem c_X9_foldsAt {l : Launch}  {ad0 : Nat → Nat} {v0 : XM} {x0 : Int32}  {o : Int32} (h : f_X9_foldsAt v0 x0 = some o) : CT l yX9_foldsAt cX9_foldsAt 4 (some .int) 2 [(shValley, ad0)] [v0] (fun aK => [.ref (ad0 0), .int x0]) (some (.int o)) True [v0] := by
  refine CT_of (by decide) (fun _ => Nat.le_of_ble_eq_true rfl) ?_
  intro p e s m args below meth c D tc aK aV A X
  have X : Cx p s m args meth c cX9_foldsAt 4 (some .int) RX9 D tc aK aV A [(shValley, ad0)] := X
  show aW p l e (x_Rm 2) s m args below meth c D tc A 4 [(shValley, ad0)] (some (.int o)) True [v0] 0 [(0, .ref (ad0 0)), (1, .int x0)] [] [v0]
  unfold f_X9_foldsAt at h
  refine a_iconst (pc := 0) X dX9_foldsAt_0 q_ic_0 ?_
  refine a_istore_n (pc := 1) X [(2, .int (0 : Int32)), (0, .ref (ad0 0)), (1, .int x0)] dX9_foldsAt_1 rfl (by decide) rfl ?_
  refine a_iconst (pc := 2) X dX9_foldsAt_2 q_ic_0 ?_
  refine a_istore_n (pc := 3) X [(3, .int (0 : Int32)), (2, .int (0 : Int32)), (0, .ref (ad0 0)), (1, .int x0)] dX9_foldsAt_3 rfl (by decide) rfl ?_
  refine a_sub [2, 3, 1, 0] rfl ?_
  exact w_X9_foldsAt_4 X    x_NN _ _ _ h
theorem dX10_found_0 : decode cX10_found 0 = .ok (.aload_n 0, 1) := by decide +kernel
theorem dX10_found_1 : decode cX10_found 1 = .ok (.getfield 12, 3) := by decide +kernel
theorem dX10_found_4 : decode cX10_found 4 = .ok (.aload_n 1, 1) := by decide +kernel
theorem dX10_found_5 : decode cX10_found 5 = .ok (.invokevirtual 32, 3) := by decide +kernel
theorem dX10_found_8 : decode cX10_found 8 = .ok (.aload_n 0, 1) := by decide +kernel
theorem dX10_found_9 : decode cX10_found 9 = .ok (.getfield 21, 3) := by decide +kernel
theorem dX10_found_12 : decode cX10_found 12 = .ok (.aload_n 0, 1) := by decide +kernel
theorem dX10_found_13 : decode cX10_found 13 = .ok (.getfield 12, 3) := by decide +kernel
theorem dX10_found_16 : decode cX10_found 16 = .ok (.invokevirtual 36, 3) := by decide +kernel
theorem dX10_found_19 : decode cX10_found 19 = .ok (.aload_n 0, 1) := by decide +kernel
theorem dX10_found_20 : decode cX10_found 20 = .ok (.getfield 28, 3) := by decide +kernel
theorem dX10_found_23 : decode cX10_found 23 = .ok (.invokevirtual 39, 3) := by decide +kernel
theorem dX10_found_26 : decode cX10_found 26 = .ok (.return_, 1) := by decide +kernel
def f_X10_found (v0 : XM) (v1 : XM) : Option (XM) :=
  x_bo (f_X9_become (x_sub v0 1) v1) (fun y1 =>
  x_lt (x_put v0 1 16 y1) (fun m2 =>
  x_lt (f_X5_begin (x_sub m2 17) (x_sub m2 1)) (fun y3 =>
  x_lt (x_put m2 17 15 y3) (fun m4 =>
  x_lt (f_X4_forget (x_sub m4 32)) (fun y5 =>
  x_lt (x_put m4 32 9 y5) (fun m6 =>
  some m6))))))
set_option maxRecDepth 100000 in
set_option maxHeartbeats 4000000 in
theorem c_X10_found {l : Launch}  {ad0 : Nat → Nat} {ad1 : Nat → Nat} {v0 v1 : XM}   {o : XM} (h : f_X10_found v0 v1 = some o) : CT l yX10_found cX10_found 2 none 3 [(shWorldF, ad0), (shValley, ad1)] [v0, v1] (fun aK => [.ref (ad0 0), .ref (ad1 0)]) none True [o, v1] := by
  refine CT_of (by decide) (fun _ => Nat.le_of_ble_eq_true rfl) ?_
  intro p e s m args below meth c D tc aK aV A X
  have X : Cx p s m args meth c cX10_found 2 none RX10 D tc aK aV A [(shWorldF, ad0), (shValley, ad1)] := X
  show aW p l e (x_Rm 3) s m args below meth c D tc A 2 [(shWorldF, ad0), (shValley, ad1)] none True [o, v1] 0 [(0, .ref (ad0 0)), (1, .ref (ad1 0))] [] [v0, v1]
  unfold f_X10_found at h
  refine a_aload_n (pc := 0) X 0 dX10_found_0 rfl rfl ?_
  refine a_getR (pc := 1) X 0 1 1 fl_RX10_12 rfl rfl rfl rfl rfl dX10_found_1 ?_
  refine a_aload_n (pc := 4) X 1 dX10_found_4 rfl rfl ?_
  obtain ⟨y1, e_y1, h⟩ := x_bo_elim h
  refine a_callV (pc := 5) (st2 := []) (vs2 := [x_put v0 1 16 y1, v1]) X [(0, 1, 16), (1, 0, 16)] [some y1, none] 0 1 9 [.ref (ad1 0)] [] cv_RX10_32 (c_X9_become (ad0 := (fun i => ad0 (i + 1))) (ad1 := ad1)  e_y1) rfl rfl rfl rfl rfl rfl rfl rfl rfl rfl rfl rfl rfl rfl rfl (Nat.le_of_ble_eq_true rfl) ⟨Nat.le_of_ble_eq_true rfl, Nat.le_of_ble_eq_true rfl⟩ dX10_found_5 (fun _ => ?_)
  obtain ⟨m2, e_m2, h⟩ := x_lt_elim h
  refine a_nm (vs2 := [m2, v1]) (congrArg (fun q : XM => [q, v1]) e_m2) ?_
  refine a_aload_n (pc := 8) X 0 dX10_found_8 rfl rfl ?_
  refine a_getR (pc := 9) X 0 17 17 fl_RX10_21 rfl rfl rfl rfl rfl dX10_found_9 ?_
  refine a_aload_n (pc := 12) X 0 dX10_found_12 rfl rfl ?_
  refine a_getR (pc := 13) X 0 1 1 fl_RX10_12 rfl rfl rfl rfl rfl dX10_found_13 ?_
  obtain ⟨y3, e_y3, h⟩ := x_lt_elim h
  refine a_callV (pc := 16) (st2 := []) (vs2 := [x_put m2 17 15 y3, v1]) X [(0, 17, 15), (0, 1, 16)] [some y3, none] 0 17 5 [.ref (ad0 1)] [] cv_RX10_36 (c_X5_begin (ad0 := (fun i => ad0 (i + 17))) (ad1 := (fun i => ad0 (i + 1)))  e_y3) rfl rfl rfl rfl rfl rfl rfl rfl rfl rfl rfl rfl rfl rfl rfl (Nat.le_of_ble_eq_true rfl) ⟨Nat.le_of_ble_eq_true rfl, Nat.le_of_ble_eq_true rfl⟩ dX10_found_16 (fun _ => ?_)
  obtain ⟨m4, e_m4, h⟩ := x_lt_elim h
  refine a_nm (vs2 := [m4, v1]) (congrArg (fun q : XM => [q, v1]) e_m4) ?_
  refine a_aload_n (pc := 19) X 0 dX10_found_19 rfl rfl ?_
  refine a_getR (pc := 20) X 0 32 32 fl_RX10_28 rfl rfl rfl rfl rfl dX10_found_20 ?_
  obtain ⟨y5, e_y5, h⟩ := x_lt_elim h
  refine a_callV (pc := 23) (st2 := []) (vs2 := [x_put m4 32 9 y5, v1]) X [(0, 32, 9)] [some y5] 0 32 4 [] [] cv_RX10_39 (c_X4_forget (ad0 := (fun i => ad0 (i + 32)))  e_y5) rfl rfl rfl rfl rfl rfl rfl rfl rfl rfl rfl rfl rfl rfl rfl (Nat.le_of_ble_eq_true rfl) ⟨Nat.le_of_ble_eq_true rfl, Nat.le_of_ble_eq_true rfl⟩ dX10_found_23 (fun _ => ?_)
  obtain ⟨m6, e_m6, h⟩ := x_lt_elim h
  refine a_nm (vs2 := [m6, v1]) (congrArg (fun q : XM => [q, v1]) e_m6) ?_
  have h := Option.some.inj h; subst h
  exact a_vret (pc := 26) X trivial dX10_found_26
theorem dX10_become_0 : decode cX10_become 0 = .ok (.aload_n 0, 1) := by decide +kernel
theorem dX10_become_1 : decode cX10_become 1 = .ok (.getfield 12, 3) := by decide +kernel
theorem dX10_become_4 : decode cX10_become 4 = .ok (.aload_n 1, 1) := by decide +kernel
theorem dX10_become_5 : decode cX10_become 5 = .ok (.getfield 12, 3) := by decide +kernel
theorem dX10_become_8 : decode cX10_become 8 = .ok (.invokevirtual 32, 3) := by decide +kernel
theorem dX10_become_11 : decode cX10_become 11 = .ok (.aload_n 0, 1) := by decide +kernel
theorem dX10_become_12 : decode cX10_become 12 = .ok (.getfield 21, 3) := by decide +kernel
theorem dX10_become_15 : decode cX10_become 15 = .ok (.aload_n 1, 1) := by decide +kernel
theorem dX10_become_16 : decode cX10_become 16 = .ok (.getfield 21, 3) := by decide +kernel
theorem dX10_become_19 : decode cX10_become 19 = .ok (.invokevirtual 42, 3) := by decide +kernel
theorem dX10_become_22 : decode cX10_become 22 = .ok (.aload_n 0, 1) := by decide +kernel
theorem dX10_become_23 : decode cX10_become 23 = .ok (.getfield 28, 3) := by decide +kernel
theorem dX10_become_26 : decode cX10_become 26 = .ok (.aload_n 1, 1) := by decide +kernel
theorem dX10_become_27 : decode cX10_become 27 = .ok (.getfield 28, 3) := by decide +kernel
theorem dX10_become_30 : decode cX10_become 30 = .ok (.invokevirtual 45, 3) := by decide +kernel
theorem dX10_become_33 : decode cX10_become 33 = .ok (.return_, 1) := by decide +kernel
def f_X10_become (v0 : XM) (v1 : XM) : Option (XM) :=
  x_bo (f_X9_become (x_sub v0 1) (x_sub v1 1)) (fun y1 =>
  x_lt (x_put v0 1 16 y1) (fun m2 =>
  x_lt (f_X5_become (x_sub m2 17) (x_sub v1 17)) (fun y3 =>
  x_lt (x_put m2 17 15 y3) (fun m4 =>
  x_lt (f_X4_become (x_sub m4 32) (x_sub v1 32)) (fun y5 =>
  x_lt (x_put m4 32 9 y5) (fun m6 =>
  some m6))))))
set_option maxRecDepth 100000 in
set_option maxHeartbeats 4000000 in
theorem c_X10_become {l : Launch}  {ad0 : Nat → Nat} {ad1 : Nat → Nat} {v0 v1 : XM}   {o : XM} (h : f_X10_become v0 v1 = some o) : CT l yX10_become cX10_become 2 none 3 [(shWorldF, ad0), (shWorldF, ad1)] [v0, v1] (fun aK => [.ref (ad0 0), .ref (ad1 0)]) none True [o, v1] := by
  refine CT_of (by decide) (fun _ => Nat.le_of_ble_eq_true rfl) ?_
  intro p e s m args below meth c D tc aK aV A X
  have X : Cx p s m args meth c cX10_become 2 none RX10 D tc aK aV A [(shWorldF, ad0), (shWorldF, ad1)] := X
  show aW p l e (x_Rm 3) s m args below meth c D tc A 2 [(shWorldF, ad0), (shWorldF, ad1)] none True [o, v1] 0 [(0, .ref (ad0 0)), (1, .ref (ad1 0))] [] [v0, v1]
  unfold f_X10_become at h
  refine a_aload_n (pc := 0) X 0 dX10_become_0 rfl rfl ?_
  refine a_getR (pc := 1) X 0 1 1 fl_RX10_12 rfl rfl rfl rfl rfl dX10_become_1 ?_
  refine a_aload_n (pc := 4) X 1 dX10_become_4 rfl rfl ?_
  refine a_getR (pc := 5) X 1 1 1 fl_RX10_12 rfl rfl rfl rfl rfl dX10_become_5 ?_
  obtain ⟨y1, e_y1, h⟩ := x_bo_elim h
  refine a_callV (pc := 8) (st2 := []) (vs2 := [x_put v0 1 16 y1, v1]) X [(0, 1, 16), (1, 1, 16)] [some y1, none] 0 1 9 [.ref (ad1 1)] [] cv_RX10_32 (c_X9_become (ad0 := (fun i => ad0 (i + 1))) (ad1 := (fun i => ad1 (i + 1)))  e_y1) rfl rfl rfl rfl rfl rfl rfl rfl rfl rfl rfl rfl rfl rfl rfl (Nat.le_of_ble_eq_true rfl) ⟨Nat.le_of_ble_eq_true rfl, Nat.le_of_ble_eq_true rfl⟩ dX10_become_8 (fun _ => ?_)
  obtain ⟨m2, e_m2, h⟩ := x_lt_elim h
  refine a_nm (vs2 := [m2, v1]) (congrArg (fun q : XM => [q, v1]) e_m2) ?_
  refine a_aload_n (pc := 11) X 0 dX10_become_11 rfl rfl ?_
  refine a_getR (pc := 12) X 0 17 17 fl_RX10_21 rfl rfl rfl rfl rfl dX10_become_12 ?_
  refine a_aload_n (pc := 15) X 1 dX10_become_15 rfl rfl ?_
  refine a_getR (pc := 16) X 1 17 17 fl_RX10_21 rfl rfl rfl rfl rfl dX10_become_16 ?_
  obtain ⟨y3, e_y3, h⟩ := x_lt_elim h
  refine a_callV (pc := 19) (st2 := []) (vs2 := [x_put m2 17 15 y3, v1]) X [(0, 17, 15), (1, 17, 15)] [some y3, none] 0 17 5 [.ref (ad1 17)] [] cv_RX10_42 (c_X5_become (ad0 := (fun i => ad0 (i + 17))) (ad1 := (fun i => ad1 (i + 17)))  e_y3) rfl rfl rfl rfl rfl rfl rfl rfl rfl rfl rfl rfl rfl rfl rfl (Nat.le_of_ble_eq_true rfl) ⟨Nat.le_of_ble_eq_true rfl, Nat.le_of_ble_eq_true rfl⟩ dX10_become_19 (fun _ => ?_)
  obtain ⟨m4, e_m4, h⟩ := x_lt_elim h
  refine a_nm (vs2 := [m4, v1]) (congrArg (fun q : XM => [q, v1]) e_m4) ?_
  refine a_aload_n (pc := 22) X 0 dX10_become_22 rfl rfl ?_
  refine a_getR (pc := 23) X 0 32 32 fl_RX10_28 rfl rfl rfl rfl rfl dX10_become_23 ?_
  refine a_aload_n (pc := 26) X 1 dX10_become_26 rfl rfl ?_
  refine a_getR (pc := 27) X 1 32 32 fl_RX10_28 rfl rfl rfl rfl rfl dX10_become_27 ?_
  obtain ⟨y5, e_y5, h⟩ := x_lt_elim h
  refine a_callV (pc := 30) (st2 := []) (vs2 := [x_put m4 32 9 y5, v1]) X [(0, 32, 9), (1, 32, 9)] [some y5, none] 0 32 4 [.ref (ad1 32)] [] cv_RX10_45 (c_X4_become (ad0 := (fun i => ad0 (i + 32))) (ad1 := (fun i => ad1 (i + 32)))  e_y5) rfl rfl rfl rfl rfl rfl rfl rfl rfl rfl rfl rfl rfl rfl rfl (Nat.le_of_ble_eq_true rfl) ⟨Nat.le_of_ble_eq_true rfl, Nat.le_of_ble_eq_true rfl⟩ dX10_become_30 (fun _ => ?_)
  obtain ⟨m6, e_m6, h⟩ := x_lt_elim h
  refine a_nm (vs2 := [m6, v1]) (congrArg (fun q : XM => [q, v1]) e_m6) ?_
  have h := Option.some.inj h; subst h
  exact a_vret (pc := 33) X trivial dX10_become_33
theorem dX10_deepInAll_0 : decode cX10_deepInAll 0 = .ok (.iconst 0, 1) := by decide +kernel
theorem dX10_deepInAll_1 : decode cX10_deepInAll 1 = .ok (.istore_n 2, 1) := by decide +kernel
theorem dX10_deepInAll_2 : decode cX10_deepInAll 2 = .ok (.iconst 0, 1) := by decide +kernel
theorem dX10_deepInAll_3 : decode cX10_deepInAll 3 = .ok (.istore_n 3, 1) := by decide +kernel
theorem dX10_deepInAll_4 : decode cX10_deepInAll 4 = .ok (.iload_n 3, 1) := by decide +kernel
theorem dX10_deepInAll_5 : decode cX10_deepInAll 5 = .ok (.aload_n 0, 1) := by decide +kernel
theorem dX10_deepInAll_6 : decode cX10_deepInAll 6 = .ok (.getfield 12, 3) := by decide +kernel
theorem dX10_deepInAll_9 : decode cX10_deepInAll 9 = .ok (.getfield 81, 3) := by decide +kernel
theorem dX10_deepInAll_12 : decode cX10_deepInAll 12 = .ok (.if_icmp .ge 30, 3) := by decide +kernel
theorem dX10_deepInAll_15 : decode cX10_deepInAll 15 = .ok (.aload_n 0, 1) := by decide +kernel
theorem dX10_deepInAll_16 : decode cX10_deepInAll 16 = .ok (.getfield 12, 3) := by decide +kernel
theorem dX10_deepInAll_19 : decode cX10_deepInAll 19 = .ok (.iload_n 3, 1) := by decide +kernel
theorem dX10_deepInAll_20 : decode cX10_deepInAll 20 = .ok (.iload_n 1, 1) := by decide +kernel
theorem dX10_deepInAll_21 : decode cX10_deepInAll 21 = .ok (.invokevirtual 84, 3) := by decide +kernel
theorem dX10_deepInAll_24 : decode cX10_deepInAll 24 = .ok (.iconst (-1), 1) := by decide +kernel
theorem dX10_deepInAll_25 : decode cX10_deepInAll 25 = .ok (.if_icmp .eq 11, 3) := by decide +kernel
theorem dX10_deepInAll_28 : decode cX10_deepInAll 28 = .ok (.iload_n 2, 1) := by decide +kernel
theorem dX10_deepInAll_29 : decode cX10_deepInAll 29 = .ok (.aload_n 0, 1) := by decide +kernel
theorem dX10_deepInAll_30 : decode cX10_deepInAll 30 = .ok (.iload_n 3, 1) := by decide +kernel
theorem dX10_deepInAll_31 : decode cX10_deepInAll 31 = .ok (.invokevirtual 78, 3) := by decide +kernel
theorem dX10_deepInAll_34 : decode cX10_deepInAll 34 = .ok (.iadd, 1) := by decide +kernel
theorem dX10_deepInAll_35 : decode cX10_deepInAll 35 = .ok (.istore_n 2, 1) := by decide +kernel
theorem dX10_deepInAll_36 : decode cX10_deepInAll 36 = .ok (.iinc 3 1, 3) := by decide +kernel
theorem dX10_deepInAll_39 : decode cX10_deepInAll 39 = .ok (.goto (-35), 3) := by decide +kernel
theorem dX10_deepInAll_42 : decode cX10_deepInAll 42 = .ok (.iload_n 2, 1) := by decide +kernel
theorem dX10_deepInAll_43 : decode cX10_deepInAll 43 = .ok (.ireturn, 1) := by decide +kernel
def f_X10_deepInAll_36 (v0 : XM) (k4 : Int32 → Int32 → Int32 → Option (Int32)) (l1 : Int32) (l2 : Int32) (l3 : Int32) : Option (Int32) :=
  k4 l1 l2 (l3 + 1)
def f_X10_deepInAll_4 (v0 : XM) (k4 : Int32 → Int32 → Int32 → Option (Int32)) (l1 : Int32) (l2 : Int32) (l3 : Int32) : Option (Int32) :=
  if ((v0.1 1 1) : Int32) ≤ l3 then
  (some (l2 : Int32))
  else (x_lt (f_X9_across (x_sub v0 1) l3 l1) (fun y1 =>
  if (y1 : Int32) = (-1 : Int32) then
  (f_X10_deepInAll_36 v0 k4 l1 l2 l3)
  else (x_lt (f_X10_deepNow v0 l3) (fun y2 =>
  f_X10_deepInAll_36 v0 k4 l1 (l2 + y2) l3))))
def f_X10_deepInAll (v0 : XM) (x0 : Int32) : Option (Int32) :=
  x_lp (φ := Int32 → Int32 → Int32 → Option (Int32)) (fun _ _ _ => none) (f_X10_deepInAll_4 v0 ) x_NN x0 (0 : Int32) (0 : Int32)
set_option maxRecDepth 100000 in
set_option maxHeartbeats 4000000 in
theorem w_X10_deepInAll_36 {p : Program} {l : Launch} {e : Env} {s : State} {m : MethodId} {args : Array Value} {below : List Frame} {meth : Method} {c : Code} {D : va_G} {tc : Nat → ClassId} {aK aV : Nat → Nat} {A : Nat → Prop} {ad0 : Nat → Nat} {v0 : XM} (X : Cx p s m args meth c cX10_deepInAll 4 (some .int) RX10 D tc aK aV A [(shWorld, ad0)])  {o : Int32} {k4 : Int32 → Int32 → Int32 → Option (Int32)} (hk4 : ∀ (l1 : Int32) (l2 : Int32) (l3 : Int32), k4 l1 l2 l3 = some o → aW p l e (x_Rm 2) s m args below meth c D tc A 4 [(shWorld, ad0)] (some (.int o)) True [v0] 4 [(0, .ref (ad0 0)), (1, .int l1), (2, .int l2), (3, .int l3)] [] [v0]) {l1 : Int32} {l2 : Int32} {l3 : Int32}  (h : f_X10_deepInAll_36 v0 k4 l1 l2 l3 = some o) : aW p l e (x_Rm 2) s m args below meth c D tc A 4 [(shWorld, ad0)] (some (.int o)) True [v0] 36 [(0, .ref (ad0 0)), (1, .int l1), (2, .int l2), (3, .int l3)] [] [v0] := by
  unfold f_X10_deepInAll_36 at h
  refine a_iinc (pc := 36) X 3 [(3, .int (l3 + 1)), (0, .ref (ad0 0)), (1, .int l1), (2, .int l2)] dX10_deepInAll_36 rfl (congrArg (HAdd.hAdd l3) q_ic_1) (by decide) rfl ?_
  refine a_goto (pc := 39) X 4 dX10_deepInAll_39 rfl ?_
  refine a_sub [1, 2, 3, 0] rfl ?_
  exact hk4 _ _ _ h
set_option maxRecDepth 100000 in
set_option maxHeartbeats 4000000 in
theorem w_X10_deepInAll_4 {p : Program} {l : Launch} {e : Env} {s : State} {m : MethodId} {args : Array Value} {below : List Frame} {meth : Method} {c : Code} {D : va_G} {tc : Nat → ClassId} {aK aV : Nat → Nat} {A : Nat → Prop} {ad0 : Nat → Nat} {v0 : XM} (X : Cx p s m args meth c cX10_deepInAll 4 (some .int) RX10 D tc aK aV A [(shWorld, ad0)])  {o : Int32}  : ∀ (n : Nat), ∀ (l1 : Int32) (l2 : Int32) (l3 : Int32), x_lp (φ := Int32 → Int32 → Int32 → Option (Int32)) (fun _ _ _ => none) (f_X10_deepInAll_4 v0 ) n l1 l2 l3 = some o → aW p l e (x_Rm 2) s m args below meth c D tc A 4 [(shWorld, ad0)] (some (.int o)) True [v0] 4 [(0, .ref (ad0 0)), (1, .int l1), (2, .int l2), (3, .int l3)] [] [v0] := by
  intro n
  induction n with
  | zero => intro l1 l2 l3 h; exact absurd h (fun q => by cases q)
  | succ n ih =>
    intro l1 l2 l3 h
    have h : f_X10_deepInAll_4 v0  (x_lp (φ := Int32 → Int32 → Int32 → Option (Int32)) (fun _ _ _ => none) (f_X10_deepInAll_4 v0 ) n) l1 l2 l3 = some o := h
    generalize x_lp (φ := Int32 → Int32 → Int32 → Option (Int32)) (fun _ _ _ => none) (f_X10_deepInAll_4 v0 ) n = k4 at h ih
    have hk4 := ih
    unfold f_X10_deepInAll_4 at h
    refine a_iload_n (pc := 4) X 3 dX10_deepInAll_4 rfl rfl ?_
    refine a_aload_n (pc := 5) X 0 dX10_deepInAll_5 rfl rfl ?_
    refine a_getR (pc := 6) X 0 1 1 fl_RX10_12 rfl rfl rfl rfl rfl dX10_deepInAll_6 ?_
    refine a_getI (pc := 9) X 0 fl_RX10_81 rfl rfl rfl rfl dX10_deepInAll_9 ?_
    refine a_icmp_ge (pc := 12) X 42 dX10_deepInAll_12 rfl (fun c_12 => ?_) (fun c_12 => ?_)
    · have h := x_ifp c_12 h
      refine a_iload_n (pc := 42) X 2 dX10_deepInAll_42 rfl rfl ?_
      have h := Option.some.inj h; subst h
      exact a_iret (pc := 43) X trivial dX10_deepInAll_43
    · have h := x_ifn c_12 h
      refine a_aload_n (pc := 15) X 0 dX10_deepInAll_15 rfl rfl ?_
      refine a_getR (pc := 16) X 0 1 1 fl_RX10_12 rfl rfl rfl rfl rfl dX10_deepInAll_16 ?_
      refine a_iload_n (pc := 19) X 3 dX10_deepInAll_19 rfl rfl ?_
      refine a_iload_n (pc := 20) X 1 dX10_deepInAll_20 rfl rfl ?_
      obtain ⟨y1, e_y1, h⟩ := x_lt_elim h
      refine a_callV (pc := 21) (st2 := [.int y1]) (vs2 := [v0]) X [(0, 1, 16)] [none] 0 1 9 [.int l3, .int l1] [] cv_RX10_84 (c_X9_across (ad0 := (fun i => ad0 (i + 1)))  e_y1) rfl rfl rfl rfl rfl rfl rfl rfl rfl rfl rfl rfl rfl rfl rfl (Nat.le_of_ble_eq_true rfl) ⟨Nat.le_of_ble_eq_true rfl, Nat.le_of_ble_eq_true rfl⟩ dX10_deepInAll_21 (fun _ => ?_)
      refine a_iconst (pc := 24) X dX10_deepInAll_24 q_ic_m1 ?_
      refine a_icmp_eq (pc := 25) X 36 dX10_deepInAll_25 rfl (fun c_25 => ?_) (fun c_25 => ?_)
      · have h := x_ifp c_25 h
        exact w_X10_deepInAll_36 X   hk4  h
      · have h := x_ifn c_25 h
        refine a_iload_n (pc := 28) X 2 dX10_deepInAll_28 rfl rfl ?_
        refine a_aload_n (pc := 29) X 0 dX10_deepInAll_29 rfl rfl ?_
        refine a_iload_n (pc := 30) X 3 dX10_deepInAll_30 rfl rfl ?_
        obtain ⟨y2, e_y2, h⟩ := x_lt_elim h
        refine a_callV (pc := 31) (st2 := [.int y2, .int l2]) (vs2 := [v0]) X [(0, 0, 32)] [none] 0 0 10 [.int l3] [.int l2] cv_RX10_78 (c_X10_deepNow (ad0 := ad0)  e_y2) rfl rfl rfl rfl rfl rfl rfl rfl rfl rfl rfl rfl rfl rfl rfl (Nat.le_of_ble_eq_true rfl) ⟨Nat.le_of_ble_eq_true rfl, Nat.le_of_ble_eq_true rfl⟩ dX10_deepInAll_31 (fun _ => ?_)
        refine a_iadd (pc := 34) X dX10_deepInAll_34 ?_
        refine a_istore_n (pc := 35) X [(2, .int (l2 + y2)), (0, .ref (ad0 0)), (1, .int l1), (3, .int l3)] dX10_deepInAll_35 rfl (by decide) rfl ?_
        refine a_sub [1, 2, 0, 3] rfl ?_
        exact w_X10_deepInAll_36 X   hk4  h
set_option maxRecDepth 100000 in
set_option maxHeartbeats 4000000 in
theorem c_X10_deepInAll {l : Launch}  {ad0 : Nat → Nat} {v0 : XM} {x0 : Int32}  {o : Int32} (h : f_X10_deepInAll v0 x0 = some o) : CT l yX10_deepInAll cX10_deepInAll 4 (some .int) 2 [(shWorld, ad0)] [v0] (fun aK => [.ref (ad0 0), .int x0]) (some (.int o)) True [v0] := by
  refine CT_of (by decide) (fun _ => Nat.le_of_ble_eq_true rfl) ?_
  intro p e s m args below meth c D tc aK aV A X
  have X : Cx p s m args meth c cX10_deepInAll 4 (some .int) RX10 D tc aK aV A [(shWorld, ad0)] := X
  show aW p l e (x_Rm 2) s m args below meth c D tc A 4 [(shWorld, ad0)] (some (.int o)) True [v0] 0 [(0, .ref (ad0 0)), (1, .int x0)] [] [v0]
  unfold f_X10_deepInAll at h
  refine a_iconst (pc := 0) X dX10_deepInAll_0 q_ic_0 ?_
  refine a_istore_n (pc := 1) X [(2, .int (0 : Int32)), (0, .ref (ad0 0)), (1, .int x0)] dX10_deepInAll_1 rfl (by decide) rfl ?_
  refine a_iconst (pc := 2) X dX10_deepInAll_2 q_ic_0 ?_
  refine a_istore_n (pc := 3) X [(3, .int (0 : Int32)), (2, .int (0 : Int32)), (0, .ref (ad0 0)), (1, .int x0)] dX10_deepInAll_3 rfl (by decide) rfl ?_
  refine a_sub [2, 3, 1, 0] rfl ?_
  exact w_X10_deepInAll_4 X    x_NN _ _ _ h
theorem dX10_walkersAt_0 : decode cX10_walkersAt 0 = .ok (.iconst 0, 1) := by decide +kernel
theorem dX10_walkersAt_1 : decode cX10_walkersAt 1 = .ok (.istore_n 2, 1) := by decide +kernel
theorem dX10_walkersAt_2 : decode cX10_walkersAt 2 = .ok (.iconst 0, 1) := by decide +kernel
theorem dX10_walkersAt_3 : decode cX10_walkersAt 3 = .ok (.istore_n 3, 1) := by decide +kernel
theorem dX10_walkersAt_4 : decode cX10_walkersAt 4 = .ok (.iload_n 3, 1) := by decide +kernel
theorem dX10_walkersAt_5 : decode cX10_walkersAt 5 = .ok (.aload_n 0, 1) := by decide +kernel
theorem dX10_walkersAt_6 : decode cX10_walkersAt 6 = .ok (.getfield 12, 3) := by decide +kernel
theorem dX10_walkersAt_9 : decode cX10_walkersAt 9 = .ok (.getfield 88, 3) := by decide +kernel
theorem dX10_walkersAt_12 : decode cX10_walkersAt 12 = .ok (.if_icmp .ge 24, 3) := by decide +kernel
theorem dX10_walkersAt_15 : decode cX10_walkersAt 15 = .ok (.aload_n 0, 1) := by decide +kernel
theorem dX10_walkersAt_16 : decode cX10_walkersAt 16 = .ok (.iload_n 3, 1) := by decide +kernel
theorem dX10_walkersAt_17 : decode cX10_walkersAt 17 = .ok (.iload_n 1, 1) := by decide +kernel
theorem dX10_walkersAt_18 : decode cX10_walkersAt 18 = .ok (.invokevirtual 94, 3) := by decide +kernel
theorem dX10_walkersAt_21 : decode cX10_walkersAt 21 = .ok (.ifCond .eq 9, 3) := by decide +kernel
theorem dX10_walkersAt_24 : decode cX10_walkersAt 24 = .ok (.iload_n 2, 1) := by decide +kernel
theorem dX10_walkersAt_25 : decode cX10_walkersAt 25 = .ok (.iconst 1, 1) := by decide +kernel
theorem dX10_walkersAt_26 : decode cX10_walkersAt 26 = .ok (.iload_n 3, 1) := by decide +kernel
theorem dX10_walkersAt_27 : decode cX10_walkersAt 27 = .ok (.ishl, 1) := by decide +kernel
theorem dX10_walkersAt_28 : decode cX10_walkersAt 28 = .ok (.ior, 1) := by decide +kernel
theorem dX10_walkersAt_29 : decode cX10_walkersAt 29 = .ok (.istore_n 2, 1) := by decide +kernel
theorem dX10_walkersAt_30 : decode cX10_walkersAt 30 = .ok (.iinc 3 1, 3) := by decide +kernel
theorem dX10_walkersAt_33 : decode cX10_walkersAt 33 = .ok (.goto (-29), 3) := by decide +kernel
theorem dX10_walkersAt_36 : decode cX10_walkersAt 36 = .ok (.iload_n 2, 1) := by decide +kernel
theorem dX10_walkersAt_37 : decode cX10_walkersAt 37 = .ok (.ireturn, 1) := by decide +kernel
def f_X10_walkersAt_30 (v0 : XM) (k4 : Int32 → Int32 → Int32 → Option (Int32)) (l1 : Int32) (l2 : Int32) (l3 : Int32) : Option (Int32) :=
  k4 l1 l2 (l3 + 1)
def f_X10_walkersAt_4 (v0 : XM) (k4 : Int32 → Int32 → Int32 → Option (Int32)) (l1 : Int32) (l2 : Int32) (l3 : Int32) : Option (Int32) :=
  if ((v0.1 1 3) : Int32) ≤ l3 then
  (some (l2 : Int32))
  else (x_lt (f_X10_isAt v0 l3 l1) (fun y1 =>
  if y1 = (0 : Int32) then
  (f_X10_walkersAt_30 v0 k4 l1 l2 l3)
  else (x_lt (l2 ||| ((1 : Int32) <<< (l3 &&& 31))) (fun y2 =>
  f_X10_walkersAt_30 v0 k4 l1 y2 l3))))
def f_X10_walkersAt (v0 : XM) (x0 : Int32) : Option (Int32) :=
  x_lp (φ := Int32 → Int32 → Int32 → Option (Int32)) (fun _ _ _ => none) (f_X10_walkersAt_4 v0 ) x_NN x0 (0 : Int32) (0 : Int32)
set_option maxRecDepth 100000 in
set_option maxHeartbeats 4000000 in
theorem w_X10_walkersAt_30 {p : Program} {l : Launch} {e : Env} {s : State} {m : MethodId} {args : Array Value} {below : List Frame} {meth : Method} {c : Code} {D : va_G} {tc : Nat → ClassId} {aK aV : Nat → Nat} {A : Nat → Prop} {ad0 : Nat → Nat} {v0 : XM} (X : Cx p s m args meth c cX10_walkersAt 4 (some .int) RX10 D tc aK aV A [(shWorld, ad0)])  {o : Int32} {k4 : Int32 → Int32 → Int32 → Option (Int32)} (hk4 : ∀ (l1 : Int32) (l2 : Int32) (l3 : Int32), k4 l1 l2 l3 = some o → aW p l e (x_Rm 3) s m args below meth c D tc A 4 [(shWorld, ad0)] (some (.int o)) True [v0] 4 [(0, .ref (ad0 0)), (1, .int l1), (2, .int l2), (3, .int l3)] [] [v0]) {l1 : Int32} {l2 : Int32} {l3 : Int32}  (h : f_X10_walkersAt_30 v0 k4 l1 l2 l3 = some o) : aW p l e (x_Rm 3) s m args below meth c D tc A 4 [(shWorld, ad0)] (some (.int o)) True [v0] 30 [(0, .ref (ad0 0)), (1, .int l1), (2, .int l2), (3, .int l3)] [] [v0] := by
  unfold f_X10_walkersAt_30 at h
  refine a_iinc (pc := 30) X 3 [(3, .int (l3 + 1)), (0, .ref (ad0 0)), (1, .int l1), (2, .int l2)] dX10_walkersAt_30 rfl (congrArg (HAdd.hAdd l3) q_ic_1) (by decide) rfl ?_
  refine a_goto (pc := 33) X 4 dX10_walkersAt_33 rfl ?_
  refine a_sub [1, 2, 3, 0] rfl ?_
  exact hk4 _ _ _ h
set_option maxRecDepth 100000 in
set_option maxHeartbeats 4000000 in
theorem w_X10_walkersAt_4 {p : Program} {l : Launch} {e : Env} {s : State} {m : MethodId} {args : Array Value} {below : List Frame} {meth : Method} {c : Code} {D : va_G} {tc : Nat → ClassId} {aK aV : Nat → Nat} {A : Nat → Prop} {ad0 : Nat → Nat} {v0 : XM} (X : Cx p s m args meth c cX10_walkersAt 4 (some .int) RX10 D tc aK aV A [(shWorld, ad0)])  {o : Int32}  : ∀ (n : Nat), ∀ (l1 : Int32) (l2 : Int32) (l3 : Int32), x_lp (φ := Int32 → Int32 → Int32 → Option (Int32)) (fun _ _ _ => none) (f_X10_walkersAt_4 v0 ) n l1 l2 l3 = some o → aW p l e (x_Rm 3) s m args below meth c D tc A 4 [(shWorld, ad0)] (some (.int o)) True [v0] 4 [(0, .ref (ad0 0)), (1, .int l1), (2, .int l2), (3, .int l3)] [] [v0] := by
  intro n
  induction n with
  | zero => intro l1 l2 l3 h; exact absurd h (fun q => by cases q)
  | succ n ih =>
    intro l1 l2 l3 h
    have h : f_X10_walkersAt_4 v0  (x_lp (φ := Int32 → Int32 → Int32 → Option (Int32)) (fun _ _ _ => none) (f_X10_walkersAt_4 v0 ) n) l1 l2 l3 = some o := h
    generalize x_lp (φ := Int32 → Int32 → Int32 → Option (Int32)) (fun _ _ _ => none) (f_X10_walkersAt_4 v0 ) n = k4 at h ih
    have hk4 := ih
    unfold f_X10_walkersAt_4 at h
    refine a_iload_n (pc := 4) X 3 dX10_walkersAt_4 rfl rfl ?_
    refine a_aload_n (pc := 5) X 0 dX10_walkersAt_5 rfl rfl ?_
    refine a_getR (pc := 6) X 0 1 1 fl_RX10_12 rfl rfl rfl rfl rfl dX10_walkersAt_6 ?_
    refine a_getI (pc := 9) X 0 fl_RX10_88 rfl rfl rfl rfl dX10_walkersAt_9 ?_
    refine a_icmp_ge (pc := 12) X 36 dX10_walkersAt_12 rfl (fun c_12 => ?_) (fun c_12 => ?_)
    · have h := x_ifp c_12 h
      refine a_iload_n (pc := 36) X 2 dX10_walkersAt_36 rfl rfl ?_
      have h := Option.some.inj h; subst h
      exact a_iret (pc := 37) X trivial dX10_walkersAt_37
    · have h := x_ifn c_12 h
      refine a_aload_n (pc := 15) X 0 dX10_walkersAt_15 rfl rfl ?_
      refine a_iload_n (pc := 16) X 3 dX10_walkersAt_16 rfl rfl ?_
      refine a_iload_n (pc := 17) X 1 dX10_walkersAt_17 rfl rfl ?_
      obtain ⟨y1, e_y1, h⟩ := x_lt_elim h
      refine a_callV (pc := 18) (st2 := [.int y1]) (vs2 := [v0]) X [(0, 0, 32)] [none] 0 0 10 [.int l3, .int l1] [] cv_RX10_94 (c_X10_isAt (ad0 := ad0)  e_y1) rfl rfl rfl rfl rfl rfl rfl rfl rfl rfl rfl rfl rfl rfl rfl (Nat.le_of_ble_eq_true rfl) ⟨Nat.le_of_ble_eq_true rfl, Nat.le_of_ble_eq_true rfl⟩ dX10_walkersAt_18 (fun z_18 => ?_)
      refine a_if_eq (pc := 21) X 30 dX10_walkersAt_21 rfl (fun c_21 => ?_) (fun c_21 => ?_)
      · have h := x_ifp c_21 h
        exact w_X10_walkersAt_30 X   hk4  h
      · have h := x_ifn c_21 h
        refine a_iload_n (pc := 24) X 2 dX10_walkersAt_24 rfl rfl ?_
        refine a_iconst (pc := 25) X dX10_walkersAt_25 q_ic_1 ?_
        refine a_iload_n (pc := 26) X 3 dX10_walkersAt_26 rfl rfl ?_
        refine a_ishl (pc := 27) X dX10_walkersAt_27 ?_
        refine a_ior (pc := 28) X dX10_walkersAt_28 ?_
        obtain ⟨y2, e_y2, h⟩ := x_lt_elim h
        refine a_ni e_y2 ?_
        refine a_istore_n (pc := 29) X [(2, .int y2), (0, .ref (ad0 0)), (1, .int l1), (3, .int l3)] dX10_walkersAt_29 rfl (by decide) rfl ?_
        refine a_sub [1, 2, 0, 3] rfl ?_
        exact w_X10_walkersAt_30 X   hk4  h
set_option maxRecDepth 100000 in
set_option maxHeartbeats 4000000 in
theorem c_X10_walkersAt {l : Launch}  {ad0 : Nat → Nat} {v0 : XM} {x0 : Int32}  {o : Int32} (h : f_X10_walkersAt v0 x0 = some o) : CT l yX10_walkersAt cX10_walkersAt 4 (some .int) 3 [(shWorld, ad0)] [v0] (fun aK => [.ref (ad0 0), .int x0]) (some (.int o)) True [v0] := by
  refine CT_of (by decide) (fun _ => Nat.le_of_ble_eq_true rfl) ?_
  intro p e s m args below meth c D tc aK aV A X
  have X : Cx p s m args meth c cX10_walkersAt 4 (some .int) RX10 D tc aK aV A [(shWorld, ad0)] := X
  show aW p l e (x_Rm 3) s m args below meth c D tc A 4 [(shWorld, ad0)] (some (.int o)) True [v0] 0 [(0, .ref (ad0 0)), (1, .int x0)] [] [v0]
  unfold f_X10_walkersAt at h
  refine a_iconst (pc := 0) X dX10_walkersAt_0 q_ic_0 ?_
  refine a_istore_n (pc := 1) X [(2, .int (0 : Int32)), (0, .ref (ad0 0)), (1, .int x0)] dX10_walkersAt_1 rfl (by decide) rfl ?_
  refine a_iconst (pc := 2) X dX10_walkersAt_2 q_ic_0 ?_
  refine a_istore_n (pc := 3) X [(3, .int (0 : Int32)), (2, .int (0 : Int32)), (0, .ref (ad0 0)), (1, .int x0)] dX10_walkersAt_3 rfl (by decide) rfl ?_
  refine a_sub [2, 3, 1, 0] rfl ?_
  exact w_X10_walkersAt_4 X    x_NN _ _ _ h
theorem dX10_goers_0 : decode cX10_goers 0 = .ok (.iconst 0, 1) := by decide +kernel
theorem dX10_goers_1 : decode cX10_goers 1 = .ok (.istore_n 1, 1) := by decide +kernel
theorem dX10_goers_2 : decode cX10_goers 2 = .ok (.iconst 0, 1) := by decide +kernel
theorem dX10_goers_3 : decode cX10_goers 3 = .ok (.istore_n 2, 1) := by decide +kernel
theorem dX10_goers_4 : decode cX10_goers 4 = .ok (.iload_n 2, 1) := by decide +kernel
theorem dX10_goers_5 : decode cX10_goers 5 = .ok (.aload_n 0, 1) := by decide +kernel
theorem dX10_goers_6 : decode cX10_goers 6 = .ok (.getfield 12, 3) := by decide +kernel
theorem dX10_goers_9 : decode cX10_goers 9 = .ok (.getfield 88, 3) := by decide +kernel
theorem dX10_goers_12 : decode cX10_goers 12 = .ok (.if_icmp .ge 23, 3) := by decide +kernel
theorem dX10_goers_15 : decode cX10_goers 15 = .ok (.aload_n 0, 1) := by decide +kernel
theorem dX10_goers_16 : decode cX10_goers 16 = .ok (.iload_n 2, 1) := by decide +kernel
theorem dX10_goers_17 : decode cX10_goers 17 = .ok (.invokevirtual 58, 3) := by decide +kernel
theorem dX10_goers_20 : decode cX10_goers 20 = .ok (.ifCond .eq 9, 3) := by decide +kernel
theorem dX10_goers_23 : decode cX10_goers 23 = .ok (.iload_n 1, 1) := by decide +kernel
theorem dX10_goers_24 : decode cX10_goers 24 = .ok (.iconst 1, 1) := by decide +kernel
theorem dX10_goers_25 : decode cX10_goers 25 = .ok (.iload_n 2, 1) := by decide +kernel
theorem dX10_goers_26 : decode cX10_goers 26 = .ok (.ishl, 1) := by decide +kernel
theorem dX10_goers_27 : decode cX10_goers 27 = .ok (.ior, 1) := by decide +kernel
theorem dX10_goers_28 : decode cX10_goers 28 = .ok (.istore_n 1, 1) := by decide +kernel
theorem dX10_goers_29 : decode cX10_goers 29 = .ok (.iinc 2 1, 3) := by decide +kernel
theorem dX10_goers_32 : decode cX10_goers 32 = .ok (.goto (-28), 3) := by decide +kernel
theorem dX10_goers_35 : decode cX10_goers 35 = .ok (.iload_n 1, 1) := by decide +kernel
theorem dX10_goers_36 : decode cX10_goers 36 = .ok (.ireturn, 1) := by decide +kernel
def f_X10_goers_29 (v0 : XM) (k4 : Int32 → Int32 → Option (Int32)) (l1 : Int32) (l2 : Int32) : Option (Int32) :=
  k4 l1 (l2 + 1)
def f_X10_goers_4 (v0 : XM) (k4 : Int32 → Int32 → Option (Int32)) (l1 : Int32) (l2 : Int32) : Option (Int32) :=
  if ((v0.1 1 3) : Int32) ≤ l2 then
  (some (l1 : Int32))
  else (x_lt (f_X10_isGoing v0 l2) (fun y1 =>
  if y1 = (0 : Int32) then
  (f_X10_goers_29 v0 k4 l1 l2)
  else (x_lt (l1 ||| ((1 : Int32) <<< (l2 &&& 31))) (fun y2 =>
  f_X10_goers_29 v0 k4 y2 l2))))
def f_X10_goers (v0 : XM) : Option (Int32) :=
  x_lp (φ := Int32 → Int32 → Option (Int32)) (fun _ _ => none) (f_X10_goers_4 v0 ) x_NN (0 : Int32) (0 : Int32)
set_option maxRecDepth 100000 in
set_option maxHeartbeats 4000000 in
theorem w_X10_goers_29 {p : Program} {l : Launch} {e : Env} {s : State} {m : MethodId} {args : Array Value} {below : List Frame} {meth : Method} {c : Code} {D : va_G} {tc : Nat → ClassId} {aK aV : Nat → Nat} {A : Nat → Prop} {ad0 : Nat → Nat} {v0 : XM} (X : Cx p s m args meth c cX10_goers 3 (some .int) RX10 D tc aK aV A [(shWorld, ad0)])  {o : Int32} {k4 : Int32 → Int32 → Option (Int32)} (hk4 : ∀ (l1 : Int32) (l2 : Int32), k4 l1 l2 = some o → aW p l e (x_Rm 2) s m args below meth c D tc A 3 [(shWorld, ad0)] (some (.int o)) True [v0] 4 [(0, .ref (ad0 0)), (1, .int l1), (2, .int l2)] [] [v0]) {l1 : Int32} {l2 : Int32}  (h : f_X10_goers_29 v0 k4 l1 l2 = some o) : aW p l e (x_Rm 2) s m args below meth c D tc A 3 [(shWorld, ad0)] (some (.int o)) True [v0] 29 [(0, .ref (ad0 0)), (1, .int l1), (2, .int l2)] [] [v0] := by
  unfold f_X10_goers_29 at h
  refine a_iinc (pc := 29) X 2 [(2, .int (l2 + 1)), (0, .ref (ad0 0)), (1, .int l1)] dX10_goers_29 rfl (congrArg (HAdd.hAdd l2) q_ic_1) (by decide) rfl ?_
  refine a_goto (pc := 32) X 4 dX10_goers_32 rfl ?_
  refine a_sub [1, 2, 0] rfl ?_
  exact hk4 _ _ h
set_option maxRecDepth 100000 in
set_option maxHeartbeats 4000000 in
theorem w_X10_goers_4 {p : Program} {l : Launch} {e : Env} {s : State} {m : MethodId} {args : Array Value} {below : List Frame} {meth : Method} {c : Code} {D : va_G} {tc : Nat → ClassId} {aK aV : Nat → Nat} {A : Nat → Prop} {ad0 : Nat → Nat} {v0 : XM} (X : Cx p s m args meth c cX10_goers 3 (some .int) RX10 D tc aK aV A [(shWorld, ad0)])  {o : Int32}  : ∀ (n : Nat), ∀ (l1 : Int32) (l2 : Int32), x_lp (φ := Int32 → Int32 → Option (Int32)) (fun _ _ => none) (f_X10_goers_4 v0 ) n l1 l2 = some o → aW p l e (x_Rm 2) s m args below meth c D tc A 3 [(shWorld, ad0)] (some (.int o)) True [v0] 4 [(0, .ref (ad0 0)), (1, .int l1), (2, .int l2)] [] [v0] := by
  intro n
  induction n with
  | zero => intro l1 l2 h; exact absurd h (fun q => by cases q)
  | succ n ih =>
    intro l1 l2 h
    have h : f_X10_goers_4 v0  (x_lp (φ := Int32 → Int32 → Option (Int32)) (fun _ _ => none) (f_X10_goers_4 v0 ) n) l1 l2 = some o := h
    generalize x_lp (φ := Int32 → Int32 → Option (Int32)) (fun _ _ => none) (f_X10_goers_4 v0 ) n = k4 at h ih
    have hk4 := ih
    unfold f_X10_goers_4 at h
    refine a_iload_n (pc := 4) X 2 dX10_goers_4 rfl rfl ?_
    refine a_aload_n (pc := 5) X 0 dX10_goers_5 rfl rfl ?_
    refine a_getR (pc := 6) X 0 1 1 fl_RX10_12 rfl rfl rfl rfl rfl dX10_goers_6 ?_
    refine a_getI (pc := 9) X 0 fl_RX10_88 rfl rfl rfl rfl dX10_goers_9 ?_
    refine a_icmp_ge (pc := 12) X 35 dX10_goers_12 rfl (fun c_12 => ?_) (fun c_12 => ?_)
    · have h := x_ifp c_12 h
      refine a_iload_n (pc := 35) X 1 dX10_goers_35 rfl rfl ?_
      have h := Option.some.inj h; subst h
      exact a_iret (pc := 36) X trivial dX10_goers_36
    · have h := x_ifn c_12 h
      refine a_aload_n (pc := 15) X 0 dX10_goers_15 rfl rfl ?_
      refine a_iload_n (pc := 16) X 2 dX10_goers_16 rfl rfl ?_
      obtain ⟨y1, e_y1, h⟩ := x_lt_elim h
      refine a_callV (pc := 17) (st2 := [.int y1]) (vs2 := [v0]) X [(0, 0, 32)] [none] 0 0 10 [.int l2] [] cv_RX10_58 (c_X10_isGoing (ad0 := ad0)  e_y1) rfl rfl rfl rfl rfl rfl rfl rfl rfl rfl rfl rfl rfl rfl rfl (Nat.le_of_ble_eq_true rfl) ⟨Nat.le_of_ble_eq_true rfl, Nat.le_of_ble_eq_true rfl⟩ dX10_goers_17 (fun z_17 => ?_)
      refine a_if_eq (pc := 20) X 29 dX10_goers_20 rfl (fun c_20 => ?_) (fun c_20 => ?_)
      · have h := x_ifp c_20 h
        exact w_X10_goers_29 X   hk4  h
      · have h := x_ifn c_20 h
        refine a_iload_n (pc := 23) X 1 dX10_goers_23 rfl rfl ?_
        refine a_iconst (pc := 24) X dX10_goers_24 q_ic_1 ?_
        refine a_iload_n (pc := 25) X 2 dX10_goers_25 rfl rfl ?_
        refine a_ishl (pc := 26) X dX10_goers_26 ?_
        refine a_ior (pc := 27) X dX10_goers_27 ?_
        obtain ⟨y2, e_y2, h⟩ := x_lt_elim h
        refine a_ni e_y2 ?_
        refine a_istore_n (pc := 28) X [(1, .int y2), (0, .ref (ad0 0)), (2, .int l2)] dX10_goers_28 rfl (by decide) rfl ?_
        refine a_sub [1, 0, 2] rfl ?_
        exact w_X10_goers_29 X   hk4  h
set_option maxRecDepth 100000 in
set_option maxHeartbeats 4000000 in
theorem c_X10_goers {l : Launch}  {ad0 : Nat → Nat} {v0 : XM}   {o : Int32} (h : f_X10_goers v0 = some o) : CT l yX10_goers cX10_goers 3 (some .int) 2 [(shWorld, ad0)] [v0] (fun aK => [.ref (ad0 0)]) (some (.int o)) True [v0] := by
  refine CT_of (by decide) (fun _ => Nat.le_of_ble_eq_true rfl) ?_
  intro p e s m args below meth c D tc aK aV A X
  have X : Cx p s m args meth c cX10_goers 3 (some .int) RX10 D tc aK aV A [(shWorld, ad0)] := X
  show aW p l e (x_Rm 2) s m args below meth c D tc A 3 [(shWorld, ad0)] (some (.int o)) True [v0] 0 [(0, .ref (ad0 0))] [] [v0]
  unfold f_X10_goers at h
  refine a_iconst (pc := 0) X dX10_goers_0 q_ic_0 ?_
  refine a_istore_n (pc := 1) X [(1, .int (0 : Int32)), (0, .ref (ad0 0))] dX10_goers_1 rfl (by decide) rfl ?_
  refine a_iconst (pc := 2) X dX10_goers_2 q_ic_0 ?_
  refine a_istore_n (pc := 3) X [(2, .int (0 : Int32)), (1, .int (0 : Int32)), (0, .ref (ad0 0))] dX10_goers_3 rfl (by decide) rfl ?_
  refine a_sub [2, 1, 0] rfl ?_
  exact w_X10_goers_4 X    x_NN _ _ h
theorem dX10_slippedFolds_0 : decode cX10_slippedFolds 0 = .ok (.iconst 0, 1) := by decide +kernel
theorem dX10_slippedFolds_1 : decode cX10_slippedFolds 1 = .ok (.istore_n 1, 1) := by decide +kernel
theorem dX10_slippedFolds_2 : decode cX10_slippedFolds 2 = .ok (.iconst 0, 1) := by decide +kernel
theorem dX10_slippedFolds_3 : decode cX10_slippedFolds 3 = .ok (.istore_n 2, 1) := by decide +kernel
theorem dX10_slippedFolds_4 : decode cX10_slippedFolds 4 = .ok (.iload_n 2, 1) := by decide +kernel
theorem dX10_slippedFolds_5 : decode cX10_slippedFolds 5 = .ok (.aload_n 0, 1) := by decide +kernel
theorem dX10_slippedFolds_6 : decode cX10_slippedFolds 6 = .ok (.getfield 12, 3) := by decide +kernel
theorem dX10_slippedFolds_9 : decode cX10_slippedFolds 9 = .ok (.getfield 81, 3) := by decide +kernel
theorem dX10_slippedFolds_12 : decode cX10_slippedFolds 12 = .ok (.if_icmp .ge 29, 3) := by decide +kernel
theorem dX10_slippedFolds_15 : decode cX10_slippedFolds 15 = .ok (.aload_n 0, 1) := by decide +kernel
theorem dX10_slippedFolds_16 : decode cX10_slippedFolds 16 = .ok (.getfield 21, 3) := by decide +kernel
theorem dX10_slippedFolds_19 : decode cX10_slippedFolds 19 = .ok (.getfield 98, 3) := by decide +kernel
theorem dX10_slippedFolds_22 : decode cX10_slippedFolds 22 = .ok (.iload_n 2, 1) := by decide +kernel
theorem dX10_slippedFolds_23 : decode cX10_slippedFolds 23 = .ok (.invokevirtual 52, 3) := by decide +kernel
theorem dX10_slippedFolds_26 : decode cX10_slippedFolds 26 = .ok (.ifCond .le 9, 3) := by decide +kernel
theorem dX10_slippedFolds_29 : decode cX10_slippedFolds 29 = .ok (.iload_n 1, 1) := by decide +kernel
theorem dX10_slippedFolds_30 : decode cX10_slippedFolds 30 = .ok (.iconst 1, 1) := by decide +kernel
theorem dX10_slippedFolds_31 : decode cX10_slippedFolds 31 = .ok (.iload_n 2, 1) := by decide +kernel
theorem dX10_slippedFolds_32 : decode cX10_slippedFolds 32 = .ok (.ishl, 1) := by decide +kernel
theorem dX10_slippedFolds_33 : decode cX10_slippedFolds 33 = .ok (.ior, 1) := by decide +kernel
theorem dX10_slippedFolds_34 : decode cX10_slippedFolds 34 = .ok (.istore_n 1, 1) := by decide +kernel
theorem dX10_slippedFolds_35 : decode cX10_slippedFolds 35 = .ok (.iinc 2 1, 3) := by decide +kernel
theorem dX10_slippedFolds_38 : decode cX10_slippedFolds 38 = .ok (.goto (-34), 3) := by decide +kernel
theorem dX10_slippedFolds_41 : decode cX10_slippedFolds 41 = .ok (.iload_n 1, 1) := by decide +kernel
theorem dX10_slippedFolds_42 : decode cX10_slippedFolds 42 = .ok (.ireturn, 1) := by decide +kernel
def f_X10_slippedFolds_35 (v0 : XM) (k4 : Int32 → Int32 → Option (Int32)) (l1 : Int32) (l2 : Int32) : Option (Int32) :=
  k4 l1 (l2 + 1)
def f_X10_slippedFolds_4 (v0 : XM) (k4 : Int32 → Int32 → Option (Int32)) (l1 : Int32) (l2 : Int32) : Option (Int32) :=
  if ((v0.1 1 1) : Int32) ≤ l2 then
  (some (l1 : Int32))
  else (x_lt (r_get 12 (x_sub v0 30) l2) (fun y1 =>
  if y1 ≤ (0 : Int32) then
  (f_X10_slippedFolds_35 v0 k4 l1 l2)
  else (x_lt (l1 ||| ((1 : Int32) <<< (l2 &&& 31))) (fun y2 =>
  f_X10_slippedFolds_35 v0 k4 y2 l2))))
def f_X10_slippedFolds (v0 : XM) : Option (Int32) :=
  x_lp (φ := Int32 → Int32 → Option (Int32)) (fun _ _ => none) (f_X10_slippedFolds_4 v0 ) x_NN (0 : Int32) (0 : Int32)
set_option maxRecDepth 100000 in
set_option maxHeartbeats 4000000 in
theorem w_X10_slippedFolds_35 {p : Program} {l : Launch} {e : Env} {s : State} {m : MethodId} {args : Array Value} {below : List Frame} {meth : Method} {c : Code} {D : va_G} {tc : Nat → ClassId} {aK aV : Nat → Nat} {A : Nat → Prop} {ad0 : Nat → Nat} {v0 : XM} (X : Cx p s m args meth c cX10_slippedFolds 3 (some .int) RX10 D tc aK aV A [(shWorld, ad0)])  {o : Int32} {k4 : Int32 → Int32 → Option (Int32)} (hk4 : ∀ (l1 : Int32) (l2 : Int32), k4 l1 l2 = some o → aW p l e (x_Rm 1) s m args below meth c D tc A 3 [(shWorld, ad0)] (some (.int o)) True [v0] 4 [(0, .ref (ad0 0)), (1, .int l1), (2, .int l2)] [] [v0]) {l1 : Int32} {l2 : Int32}  (h : f_X10_slippedFolds_35 v0 k4 l1 l2 = some o) : aW p l e (x_Rm 1) s m args below meth c D tc A 3 [(shWorld, ad0)] (some (.int o)) True [v0] 35 [(0, .ref (ad0 0)), (1, .int l1), (2, .int l2)] [] [v0] := by
  unfold f_X10_slippedFolds_35 at h
  refine a_iinc (pc := 35) X 2 [(2, .int (l2 + 1)), (0, .ref (ad0 0)), (1, .int l1)] dX10_slippedFolds_35 rfl (congrArg (HAdd.hAdd l2) q_ic_1) (by decide) rfl ?_
  refine a_goto (pc := 38) X 4 dX10_slippedFolds_38 rfl ?_
  refine a_sub [1, 2, 0] rfl ?_
  exact hk4 _ _ h
set_option maxRecDepth 100000 in
set_option maxHeartbeats 4000000 in
theorem w_X10_slippedFolds_4 {p : Program} {l : Launch} {e : Env} {s : State} {m : MethodId} {args : Array Value} {below : List Frame} {meth : Method} {c : Code} {D : va_G} {tc : Nat → ClassId} {aK aV : Nat → Nat} {A : Nat → Prop} {ad0 : Nat → Nat} {v0 : XM} (X : Cx p s m args meth c cX10_slippedFolds 3 (some .int) RX10 D tc aK aV A [(shWorld, ad0)])  {o : Int32}  : ∀ (n : Nat), ∀ (l1 : Int32) (l2 : Int32), x_lp (φ := Int32 → Int32 → Option (Int32)) (fun _ _ => none) (f_X10_slippedFolds_4 v0 ) n l1 l2 = some o → aW p l e (x_Rm 1) s m args below meth c D tc A 3 [(shWorld, ad0)] (some (.int o)) True [v0] 4 [(0, .ref (ad0 0)), (1, .int l1), (2, .int l2)] [] [v0] := by
  intro n
  induction n with
  | zero => intro l1 l2 h; exact absurd h (fun q => by cases q)
  | succ n ih =>
    intro l1 l2 h
    have h : f_X10_slippedFolds_4 v0  (x_lp (φ := Int32 → Int32 → Option (Int32)) (fun _ _ => none) (f_X10_slippedFolds_4 v0 ) n) l1 l2 = some o := h
    generalize x_lp (φ := Int32 → Int32 → Option (Int32)) (fun _ _ => none) (f_X10_slippedFolds_4 v0 ) n = k4 at h ih
    have hk4 := ih
    unfold f_X10_slippedFolds_4 at h
    refine a_iload_n (pc := 4) X 2 dX10_slippedFolds_4 rfl rfl ?_
    refine a_aload_n (pc := 5) X 0 dX10_slippedFolds_5 rfl rfl ?_
    refine a_getR (pc := 6) X 0 1 1 fl_RX10_12 rfl rfl rfl rfl rfl dX10_slippedFolds_6 ?_
    refine a_getI (pc := 9) X 0 fl_RX10_81 rfl rfl rfl rfl dX10_slippedFolds_9 ?_
    refine a_icmp_ge (pc := 12) X 41 dX10_slippedFolds_12 rfl (fun c_12 => ?_) (fun c_12 => ?_)
    · have h := x_ifp c_12 h
      refine a_iload_n (pc := 41) X 1 dX10_slippedFolds_41 rfl rfl ?_
      have h := Option.some.inj h; subst h
      exact a_iret (pc := 42) X trivial dX10_slippedFolds_42
    · have h := x_ifn c_12 h
      refine a_aload_n (pc := 15) X 0 dX10_slippedFolds_15 rfl rfl ?_
      refine a_getR (pc := 16) X 0 17 17 fl_RX10_21 rfl rfl rfl rfl rfl dX10_slippedFolds_16 ?_
      refine a_getR (pc := 19) X 0 13 30 fl_RX10_98 rfl rfl rfl rfl rfl dX10_slippedFolds_19 ?_
      refine a_iload_n (pc := 22) X 2 dX10_slippedFolds_22 rfl rfl ?_
      obtain ⟨y1, e_y1, h⟩ := x_lt_elim h
      refine a_callV (pc := 23) (st2 := [.int y1]) (vs2 := [v0]) X [(0, 30, 2)] [none] 0 30 3 [.int l2] [] cv_RX10_52 (ct_get (ad0 := (fun i => ad0 (i + 30))) (by decide) e_y1) rfl rfl rfl rfl rfl rfl rfl rfl rfl rfl rfl rfl rfl rfl rfl (Nat.le_of_ble_eq_true rfl) ⟨Nat.le_of_ble_eq_true rfl, Nat.le_of_ble_eq_true rfl⟩ dX10_slippedFolds_23 (fun _ => ?_)
      refine a_if_le (pc := 26) X 35 dX10_slippedFolds_26 rfl (fun c_26 => ?_) (fun c_26 => ?_)
      · have h := x_ifp c_26 h
        exact w_X10_slippedFolds_35 X   hk4  h
      · have h := x_ifn c_26 h
        refine a_iload_n (pc := 29) X 1 dX10_slippedFolds_29 rfl rfl ?_
        refine a_iconst (pc := 30) X dX10_slippedFolds_30 q_ic_1 ?_
        refine a_iload_n (pc := 31) X 2 dX10_slippedFolds_31 rfl rfl ?_
        refine a_ishl (pc := 32) X dX10_slippedFolds_32 ?_
        refine a_ior (pc := 33) X dX10_slippedFolds_33 ?_
        obtain ⟨y2, e_y2, h⟩ := x_lt_elim h
        refine a_ni e_y2 ?_
        refine a_istore_n (pc := 34) X [(1, .int y2), (0, .ref (ad0 0)), (2, .int l2)] dX10_slippedFolds_34 rfl (by decide) rfl ?_
        refine a_sub [1, 0, 2] rfl ?_
        exact w_X10_slippedFolds_35 X   hk4  h
set_option maxRecDepth 100000 in
set_option maxHeartbeats 4000000 in
theorem c_X10_slippedFolds {l : Launch}  {ad0 : Nat → Nat} {v0 : XM}   {o : Int32} (h : f_X10_slippedFolds v0 = some o) : CT l yX10_slippedFolds cX10_slippedFolds 3 (some .int) 1 [(shWorld, ad0)] [v0] (fun aK => [.ref (ad0 0)]) (some (.int o)) True [v0] := by
  refine CT_of (by decide) (fun _ => Nat.le_of_ble_eq_true rfl) ?_
  intro p e s m args below meth c D tc aK aV A X
  have X : Cx p s m args meth c cX10_slippedFolds 3 (some .int) RX10 D tc aK aV A [(shWorld, ad0)] := X
  show aW p l e (x_Rm 1) s m args below meth c D tc A 3 [(shWorld, ad0)] (some (.int o)) True [v0] 0 [(0, .ref (ad0 0))] [] [v0]
  unfold f_X10_slippedFolds at h
  refine a_iconst (pc := 0) X dX10_slippedFolds_0 q_ic_0 ?_
  refine a_istore_n (pc := 1) X [(1, .int (0 : Int32)), (0, .ref (ad0 0))] dX10_slippedFolds_1 rfl (by decide) rfl ?_
  refine a_iconst (pc := 2) X dX10_slippedFolds_2 q_ic_0 ?_
  refine a_istore_n (pc := 3) X [(2, .int (0 : Int32)), (1, .int (0 : Int32)), (0, .ref (ad0 0))] dX10_slippedFolds_3 rfl (by decide) rfl ?_
  refine a_sub [2, 1, 0] rfl ?_
  exact w_X10_slippedFolds_4 X    x_NN _ _ h
theorem dX10_tiredInAll_0 : decode cX10_tiredInAll 0 = .ok (.iconst 0, 1) := by decide +kernel
theorem dX10_tiredInAll_1 : decode cX10_tiredInAll 1 = .ok (.istore_n 1, 1) := by decide +kernel
theorem dX10_tiredInAll_2 : decode cX10_tiredInAll 2 = .ok (.iconst 0, 1) := by decide +kernel
theorem dX10_tiredInAll_3 : decode cX10_tiredInAll 3 = .ok (.istore_n 2, 1) := by decide +kernel
theorem dX10_tiredInAll_4 : decode cX10_tiredInAll 4 = .ok (.iload_n 2, 1) := by decide +kernel
theorem dX10_tiredInAll_5 : decode cX10_tiredInAll 5 = .ok (.aload_n 0, 1) := by decide +kernel
theorem dX10_tiredInAll_6 : decode cX10_tiredInAll 6 = .ok (.getfield 12, 3) := by decide +kernel
theorem dX10_tiredInAll_9 : decode cX10_tiredInAll 9 = .ok (.getfield 88, 3) := by decide +kernel
theorem dX10_tiredInAll_12 : decode cX10_tiredInAll 12 = .ok (.if_icmp .ge 23, 3) := by decide +kernel
theorem dX10_tiredInAll_15 : decode cX10_tiredInAll 15 = .ok (.iload_n 1, 1) := by decide +kernel
theorem dX10_tiredInAll_16 : decode cX10_tiredInAll 16 = .ok (.aload_n 0, 1) := by decide +kernel
theorem dX10_tiredInAll_17 : decode cX10_tiredInAll 17 = .ok (.getfield 21, 3) := by decide +kernel
theorem dX10_tiredInAll_20 : decode cX10_tiredInAll 20 = .ok (.getfield 104, 3) := by decide +kernel
theorem dX10_tiredInAll_23 : decode cX10_tiredInAll 23 = .ok (.iload_n 2, 1) := by decide +kernel
theorem dX10_tiredInAll_24 : decode cX10_tiredInAll 24 = .ok (.invokevirtual 52, 3) := by decide +kernel
theorem dX10_tiredInAll_27 : decode cX10_tiredInAll 27 = .ok (.iadd, 1) := by decide +kernel
theorem dX10_tiredInAll_28 : decode cX10_tiredInAll 28 = .ok (.istore_n 1, 1) := by decide +kernel
theorem dX10_tiredInAll_29 : decode cX10_tiredInAll 29 = .ok (.iinc 2 1, 3) := by decide +kernel
theorem dX10_tiredInAll_32 : decode cX10_tiredInAll 32 = .ok (.goto (-28), 3) := by decide +kernel
theorem dX10_tiredInAll_35 : decode cX10_tiredInAll 35 = .ok (.iload_n 1, 1) := by decide +kernel
theorem dX10_tiredInAll_36 : decode cX10_tiredInAll 36 = .ok (.ireturn, 1) := by decide +kernel
def f_X10_tiredInAll_4 (v0 : XM) (k4 : Int32 → Int32 → Option (Int32)) (l1 : Int32) (l2 : Int32) : Option (Int32) :=
  if ((v0.1 1 3) : Int32) ≤ l2 then
  (some (l1 : Int32))
  else (x_lt (r_get 5 (x_sub v0 24) l2) (fun y1 =>
  k4 (l1 + y1) (l2 + 1)))
def f_X10_tiredInAll (v0 : XM) : Option (Int32) :=
  x_lp (φ := Int32 → Int32 → Option (Int32)) (fun _ _ => none) (f_X10_tiredInAll_4 v0 ) x_NN (0 : Int32) (0 : Int32)
set_option maxRecDepth 100000 in
set_option maxHeartbeats 4000000 in
theorem w_X10_tiredInAll_4 {p : Program} {l : Launch} {e : Env} {s : State} {m : MethodId} {args : Array Value} {below : List Frame} {meth : Method} {c : Code} {D : va_G} {tc : Nat → ClassId} {aK aV : Nat → Nat} {A : Nat → Prop} {ad0 : Nat → Nat} {v0 : XM} (X : Cx p s m args meth c cX10_tiredInAll 3 (some .int) RX10 D tc aK aV A [(shWorld, ad0)])  {o : Int32}  : ∀ (n : Nat), ∀ (l1 : Int32) (l2 : Int32), x_lp (φ := Int32 → Int32 → Option (Int32)) (fun _ _ => none) (f_X10_tiredInAll_4 v0 ) n l1 l2 = some o → aW p l e (x_Rm 1) s m args below meth c D tc A 3 [(shWorld, ad0)] (some (.int o)) True [v0] 4 [(0, .ref (ad0 0)), (1, .int l1), (2, .int l2)] [] [v0] := by
  intro n
  induction n with
  | zero => intro l1 l2 h; exact absurd h (fun q => by cases q)
  | succ n ih =>
    intro l1 l2 h
    have h : f_X10_tiredInAll_4 v0  (x_lp (φ := Int32 → Int32 → Option (Int32)) (fun _ _ => none) (f_X10_tiredInAll_4 v0 ) n) l1 l2 = some o := h
    generalize x_lp (φ := Int32 → Int32 → Option (Int32)) (fun _ _ => none) (f_X10_tiredInAll_4 v0 ) n = k4 at h ih
    have hk4 := ih
    unfold f_X10_tiredInAll_4 at h
    refine a_iload_n (pc := 4) X 2 dX10_tiredInAll_4 rfl rfl ?_
    refine a_aload_n (pc := 5) X 0 dX10_tiredInAll_5 rfl rfl ?_
    refine a_getR (pc := 6) X 0 1 1 fl_RX10_12 rfl rfl rfl rfl rfl dX10_tiredInAll_6 ?_
    refine a_getI (pc := 9) X 0 fl_RX10_88 rfl rfl rfl rfl dX10_tiredInAll_9 ?_
    refine a_icmp_ge (pc := 12) X 35 dX10_tiredInAll_12 rfl (fun c_12 => ?_) (fun c_12 => ?_)
    · have h := x_ifp c_12 h
      refine a_iload_n (pc := 35) X 1 dX10_tiredInAll_35 rfl rfl ?_
      have h := Option.some.inj h; subst h
      exact a_iret (pc := 36) X trivial dX10_tiredInAll_36
    · have h := x_ifn c_12 h
      refine a_iload_n (pc := 15) X 1 dX10_tiredInAll_15 rfl rfl ?_
      refine a_aload_n (pc := 16) X 0 dX10_tiredInAll_16 rfl rfl ?_
      refine a_getR (pc := 17) X 0 17 17 fl_RX10_21 rfl rfl rfl rfl rfl dX10_tiredInAll_17 ?_
      refine a_getR (pc := 20) X 0 7 24 fl_RX10_104 rfl rfl rfl rfl rfl dX10_tiredInAll_20 ?_
      refine a_iload_n (pc := 23) X 2 dX10_tiredInAll_23 rfl rfl ?_
      obtain ⟨y1, e_y1, h⟩ := x_lt_elim h
      refine a_callV (pc := 24) (st2 := [.int y1, .int l1]) (vs2 := [v0]) X [(0, 24, 2)] [none] 0 24 3 [.int l2] [.int l1] cv_RX10_52 (ct_get (ad0 := (fun i => ad0 (i + 24))) (by decide) e_y1) rfl rfl rfl rfl rfl rfl rfl rfl rfl rfl rfl rfl rfl rfl rfl (Nat.le_of_ble_eq_true rfl) ⟨Nat.le_of_ble_eq_true rfl, Nat.le_of_ble_eq_true rfl⟩ dX10_tiredInAll_24 (fun _ => ?_)
      refine a_iadd (pc := 27) X dX10_tiredInAll_27 ?_
      refine a_istore_n (pc := 28) X [(1, .int (l1 + y1)), (0, .ref (ad0 0)), (2, .int l2)] dX10_tiredInAll_28 rfl (by decide) rfl ?_
      refine a_iinc (pc := 29) X 2 [(2, .int (l2 + 1)), (1, .int (l1 + y1)), (0, .ref (ad0 0))] dX10_tiredInAll_29 rfl (congrArg (HAdd.hAdd l2) q_ic_1) (by decide) rfl ?_
      refine a_goto (pc := 32) X 4 dX10_tiredInAll_32 rfl ?_
      refine a_sub [2, 1, 0] rfl ?_
      exact hk4 _ _ h
set_option maxRecDepth 100000 in
set_option maxHeartbeats 4000000 in
theorem c_X10_tiredInAll {l : Launch}  {ad0 : Nat → Nat} {v0 : XM}   {o : Int32} (h : f_X10_tiredInAll v0 = some o) : CT l yX10_tiredInAll cX10_tiredInAll 3 (some .int) 1 [(shWorld, ad0)] [v0] (fun aK => [.ref (ad0 0)]) (some (.int o)) True [v0] := by
  refine CT_of (by decide) (fun _ => Nat.le_of_ble_eq_true rfl) ?_
  intro p e s m args below meth c D tc aK aV A X
  have X : Cx p s m args meth c cX10_tiredInAll 3 (some .int) RX10 D tc aK aV A [(shWorld, ad0)] := X
  show aW p l e (x_Rm 1) s m args below meth c D tc A 3 [(shWorld, ad0)] (some (.int o)) True [v0] 0 [(0, .ref (ad0 0))] [] [v0]
  unfold f_X10_tiredInAll at h
  refine a_iconst (pc := 0) X dX10_tiredInAll_0 q_ic_0 ?_
  refine a_istore_n (pc := 1) X [(1, .int (0 : Int32)), (0, .ref (ad0 0))] dX10_tiredInAll_1 rfl (by decide) rfl ?_
  refine a_iconst (pc := 2) X dX10_tiredInAll_2 q_ic_0 ?_
  refine a_istore_n (pc := 3) X [(2, .int (0 : Int32)), (1, .int (0 : Int32)), (0, .ref (ad0 0))] dX10_tiredInAll_3 rfl (by decide) rfl ?_
  refine a_sub [2, 1, 0] rfl ?_
  exact w_X10_tiredInAll_4 X    x_NN _ _ h
theorem dX10_draw_0 : decode cX10_draw 0 = .ok (.aload_n 0, 1) := by decide +kernel
theorem dX10_draw_1 : decode cX10_draw 1 = .ok (.aload_n 0, 1) := by decide +kernel
theorem dX10_draw_2 : decode cX10_draw 2 = .ok (.getfield 162, 3) := by decide +kernel
theorem dX10_draw_5 : decode cX10_draw 5 = .ok (.ldc 175, 2) := by decide +kernel
theorem dX10_draw_7 : decode cX10_draw 7 = .ok (.imul, 1) := by decide +kernel
theorem dX10_draw_8 : decode cX10_draw 8 = .ok (.sipush 12345, 3) := by decide +kernel
theorem dX10_draw_11 : decode cX10_draw 11 = .ok (.iadd, 1) := by decide +kernel
theorem dX10_draw_12 : decode cX10_draw 12 = .ok (.putfield 162, 3) := by decide +kernel
theorem dX10_draw_15 : decode cX10_draw 15 = .ok (.iload_n 1, 1) := by decide +kernel
theorem dX10_draw_16 : decode cX10_draw 16 = .ok (.iconst 1, 1) := by decide +kernel
theorem dX10_draw_17 : decode cX10_draw 17 = .ok (.if_icmp .ge 7, 3) := by decide +kernel
theorem dX10_draw_20 : decode cX10_draw 20 = .ok (.iconst 0, 1) := by decide +kernel
theorem dX10_draw_21 : decode cX10_draw 21 = .ok (.goto 12, 3) := by decide +kernel
theorem dX10_draw_24 : decode cX10_draw 24 = .ok (.aload_n 0, 1) := by decide +kernel
theorem dX10_draw_25 : decode cX10_draw 25 = .ok (.getfield 162, 3) := by decide +kernel
theorem dX10_draw_28 : decode cX10_draw 28 = .ok (.bipush 8, 2) := by decide +kernel
theorem dX10_draw_30 : decode cX10_draw 30 = .ok (.iushr, 1) := by decide +kernel
theorem dX10_draw_31 : decode cX10_draw 31 = .ok (.iload_n 1, 1) := by decide +kernel
theorem dX10_draw_32 : decode cX10_draw 32 = .ok (.irem, 1) := by decide +kernel
theorem dX10_draw_33 : decode cX10_draw 33 = .ok (.ireturn, 1) := by decide +kernel
def f_X10_draw (v0 : XM) (x0 : Int32) : Option (Int32 × XM) :=
  x_lt (((v0.1 0 4) * (1103515245 : Int32)) + (12345 : Int32)) (fun y1 =>
  x_lt (x_si v0 0 4 y1) (fun m2 =>
  if ((1 : Int32) : Int32) ≤ x0 then
  (x_lt ((((m2.1 0 4) : Int32).toUInt32 >>> (((8 : Int32) : Int32).toUInt32 &&& Int32.toUInt32 31)).toInt32) (fun y3 =>
  x_nz x0 (
  some (y3 - y3 / x0 * x0, m2))))
  else (some ((0 : Int32), m2))))
set_option maxRecDepth 100000 in
set_option maxHeartbeats 4000000 in
theorem c_X10_draw {l : Launch}  {ad0 : Nat → Nat} {v0 : XM} {x0 : Int32}  {o : Int32 × XM} (h : f_X10_draw v0 x0 = some o) : CT l yX10_draw cX10_draw 2 (some .int) 0 [(shWorld, ad0)] [v0] (fun aK => [.ref (ad0 0), .int x0]) (some (.int o.1)) True [o.2] := by
  refine CT_of (by decide) (fun _ => Nat.le_of_ble_eq_true rfl) ?_
  intro p e s m args below meth c D tc aK aV A X
  have X : Cx p s m args meth c cX10_draw 2 (some .int) RX10 D tc aK aV A [(shWorld, ad0)] := X
  show aW p l e (x_Rm 0) s m args below meth c D tc A 2 [(shWorld, ad0)] (some (.int o.1)) True [o.2] 0 [(0, .ref (ad0 0)), (1, .int x0)] [] [v0]
  unfold f_X10_draw at h
  refine a_aload_n (pc := 0) X 0 dX10_draw_0 rfl rfl ?_
  refine a_aload_n (pc := 1) X 0 dX10_draw_1 rfl rfl ?_
  refine a_getI (pc := 2) X 0 fl_RX10_162 rfl rfl rfl rfl dX10_draw_2 ?_
  refine a_ldc (pc := 5) X kc_RX10_175 dX10_draw_5 ?_
  refine a_imul (pc := 7) X dX10_draw_7 ?_
  refine a_sipush (pc := 8) X dX10_draw_8 q_sp_12345 ?_
  refine a_iadd (pc := 11) X dX10_draw_11 ?_
  obtain ⟨y1, e_y1, h⟩ := x_lt_elim h
  refine a_ni e_y1 ?_
  refine a_putI (pc := 12) X 0 fl_RX10_162 rfl rfl rfl rfl dX10_draw_12 ?_
  obtain ⟨m2, e_m2, h⟩ := x_lt_elim h
  refine a_nm (vs2 := [m2]) (congrArg (fun q : XM => [q]) e_m2) ?_
  refine a_iload_n (pc := 15) X 1 dX10_draw_15 rfl rfl ?_
  refine a_iconst (pc := 16) X dX10_draw_16 q_ic_1 ?_
  refine a_icmp_ge (pc := 17) X 24 dX10_draw_17 rfl (fun c_17 => ?_) (fun c_17 => ?_)
  · have h := x_ifp c_17 h
    refine a_aload_n (pc := 24) X 0 dX10_draw_24 rfl rfl ?_
    refine a_getI (pc := 25) X 0 fl_RX10_162 rfl rfl rfl rfl dX10_draw_25 ?_
    refine a_bipush (pc := 28) X dX10_draw_28 q_bp_8 ?_
    refine a_iushr (pc := 30) X dX10_draw_30 ?_
    obtain ⟨y3, e_y3, h⟩ := x_lt_elim h
    refine a_ni e_y3 ?_
    refine a_iload_n (pc := 31) X 1 dX10_draw_31 rfl rfl ?_
    obtain ⟨c_32, h⟩ := x_nz_elim h
    refine a_irem (pc := 32) X c_32 dX10_draw_32 ?_
    have h := Option.some.inj h; subst h
    exact a_iret (pc := 33) X trivial dX10_draw_33
  · have h := x_ifn c_17 h
    refine a_iconst (pc := 20) X dX10_draw_20 q_ic_0 ?_
    refine a_goto (pc := 21) X 33 dX10_draw_21 rfl ?_
    have h := Option.some.inj h; subst h
    exact a_iret (pc := 33) X trivial dX10_draw_33
theorem dX10_drawDeed_0 : decode cX10_drawDeed 0 = .ok (.aload_n 0, 1) := by decide +kernel
theorem dX10_drawDeed_1 : decode cX10_drawDeed 1 = .ok (.iconst 4, 1) := by decide +kernel
theorem dX10_drawDeed_2 : decode cX10_drawDeed 2 = .ok (.invokevirtual 169, 3) := by decide +kernel
theorem dX10_drawDeed_5 : decode cX10_drawDeed 5 = .ok (.tableswitch 87 0 2 #[27, 27, 57], 27) := by decide +kernel
theorem dX10_drawDeed_32 : decode cX10_drawDeed 32 = .ok (.aload_n 0, 1) := by decide +kernel
theorem dX10_drawDeed_33 : decode cX10_drawDeed 33 = .ok (.getfield 12, 3) := by decide +kernel
theorem dX10_drawDeed_36 : decode cX10_drawDeed 36 = .ok (.getfield 81, 3) := by decide +kernel
theorem dX10_drawDeed_39 : decode cX10_drawDeed 39 = .ok (.ifCond .le 59, 3) := by decide +kernel
theorem dX10_drawDeed_42 : decode cX10_drawDeed 42 = .ok (.aload_n 0, 1) := by decide +kernel
theorem dX10_drawDeed_43 : decode cX10_drawDeed 43 = .ok (.iload_n 1, 1) := by decide +kernel
theorem dX10_drawDeed_44 : decode cX10_drawDeed 44 = .ok (.aload_n 0, 1) := by decide +kernel
theorem dX10_drawDeed_45 : decode cX10_drawDeed 45 = .ok (.aload_n 0, 1) := by decide +kernel
theorem dX10_drawDeed_46 : decode cX10_drawDeed 46 = .ok (.getfield 12, 3) := by decide +kernel
theorem dX10_drawDeed_49 : decode cX10_drawDeed 49 = .ok (.getfield 81, 3) := by decide +kernel
theorem dX10_drawDeed_52 : decode cX10_drawDeed 52 = .ok (.invokevirtual 169, 3) := by decide +kernel
theorem dX10_drawDeed_55 : decode cX10_drawDeed 55 = .ok (.invokevirtual 107, 3) := by decide +kernel
theorem dX10_drawDeed_58 : decode cX10_drawDeed 58 = .ok (.pop, 1) := by decide +kernel
theorem dX10_drawDeed_59 : decode cX10_drawDeed 59 = .ok (.goto 39, 3) := by decide +kernel
theorem dX10_drawDeed_62 : decode cX10_drawDeed 62 = .ok (.aload_n 0, 1) := by decide +kernel
theorem dX10_drawDeed_63 : decode cX10_drawDeed 63 = .ok (.getfield 12, 3) := by decide +kernel
theorem dX10_drawDeed_66 : decode cX10_drawDeed 66 = .ok (.getfield 172, 3) := by decide +kernel
theorem dX10_drawDeed_69 : decode cX10_drawDeed 69 = .ok (.ifCond .le 29, 3) := by decide +kernel
theorem dX10_drawDeed_72 : decode cX10_drawDeed 72 = .ok (.aload_n 0, 1) := by decide +kernel
theorem dX10_drawDeed_73 : decode cX10_drawDeed 73 = .ok (.iload_n 1, 1) := by decide +kernel
theorem dX10_drawDeed_74 : decode cX10_drawDeed 74 = .ok (.aload_n 0, 1) := by decide +kernel
theorem dX10_drawDeed_75 : decode cX10_drawDeed 75 = .ok (.aload_n 0, 1) := by decide +kernel
theorem dX10_drawDeed_76 : decode cX10_drawDeed 76 = .ok (.getfield 12, 3) := by decide +kernel
theorem dX10_drawDeed_79 : decode cX10_drawDeed 79 = .ok (.getfield 172, 3) := by decide +kernel
theorem dX10_drawDeed_82 : decode cX10_drawDeed 82 = .ok (.invokevirtual 169, 3) := by decide +kernel
theorem dX10_drawDeed_85 : decode cX10_drawDeed 85 = .ok (.invokevirtual 110, 3) := by decide +kernel
theorem dX10_drawDeed_88 : decode cX10_drawDeed 88 = .ok (.pop, 1) := by decide +kernel
theorem dX10_drawDeed_89 : decode cX10_drawDeed 89 = .ok (.goto 9, 3) := by decide +kernel
theorem dX10_drawDeed_92 : decode cX10_drawDeed 92 = .ok (.aload_n 0, 1) := by decide +kernel
theorem dX10_drawDeed_93 : decode cX10_drawDeed 93 = .ok (.iload_n 1, 1) := by decide +kernel
theorem dX10_drawDeed_94 : decode cX10_drawDeed 94 = .ok (.invokevirtual 116, 3) := by decide +kernel
theorem dX10_drawDeed_97 : decode cX10_drawDeed 97 = .ok (.pop, 1) := by decide +kernel
theorem dX10_drawDeed_98 : decode cX10_drawDeed 98 = .ok (.return_, 1) := by decide +kernel
def f_X10_drawDeed (v0 : XM) (x0 : Int32) : Option (XM) :=
  x_bo (f_X10_draw v0 (4 : Int32)) (fun y1 =>
  if y1.1 = (0 : Int32) then
  (if (y1.2.1 1 1) ≤ (0 : Int32) then
  (some y1.2)
  else (x_bo (f_X10_draw y1.2 (y1.2.1 1 1)) (fun y3 =>
  x_bo (f_X10_setOut y3.2 x0 y3.1) (fun y4 =>
  some y4.2))))
  else (if y1.1 = (1 : Int32) then
  (if (y1.2.1 1 1) ≤ (0 : Int32) then
  (some y1.2)
  else (x_bo (f_X10_draw y1.2 (y1.2.1 1 1)) (fun y5 =>
  x_bo (f_X10_setOut y5.2 x0 y5.1) (fun y6 =>
  some y6.2))))
  else (if y1.1 = (2 : Int32) then
  (if (y1.2.1 1 2) ≤ (0 : Int32) then
  (some y1.2)
  else (x_bo (f_X10_draw y1.2 (y1.2.1 1 2)) (fun y7 =>
  x_lt (f_X10_pickUp y7.2 x0 y7.1) (fun y8 =>
  some y8.2))))
  else (x_lt (f_X10_sleep y1.2 x0) (fun y9 =>
  some y9.2)))))
set_option maxRecDepth 100000 in
set_option maxHeartbeats 4000000 in
theorem c_X10_drawDeed {l : Launch}  {ad0 : Nat → Nat} {v0 : XM} {x0 : Int32}  {o : XM} (h : f_X10_drawDeed v0 x0 = some o) : CT l yX10_drawDeed cX10_drawDeed 2 none 4 [(shWorld, ad0)] [v0] (fun aK => [.ref (ad0 0), .int x0]) none True [o] := by
  refine CT_of (by decide) (fun _ => Nat.le_of_ble_eq_true rfl) ?_
  intro p e s m args below meth c D tc aK aV A X
  have X : Cx p s m args meth c cX10_drawDeed 2 none RX10 D tc aK aV A [(shWorld, ad0)] := X
  show aW p l e (x_Rm 4) s m args below meth c D tc A 2 [(shWorld, ad0)] none True [o] 0 [(0, .ref (ad0 0)), (1, .int x0)] [] [v0]
  unfold f_X10_drawDeed at h
  refine a_aload_n (pc := 0) X 0 dX10_drawDeed_0 rfl rfl ?_
  refine a_iconst (pc := 1) X dX10_drawDeed_1 q_ic_4 ?_
  obtain ⟨y1, e_y1, h⟩ := x_bo_elim h
  refine a_callV (pc := 2) (st2 := [.int y1.1]) (vs2 := [y1.2]) X [(0, 0, 32)] [some y1.2] 0 0 10 [.int (4 : Int32)] [] cv_RX10_169 (c_X10_draw (ad0 := ad0)  e_y1) rfl rfl rfl rfl rfl rfl rfl rfl rfl rfl rfl rfl rfl rfl rfl (Nat.le_of_ble_eq_true rfl) ⟨Nat.le_of_ble_eq_true rfl, Nat.le_of_ble_eq_true rfl⟩ dX10_drawDeed_2 (fun _ => ?_)
  by_cases c_5_0 : y1.1 = (0 : Int32)
  · have h := x_ifp c_5_0 h
    refine a_tin (pc := 5) X 32 dX10_drawDeed_5 c_5_0 (by decide) (by decide) rfl rfl ?_
    refine a_aload_n (pc := 32) X 0 dX10_drawDeed_32 rfl rfl ?_
    refine a_getR (pc := 33) X 0 1 1 fl_RX10_12 rfl rfl rfl rfl rfl dX10_drawDeed_33 ?_
    refine a_getI (pc := 36) X 0 fl_RX10_81 rfl rfl rfl rfl dX10_drawDeed_36 ?_
    refine a_if_le (pc := 39) X 98 dX10_drawDeed_39 rfl (fun c_39 => ?_) (fun c_39 => ?_)
    · have h := x_ifp c_39 h
      have h := Option.some.inj h; subst h
      exact a_vret (pc := 98) X trivial dX10_drawDeed_98
    · have h := x_ifn c_39 h
      refine a_aload_n (pc := 42) X 0 dX10_drawDeed_42 rfl rfl ?_
      refine a_iload_n (pc := 43) X 1 dX10_drawDeed_43 rfl rfl ?_
      refine a_aload_n (pc := 44) X 0 dX10_drawDeed_44 rfl rfl ?_
      refine a_aload_n (pc := 45) X 0 dX10_drawDeed_45 rfl rfl ?_
      refine a_getR (pc := 46) X 0 1 1 fl_RX10_12 rfl rfl rfl rfl rfl dX10_drawDeed_46 ?_
      refine a_getI (pc := 49) X 0 fl_RX10_81 rfl rfl rfl rfl dX10_drawDeed_49 ?_
      obtain ⟨y3, e_y3, h⟩ := x_bo_elim h
      refine a_callV (pc := 52) (st2 := [.int y3.1, .int x0, .ref (ad0 0)]) (vs2 := [y3.2]) X [(0, 0, 32)] [some y3.2] 0 0 10 [.int (y1.2.1 1 1)] [.int x0, .ref (ad0 0)] cv_RX10_169 (c_X10_draw (ad0 := ad0)  e_y3) rfl rfl rfl rfl rfl rfl rfl rfl rfl rfl rfl rfl rfl rfl rfl (Nat.le_of_ble_eq_true rfl) ⟨Nat.le_of_ble_eq_true rfl, Nat.le_of_ble_eq_true rfl⟩ dX10_drawDeed_52 (fun _ => ?_)
      obtain ⟨y4, e_y4, h⟩ := x_bo_elim h
      refine a_callV (pc := 55) (st2 := [.int y4.1]) (vs2 := [y4.2]) X [(0, 0, 32)] [some y4.2] 0 0 10 [.int x0, .int y3.1] [] cv_RX10_107 (c_X10_setOut (ad0 := ad0)  e_y4) rfl rfl rfl rfl rfl rfl rfl rfl rfl rfl rfl rfl rfl rfl rfl (Nat.le_of_ble_eq_true rfl) ⟨Nat.le_of_ble_eq_true rfl, Nat.le_of_ble_eq_true rfl⟩ dX10_drawDeed_55 (fun _ => ?_)
      refine a_pop (pc := 58) X dX10_drawDeed_58 rfl ?_
      refine a_goto (pc := 59) X 98 dX10_drawDeed_59 rfl ?_
      have h := Option.some.inj h; subst h
      exact a_vret (pc := 98) X trivial dX10_drawDeed_98
  · have h := x_ifn c_5_0 h
    by_cases c_5_1 : y1.1 = (1 : Int32)
    · have h := x_ifp c_5_1 h
      refine a_tin (pc := 5) X 32 dX10_drawDeed_5 c_5_1 (by decide) (by decide) rfl rfl ?_
      refine a_aload_n (pc := 32) X 0 dX10_drawDeed_32 rfl rfl ?_
      refine a_getR (pc := 33) X 0 1 1 fl_RX10_12 rfl rfl rfl rfl rfl dX10_drawDeed_33 ?_
      refine a_getI (pc := 36) X 0 fl_RX10_81 rfl rfl rfl rfl dX10_drawDeed_36 ?_
      refine a_if_le (pc := 39) X 98 dX10_drawDeed_39 rfl (fun c_39 => ?_) (fun c_39 => ?_)
      · have h := x_ifp c_39 h
        have h := Option.some.inj h; subst h
        exact a_vret (pc := 98) X trivial dX10_drawDeed_98
      · have h := x_ifn c_39 h
        refine a_aload_n (pc := 42) X 0 dX10_drawDeed_42 rfl rfl ?_
        refine a_iload_n (pc := 43) X 1 dX10_drawDeed_43 rfl rfl ?_
        refine a_aload_n (pc := 44) X 0 dX10_drawDeed_44 rfl rfl ?_
        refine a_aload_n (pc := 45) X 0 dX10_drawDeed_45 rfl rfl ?_
        refine a_getR (pc := 46) X 0 1 1 fl_RX10_12 rfl rfl rfl rfl rfl dX10_drawDeed_46 ?_
        refine a_getI (pc := 49) X 0 fl_RX10_81 rfl rfl rfl rfl dX10_drawDeed_49 ?_
        obtain ⟨y5, e_y5, h⟩ := x_bo_elim h
        refine a_callV (pc := 52) (st2 := [.int y5.1, .int x0, .ref (ad0 0)]) (vs2 := [y5.2]) X [(0, 0, 32)] [some y5.2] 0 0 10 [.int (y1.2.1 1 1)] [.int x0, .ref (ad0 0)] cv_RX10_169 (c_X10_draw (ad0 := ad0)  e_y5) rfl rfl rfl rfl rfl rfl rfl rfl rfl rfl rfl rfl rfl rfl rfl (Nat.le_of_ble_eq_true rfl) ⟨Nat.le_of_ble_eq_true rfl, Nat.le_of_ble_eq_true rfl⟩ dX10_drawDeed_52 (fun _ => ?_)
        obtain ⟨y6, e_y6, h⟩ := x_bo_elim h
        refine a_callV (pc := 55) (st2 := [.int y6.1]) (vs2 := [y6.2]) X [(0, 0, 32)] [some y6.2] 0 0 10 [.int x0, .int y5.1] [] cv_RX10_107 (c_X10_setOut (ad0 := ad0)  e_y6) rfl rfl rfl rfl rfl rfl rfl rfl rfl rfl rfl rfl rfl rfl rfl (Nat.le_of_ble_eq_true rfl) ⟨Nat.le_of_ble_eq_true rfl, Nat.le_of_ble_eq_true rfl⟩ dX10_drawDeed_55 (fun _ => ?_)
        refine a_pop (pc := 58) X dX10_drawDeed_58 rfl ?_
        refine a_goto (pc := 59) X 98 dX10_drawDeed_59 rfl ?_
        have h := Option.some.inj h; subst h
        exact a_vret (pc := 98) X trivial dX10_drawDeed_98
    · have h := x_ifn c_5_1 h
      by_cases c_5_2 : y1.1 = (2 : Int32)
      · have h := x_ifp c_5_2 h
        refine a_tin (pc := 5) X 62 dX10_drawDeed_5 c_5_2 (by decide) (by decide) rfl rfl ?_
        refine a_aload_n (pc := 62) X 0 dX10_drawDeed_62 rfl rfl ?_
        refine a_getR (pc := 63) X 0 1 1 fl_RX10_12 rfl rfl rfl rfl rfl dX10_drawDeed_63 ?_
        refine a_getI (pc := 66) X 0 fl_RX10_172 rfl rfl rfl rfl dX10_drawDeed_66 ?_
        refine a_if_le (pc := 69) X 98 dX10_drawDeed_69 rfl (fun c_69 => ?_) (fun c_69 => ?_)
        · have h := x_ifp c_69 h
          have h := Option.some.inj h; subst h
          exact a_vret (pc := 98) X trivial dX10_drawDeed_98
        · have h := x_ifn c_69 h
          refine a_aload_n (pc := 72) X 0 dX10_drawDeed_72 rfl rfl ?_
          refine a_iload_n (pc := 73) X 1 dX10_drawDeed_73 rfl rfl ?_
          refine a_aload_n (pc := 74) X 0 dX10_drawDeed_74 rfl rfl ?_
          refine a_aload_n (pc := 75) X 0 dX10_drawDeed_75 rfl rfl ?_
          refine a_getR (pc := 76) X 0 1 1 fl_RX10_12 rfl rfl rfl rfl rfl dX10_drawDeed_76 ?_
          refine a_getI (pc := 79) X 0 fl_RX10_172 rfl rfl rfl rfl dX10_drawDeed_79 ?_
          obtain ⟨y7, e_y7, h⟩ := x_bo_elim h
          refine a_callV (pc := 82) (st2 := [.int y7.1, .int x0, .ref (ad0 0)]) (vs2 := [y7.2]) X [(0, 0, 32)] [some y7.2] 0 0 10 [.int (y1.2.1 1 2)] [.int x0, .ref (ad0 0)] cv_RX10_169 (c_X10_draw (ad0 := ad0)  e_y7) rfl rfl rfl rfl rfl rfl rfl rfl rfl rfl rfl rfl rfl rfl rfl (Nat.le_of_ble_eq_true rfl) ⟨Nat.le_of_ble_eq_true rfl, Nat.le_of_ble_eq_true rfl⟩ dX10_drawDeed_82 (fun _ => ?_)
          obtain ⟨y8, e_y8, h⟩ := x_lt_elim h
          refine a_callV (pc := 85) (st2 := [.int y8.1]) (vs2 := [y8.2]) X [(0, 0, 32)] [some y8.2] 0 0 10 [.int x0, .int y7.1] [] cv_RX10_110 (c_X10_pickUp (ad0 := ad0)  e_y8) rfl rfl rfl rfl rfl rfl rfl rfl rfl rfl rfl rfl rfl rfl rfl (Nat.le_of_ble_eq_true rfl) ⟨Nat.le_of_ble_eq_true rfl, Nat.le_of_ble_eq_true rfl⟩ dX10_drawDeed_85 (fun _ => ?_)
          refine a_pop (pc := 88) X dX10_drawDeed_88 rfl ?_
          refine a_goto (pc := 89) X 98 dX10_drawDeed_89 rfl ?_
          have h := Option.some.inj h; subst h
          exact a_vret (pc := 98) X trivial dX10_drawDeed_98
      · have h := x_ifn c_5_2 h
        refine a_tout (pc := 5) X 92 dX10_drawDeed_5 (by have q0 := x_ne c_5_0; have q1 := x_ne c_5_1; have q2 := x_ne c_5_2; have q0 : (y1.1 : Int32).toInt ≠ 0 := q0; have q1 : (y1.1 : Int32).toInt ≠ 1 := q1; have q2 : (y1.1 : Int32).toInt ≠ 2 := q2; omega) rfl ?_
        refine a_aload_n (pc := 92) X 0 dX10_drawDeed_92 rfl rfl ?_
        refine a_iload_n (pc := 93) X 1 dX10_drawDeed_93 rfl rfl ?_
        obtain ⟨y9, e_y9, h⟩ := x_lt_elim h
        refine a_callV (pc := 94) (st2 := [.int y9.1]) (vs2 := [y9.2]) X [(0, 0, 32)] [some y9.2] 0 0 10 [.int x0] [] cv_RX10_116 (c_X10_sleep (ad0 := ad0)  e_y9) rfl rfl rfl rfl rfl rfl rfl rfl rfl rfl rfl rfl rfl rfl rfl (Nat.le_of_ble_eq_true rfl) ⟨Nat.le_of_ble_eq_true rfl, Nat.le_of_ble_eq_true rfl⟩ dX10_drawDeed_94 (fun _ => ?_)
        refine a_pop (pc := 97) X dX10_drawDeed_97 rfl ?_
        have h := Option.some.inj h; subst h
        exact a_vret (pc := 98) X trivial dX10_drawDeed_98
theorem dX10_drawHours_0 : decode cX10_drawHours 0 = .ok (.aload_n 0, 1) := by decide +kernel
theorem dX10_drawHours_1 : decode cX10_drawHours 1 = .ok (.iload_n 2, 1) := by decide +kernel
theorem dX10_drawHours_2 : decode cX10_drawHours 2 = .ok (.putfield 162, 3) := by decide +kernel
theorem dX10_drawHours_5 : decode cX10_drawHours 5 = .ok (.iconst 0, 1) := by decide +kernel
theorem dX10_drawHours_6 : decode cX10_drawHours 6 = .ok (.istore_n 3, 1) := by decide +kernel
theorem dX10_drawHours_7 : decode cX10_drawHours 7 = .ok (.iload_n 3, 1) := by decide +kernel
theorem dX10_drawHours_8 : decode cX10_drawHours 8 = .ok (.iload_n 1, 1) := by decide +kernel
theorem dX10_drawHours_9 : decode cX10_drawHours 9 = .ok (.if_icmp .ge 83, 3) := by decide +kernel
theorem dX10_drawHours_12 : decode cX10_drawHours 12 = .ok (.aload_n 0, 1) := by decide +kernel
theorem dX10_drawHours_13 : decode cX10_drawHours 13 = .ok (.getfield 21, 3) := by decide +kernel
theorem dX10_drawHours_16 : decode cX10_drawHours 16 = .ok (.getfield 150, 3) := by decide +kernel
theorem dX10_drawHours_19 : decode cX10_drawHours 19 = .ok (.sipush 400, 3) := by decide +kernel
theorem dX10_drawHours_22 : decode cX10_drawHours 22 = .ok (.if_icmp .ge 70, 3) := by decide +kernel
theorem dX10_drawHours_25 : decode cX10_drawHours 25 = .ok (.iconst 0, 1) := by decide +kernel
theorem dX10_drawHours_26 : decode cX10_drawHours 26 = .ok (.istore 4, 2) := by decide +kernel
theorem dX10_drawHours_28 : decode cX10_drawHours 28 = .ok (.iload 4, 2) := by decide +kernel
theorem dX10_drawHours_30 : decode cX10_drawHours 30 = .ok (.aload_n 0, 1) := by decide +kernel
theorem dX10_drawHours_31 : decode cX10_drawHours 31 = .ok (.getfield 12, 3) := by decide +kernel
theorem dX10_drawHours_34 : decode cX10_drawHours 34 = .ok (.getfield 88, 3) := by decide +kernel
theorem dX10_drawHours_37 : decode cX10_drawHours 37 = .ok (.if_icmp .ge 24, 3) := by decide +kernel
theorem dX10_drawHours_40 : decode cX10_drawHours 40 = .ok (.aload_n 0, 1) := by decide +kernel
theorem dX10_drawHours_41 : decode cX10_drawHours 41 = .ok (.iload 4, 2) := by decide +kernel
theorem dX10_drawHours_43 : decode cX10_drawHours 43 = .ok (.invokevirtual 58, 3) := by decide +kernel
theorem dX10_drawHours_46 : decode cX10_drawHours 46 = .ok (.ifCond .ne 9, 3) := by decide +kernel
theorem dX10_drawHours_49 : decode cX10_drawHours 49 = .ok (.aload_n 0, 1) := by decide +kernel
theorem dX10_drawHours_50 : decode cX10_drawHours 50 = .ok (.iload 4, 2) := by decide +kernel
theorem dX10_drawHours_52 : decode cX10_drawHours 52 = .ok (.invokevirtual 165, 3) := by decide +kernel
theorem dX10_drawHours_55 : decode cX10_drawHours 55 = .ok (.iinc 4 1, 3) := by decide +kernel
theorem dX10_drawHours_58 : decode cX10_drawHours 58 = .ok (.goto (-30), 3) := by decide +kernel
theorem dX10_drawHours_61 : decode cX10_drawHours 61 = .ok (.aload_n 0, 1) := by decide +kernel
theorem dX10_drawHours_62 : decode cX10_drawHours 62 = .ok (.bipush 20, 2) := by decide +kernel
theorem dX10_drawHours_64 : decode cX10_drawHours 64 = .ok (.invokevirtual 169, 3) := by decide +kernel
theorem dX10_drawHours_67 : decode cX10_drawHours 67 = .ok (.istore 4, 2) := by decide +kernel
theorem dX10_drawHours_69 : decode cX10_drawHours 69 = .ok (.iload 4, 2) := by decide +kernel
theorem dX10_drawHours_71 : decode cX10_drawHours 71 = .ok (.iconst 3, 1) := by decide +kernel
theorem dX10_drawHours_72 : decode cX10_drawHours 72 = .ok (.if_icmp .ge 10, 3) := by decide +kernel
theorem dX10_drawHours_75 : decode cX10_drawHours 75 = .ok (.aload_n 0, 1) := by decide +kernel
theorem dX10_drawHours_76 : decode cX10_drawHours 76 = .ok (.iload 4, 2) := by decide +kernel
theorem dX10_drawHours_78 : decode cX10_drawHours 78 = .ok (.invokevirtual 125, 3) := by decide +kernel
theorem dX10_drawHours_81 : decode cX10_drawHours 81 = .ok (.pop, 1) := by decide +kernel
theorem dX10_drawHours_82 : decode cX10_drawHours 82 = .ok (.aload_n 0, 1) := by decide +kernel
theorem dX10_drawHours_83 : decode cX10_drawHours 83 = .ok (.invokevirtual 153, 3) := by decide +kernel
theorem dX10_drawHours_86 : decode cX10_drawHours 86 = .ok (.iinc 3 1, 3) := by decide +kernel
theorem dX10_drawHours_89 : decode cX10_drawHours 89 = .ok (.goto (-82), 3) := by decide +kernel
theorem dX10_drawHours_92 : decode cX10_drawHours 92 = .ok (.iload_n 3, 1) := by decide +kernel
theorem dX10_drawHours_93 : decode cX10_drawHours 93 = .ok (.ireturn, 1) := by decide +kernel
def f_X10_drawHours_55 (k7 : XM → Int32 → Int32 → Option (Int32 × XM)) (k28 : XM → Int32 → Int32 → Int32 → Option (Int32 × XM)) (w0 : XM) (l1 : Int32) (l3 : Int32) (l4 : Int32) : Option (Int32 × XM) :=
  k28 w0 l1 l3 (l4 + 1)
def f_X10_drawHours_82 (k7 : XM → Int32 → Int32 → Option (Int32 × XM)) (w0 : XM) (l1 : Int32) (l3 : Int32) : Option (Int32 × XM) :=
  x_bo (f_X10_passHour w0) (fun y1 =>
  k7 y1 l1 (l3 + 1))
def f_X10_drawHours_28 (k7 : XM → Int32 → Int32 → Option (Int32 × XM)) (k28 : XM → Int32 → Int32 → Int32 → Option (Int32 × XM)) (w0 : XM) (l1 : Int32) (l3 : Int32) (l4 : Int32) : Option (Int32 × XM) :=
  if ((w0.1 1 3) : Int32) ≤ l4 then
  (x_bo (f_X10_draw w0 (20 : Int32)) (fun y2 =>
  if ((3 : Int32) : Int32) ≤ y2.1 then
  (f_X10_drawHours_82  k7 y2.2 l1 l3)
  else (x_lt (f_X10_lift y2.2 y2.1) (fun y3 =>
  f_X10_drawHours_82  k7 y3.2 l1 l3))))
  else (x_lt (f_X10_isGoing w0 l4) (fun y4 =>
  if y4 = (0 : Int32) then
  (x_bo (f_X10_drawDeed w0 l4) (fun y5 =>
  f_X10_drawHours_55  k7 k28 y5 l1 l3 l4))
  else (f_X10_drawHours_55  k7 k28 w0 l1 l3 l4)))
def f_X10_drawHours_7 (k7 : XM → Int32 → Int32 → Option (Int32 × XM)) (w0 : XM) (l1 : Int32) (l3 : Int32) : Option (Int32 × XM) :=
  if (l1 : Int32) ≤ l3 then
  (some (l3, w0))
  else (if ((400 : Int32) : Int32) ≤ (w0.1 17 0) then
  (some (l3, w0))
  else (x_lp (φ := XM → Int32 → Int32 → Int32 → Option (Int32 × XM)) (fun _ _ _ _ => none) (f_X10_drawHours_28  k7) x_NN w0 l1 l3 (0 : Int32)))
def f_X10_drawHours (v0 : XM) (x0 : Int32) (x1 : Int32) : Option (Int32 × XM) :=
  x_lt (x_si v0 0 4 x1) (fun m6 =>
  x_lp (φ := XM → Int32 → Int32 → Option (Int32 × XM)) (fun _ _ _ => none) (f_X10_drawHours_7  ) x_NN m6 x0 (0 : Int32))
set_option maxRecDepth 100000 in
set_option maxHeartbeats 4000000 in
theorem w_X10_drawHours_55 {p : Program} {l : Launch} {e : Env} {s : State} {m : MethodId} {args : Array Value} {below : List Frame} {meth : Method} {c : Code} {D : va_G} {tc : Nat → ClassId} {aK aV : Nat → Nat} {A : Nat → Prop} {ad0 : Nat → Nat}  (X : Cx p s m args meth c cX10_drawHours 5 (some .int) RX10 D tc aK aV A [(shWorld, ad0)])  {o : Int32 × XM} {k7 : XM → Int32 → Int32 → Option (Int32 × XM)} {k28 : XM → Int32 → Int32 → Int32 → Option (Int32 × XM)} (hk7 : ∀ (w0 : XM) (l1 : Int32) (l3 : Int32), k7 w0 l1 l3 = some o → aW p l e (x_Rm 5) s m args below meth c D tc A 5 [(shWorld, ad0)] (some (.int o.1)) True [o.2] 7 [(0, .ref (ad0 0)), (1, .int l1), (3, .int l3)] [] [w0]) (hk28 : ∀ (w0 : XM) (l1 : Int32) (l3 : Int32) (l4 : Int32), k28 w0 l1 l3 l4 = some o → aW p l e (x_Rm 5) s m args below meth c D tc A 5 [(shWorld, ad0)] (some (.int o.1)) True [o.2] 28 [(0, .ref (ad0 0)), (1, .int l1), (3, .int l3), (4, .int l4)] [] [w0]) {w0 : XM} {l1 : Int32} {l3 : Int32} {l4 : Int32}  (h : f_X10_drawHours_55  k7 k28 w0 l1 l3 l4 = some o) : aW p l e (x_Rm 5) s m args below meth c D tc A 5 [(shWorld, ad0)] (some (.int o.1)) True [o.2] 55 [(0, .ref (ad0 0)), (1, .int l1), (3, .int l3), (4, .int l4)] [] [w0] := by
  unfold f_X10_drawHours_55 at h
  refine a_iinc (pc := 55) X 3 [(4, .int (l4 + 1)), (0, .ref (ad0 0)), (1, .int l1), (3, .int l3)] dX10_drawHours_55 rfl (congrArg (HAdd.hAdd l4) q_ic_1) (by decide) rfl ?_
  refine a_goto (pc := 58) X 28 dX10_drawHours_58 rfl ?_
  refine a_sub [1, 2, 3, 0] rfl ?_
  exact hk28 _ _ _ _ h
set_option maxRecDepth 100000 in
set_option maxHeartbeats 4000000 in
theorem w_X10_drawHours_82 {p : Program} {l : Launch} {e : Env} {s : State} {m : MethodId} {args : Array Value} {below : List Frame} {meth : Method} {c : Code} {D : va_G} {tc : Nat → ClassId} {aK aV : Nat → Nat} {A : Nat → Prop} {ad0 : Nat → Nat}  (X : Cx p s m args meth c cX10_drawHours 5 (some .int) RX10 D tc aK aV A [(shWorld, ad0)])  {o : Int32 × XM} {k7 : XM → Int32 → Int32 → Option (Int32 × XM)} (hk7 : ∀ (w0 : XM) (l1 : Int32) (l3 : Int32), k7 w0 l1 l3 = some o → aW p l e (x_Rm 5) s m args below meth c D tc A 5 [(shWorld, ad0)] (some (.int o.1)) True [o.2] 7 [(0, .ref (ad0 0)), (1, .int l1), (3, .int l3)] [] [w0]) {w0 : XM} {l1 : Int32} {l3 : Int32}  (h : f_X10_drawHours_82  k7 w0 l1 l3 = some o) : aW p l e (x_Rm 5) s m args below meth c D tc A 5 [(shWorld, ad0)] (some (.int o.1)) True [o.2] 82 [(0, .ref (ad0 0)), (1, .int l1), (3, .int l3)] [] [w0] := by
  unfold f_X10_drawHours_82 at h
  refine a_aload_n (pc := 82) X 0 dX10_drawHours_82 rfl rfl ?_
  obtain ⟨y1, e_y1, h⟩ := x_bo_elim h
  refine a_callV (pc := 83) (st2 := []) (vs2 := [y1]) X [(0, 0, 32)] [some y1] 0 0 10 [] [] cv_RX10_153 (c_X10_passHour (ad0 := ad0)  e_y1) rfl rfl rfl rfl rfl rfl rfl rfl rfl rfl rfl rfl rfl rfl rfl (Nat.le_of_ble_eq_true rfl) ⟨Nat.le_of_ble_eq_true rfl, Nat.le_of_ble_eq_true rfl⟩ dX10_drawHours_83 (fun _ => ?_)
  refine a_iinc (pc := 86) X 2 [(3, .int (l3 + 1)), (0, .ref (ad0 0)), (1, .int l1)] dX10_drawHours_86 rfl (congrArg (HAdd.hAdd l3) q_ic_1) (by decide) rfl ?_
  refine a_goto (pc := 89) X 7 dX10_drawHours_89 rfl ?_
  refine a_sub [1, 2, 0] rfl ?_
  exact hk7 _ _ _ h
set_option maxRecDepth 100000 in
set_option maxHeartbeats 4000000 in
theorem w_X10_drawHours_28 {p : Program} {l : Launch} {e : Env} {s : State} {m : MethodId} {args : Array Value} {below : List Frame} {meth : Method} {c : Code} {D : va_G} {tc : Nat → ClassId} {aK aV : Nat → Nat} {A : Nat → Prop} {ad0 : Nat → Nat}  (X : Cx p s m args meth c cX10_drawHours 5 (some .int) RX10 D tc aK aV A [(shWorld, ad0)])  {o : Int32 × XM} {k7 : XM → Int32 → Int32 → Option (Int32 × XM)} (hk7 : ∀ (w0 : XM) (l1 : Int32) (l3 : Int32), k7 w0 l1 l3 = some o → aW p l e (x_Rm 5) s m args below meth c D tc A 5 [(shWorld, ad0)] (some (.int o.1)) True [o.2] 7 [(0, .ref (ad0 0)), (1, .int l1), (3, .int l3)] [] [w0]) : ∀ (n : Nat), ∀ (w0 : XM) (l1 : Int32) (l3 : Int32) (l4 : Int32), x_lp (φ := XM → Int32 → Int32 → Int32 → Option (Int32 × XM)) (fun _ _ _ _ => none) (f_X10_drawHours_28  k7) n w0 l1 l3 l4 = some o → aW p l e (x_Rm 5) s m args below meth c D tc A 5 [(shWorld, ad0)] (some (.int o.1)) True [o.2] 28 [(0, .ref (ad0 0)), (1, .int l1), (3, .int l3), (4, .int l4)] [] [w0] := by
  intro n
  induction n with
  | zero => intro w0 l1 l3 l4 h; exact absurd h (fun q => by cases q)
  | succ n ih =>
    intro w0 l1 l3 l4 h
    have h : f_X10_drawHours_28  k7 (x_lp (φ := XM → Int32 → Int32 → Int32 → Option (Int32 × XM)) (fun _ _ _ _ => none) (f_X10_drawHours_28  k7) n) w0 l1 l3 l4 = some o := h
    generalize x_lp (φ := XM → Int32 → Int32 → Int32 → Option (Int32 × XM)) (fun _ _ _ _ => none) (f_X10_drawHours_28  k7) n = k28 at h ih
    have hk28 := ih
    unfold f_X10_drawHours_28 at h
    refine a_iload (pc := 28) X 3 dX10_drawHours_28 rfl ?_
    refine a_aload_n (pc := 30) X 0 dX10_drawHours_30 rfl rfl ?_
    refine a_getR (pc := 31) X 0 1 1 fl_RX10_12 rfl rfl rfl rfl rfl dX10_drawHours_31 ?_
    refine a_getI (pc := 34) X 0 fl_RX10_88 rfl rfl rfl rfl dX10_drawHours_34 ?_
    refine a_icmp_ge (pc := 37) X 61 dX10_drawHours_37 rfl (fun c_37 => ?_) (fun c_37 => ?_)
    · have h := x_ifp c_37 h
      refine a_aload_n (pc := 61) X 0 dX10_drawHours_61 rfl rfl ?_
      refine a_bipush (pc := 62) X dX10_drawHours_62 q_bp_20 ?_
      obtain ⟨y2, e_y2, h⟩ := x_bo_elim h
      refine a_callV (pc := 64) (st2 := [.int y2.1]) (vs2 := [y2.2]) X [(0, 0, 32)] [some y2.2] 0 0 10 [.int (20 : Int32)] [] cv_RX10_169 (c_X10_draw (ad0 := ad0)  e_y2) rfl rfl rfl rfl rfl rfl rfl rfl rfl rfl rfl rfl rfl rfl rfl (Nat.le_of_ble_eq_true rfl) ⟨Nat.le_of_ble_eq_true rfl, Nat.le_of_ble_eq_true rfl⟩ dX10_drawHours_64 (fun _ => ?_)
      refine a_istore (pc := 67) X [(4, .int y2.1), (0, .ref (ad0 0)), (1, .int l1), (3, .int l3)] dX10_drawHours_67 (by decide) rfl ?_
      refine a_iload (pc := 69) X 0 dX10_drawHours_69 rfl ?_
      refine a_iconst (pc := 71) X dX10_drawHours_71 q_ic_3 ?_
      refine a_icmp_ge (pc := 72) X 82 dX10_drawHours_72 rfl (fun c_72 => ?_) (fun c_72 => ?_)
      · have h := x_ifp c_72 h
        refine a_sub [1, 2, 3] rfl ?_
        exact w_X10_drawHours_82 X   hk7  h
      · have h := x_ifn c_72 h
        refine a_aload_n (pc := 75) X 1 dX10_drawHours_75 rfl rfl ?_
        refine a_iload (pc := 76) X 0 dX10_drawHours_76 rfl ?_
        obtain ⟨y3, e_y3, h⟩ := x_lt_elim h
        refine a_callV (pc := 78) (st2 := [.int y3.1]) (vs2 := [y3.2]) X [(0, 0, 32)] [some y3.2] 0 0 10 [.int y2.1] [] cv_RX10_125 (c_X10_lift (ad0 := ad0)  e_y3) rfl rfl rfl rfl rfl rfl rfl rfl rfl rfl rfl rfl rfl rfl rfl (Nat.le_of_ble_eq_true rfl) ⟨Nat.le_of_ble_eq_true rfl, Nat.le_of_ble_eq_true rfl⟩ dX10_drawHours_78 (fun _ => ?_)
        refine a_pop (pc := 81) X dX10_drawHours_81 rfl ?_
        refine a_sub [1, 2, 3] rfl ?_
        exact w_X10_drawHours_82 X   hk7  h
    · have h := x_ifn c_37 h
      refine a_aload_n (pc := 40) X 0 dX10_drawHours_40 rfl rfl ?_
      refine a_iload (pc := 41) X 3 dX10_drawHours_41 rfl ?_
      obtain ⟨y4, e_y4, h⟩ := x_lt_elim h
      refine a_callV (pc := 43) (st2 := [.int y4]) (vs2 := [w0]) X [(0, 0, 32)] [none] 0 0 10 [.int l4] [] cv_RX10_58 (c_X10_isGoing (ad0 := ad0)  e_y4) rfl rfl rfl rfl rfl rfl rfl rfl rfl rfl rfl rfl rfl rfl rfl (Nat.le_of_ble_eq_true rfl) ⟨Nat.le_of_ble_eq_true rfl, Nat.le_of_ble_eq_true rfl⟩ dX10_drawHours_43 (fun z_43 => ?_)
      refine a_if_ne (pc := 46) X 55 dX10_drawHours_46 rfl (fun c_46 => ?_) (fun c_46 => ?_)
      · have h := x_ifn c_46 h
        exact w_X10_drawHours_55 X   hk7 hk28  h
      · have h := x_ifp c_46 h
        refine a_aload_n (pc := 49) X 0 dX10_drawHours_49 rfl rfl ?_
        refine a_iload (pc := 50) X 3 dX10_drawHours_50 rfl ?_
        obtain ⟨y5, e_y5, h⟩ := x_bo_elim h
        refine a_callV (pc := 52) (st2 := []) (vs2 := [y5]) X [(0, 0, 32)] [some y5] 0 0 10 [.int l4] [] cv_RX10_165 (c_X10_drawDeed (ad0 := ad0)  e_y5) rfl rfl rfl rfl rfl rfl rfl rfl rfl rfl rfl rfl rfl rfl rfl (Nat.le_of_ble_eq_true rfl) ⟨Nat.le_of_ble_eq_true rfl, Nat.le_of_ble_eq_true rfl⟩ dX10_drawHours_52 (fun _ => ?_)
        exact w_X10_drawHours_55 X   hk7 hk28  h
set_option maxRecDepth 100000 in
set_option maxHeartbeats 4000000 in
theorem w_X10_drawHours_7 {p : Program} {l : Launch} {e : Env} {s : State} {m : MethodId} {args : Array Value} {below : List Frame} {meth : Method} {c : Code} {D : va_G} {tc : Nat → ClassId} {aK aV : Nat → Nat} {A : Nat → Prop} {ad0 : Nat → Nat}  (X : Cx p s m args meth c cX10_drawHours 5 (some .int) RX10 D tc aK aV A [(shWorld, ad0)])  {o : Int32 × XM}  : ∀ (n : Nat), ∀ (w0 : XM) (l1 : Int32) (l3 : Int32), x_lp (φ := XM → Int32 → Int32 → Option (Int32 × XM)) (fun _ _ _ => none) (f_X10_drawHours_7  ) n w0 l1 l3 = some o → aW p l e (x_Rm 5) s m args below meth c D tc A 5 [(shWorld, ad0)] (some (.int o.1)) True [o.2] 7 [(0, .ref (ad0 0)), (1, .int l1), (3, .int l3)] [] [w0] := by
  intro n
  induction n with
  | zero => intro w0 l1 l3 h; exact absurd h (fun q => by cases q)
  | succ n ih =>
    intro w0 l1 l3 h
    have h : f_X10_drawHours_7   (x_lp (φ := XM → Int32 → Int32 → Option (Int32 × XM)) (fun _ _ _ => none) (f_X10_drawHours_7  ) n) w0 l1 l3 = some o := h
    generalize x_lp (φ := XM → Int32 → Int32 → Option (Int32 × XM)) (fun _ _ _ => none) (f_X10_drawHours_7  ) n = k7 at h ih
    have hk7 := ih
    unfold f_X10_drawHours_7 at h
    refine a_iload_n (pc := 7) X 2 dX10_drawHours_7 rfl rfl ?_
    refine a_iload_n (pc := 8) X 1 dX10_drawHours_8 rfl rfl ?_
    refine a_icmp_ge (pc := 9) X 92 dX10_drawHours_9 rfl (fun c_9 => ?_) (fun c_9 => ?_)
    · have h := x_ifp c_9 h
      refine a_iload_n (pc := 92) X 2 dX10_drawHours_92 rfl rfl ?_
      have h := Option.some.inj h; subst h
      exact a_iret (pc := 93) X trivial dX10_drawHours_93
    · have h := x_ifn c_9 h
      refine a_aload_n (pc := 12) X 0 dX10_drawHours_12 rfl rfl ?_
      refine a_getR (pc := 13) X 0 17 17 fl_RX10_21 rfl rfl rfl rfl rfl dX10_drawHours_13 ?_
      refine a_getI (pc := 16) X 0 fl_RX10_150 rfl rfl rfl rfl dX10_drawHours_16 ?_
      refine a_sipush (pc := 19) X dX10_drawHours_19 q_sp_400 ?_
      refine a_icmp_ge (pc := 22) X 92 dX10_drawHours_22 rfl (fun c_22 => ?_) (fun c_22 => ?_)
      · have h := x_ifp c_22 h
        refine a_iload_n (pc := 92) X 2 dX10_drawHours_92 rfl rfl ?_
        have h := Option.some.inj h; subst h
        exact a_iret (pc := 93) X trivial dX10_drawHours_93
      · have h := x_ifn c_22 h
        refine a_iconst (pc := 25) X dX10_drawHours_25 q_ic_0 ?_
        refine a_istore (pc := 26) X [(4, .int (0 : Int32)), (0, .ref (ad0 0)), (1, .int l1), (3, .int l3)] dX10_drawHours_26 (by decide) rfl ?_
        refine a_sub [1, 2, 3, 0] rfl ?_
        exact w_X10_drawHours_28 X   hk7 x_NN _ _ _ _ h
set_option maxRecDepth 100000 in
set_option maxHeartbeats 4000000 in
theorem c_X10_drawHours {l : Launch}  {ad0 : Nat → Nat} {v0 : XM} {x0 : Int32} {x1 : Int32}  {o : Int32 × XM} (h : f_X10_drawHours v0 x0 x1 = some o) : CT l yX10_drawHours cX10_drawHours 5 (some .int) 5 [(shWorld, ad0)] [v0] (fun aK => [.ref (ad0 0), .int x0, .int x1]) (some (.int o.1)) True [o.2] := by
  refine CT_of (by decide) (fun _ => Nat.le_of_ble_eq_true rfl) ?_
  intro p e s m args below meth c D tc aK aV A X
  have X : Cx p s m args meth c cX10_drawHours 5 (some .int) RX10 D tc aK aV A [(shWorld, ad0)] := X
  show aW p l e (x_Rm 5) s m args below meth c D tc A 5 [(shWorld, ad0)] (some (.int o.1)) True [o.2] 0 [(0, .ref (ad0 0)), (1, .int x0), (2, .int x1)] [] [v0]
  unfold f_X10_drawHours at h
  refine a_aload_n (pc := 0) X 0 dX10_drawHours_0 rfl rfl ?_
  refine a_iload_n (pc := 1) X 2 dX10_drawHours_1 rfl rfl ?_
  refine a_putI (pc := 2) X 0 fl_RX10_162 rfl rfl rfl rfl dX10_drawHours_2 ?_
  obtain ⟨m6, e_m6, h⟩ := x_lt_elim h
  refine a_nm (vs2 := [m6]) (congrArg (fun q : XM => [q]) e_m6) ?_
  refine a_iconst (pc := 5) X dX10_drawHours_5 q_ic_0 ?_
  refine a_istore_n (pc := 6) X [(3, .int (0 : Int32)), (0, .ref (ad0 0)), (1, .int x0), (2, .int x1)] dX10_drawHours_6 rfl (by decide) rfl ?_
  refine a_sub [1, 2, 0] rfl ?_
  exact w_X10_drawHours_7 X    x_NN _ _ _ h
