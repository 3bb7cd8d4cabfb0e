-- class: functional forms and contracts, written by wip/whole/gen.py out of the bytecode.
theorem dX2_spread_0 : decode cX2_spread 0 = .ok (.aload 4, 2) := by decide +kernel
theorem dX2_spread_2 : decode cX2_spread 2 = .ok (.ldc 48, 2) := by decide +kernel
theorem dX2_spread_4 : decode cX2_spread 4 = .ok (.invokevirtual 49, 3) := by decide +kernel
theorem dX2_spread_7 : decode cX2_spread 7 = .ok (.aload 4, 2) := by decide +kernel
theorem dX2_spread_9 : decode cX2_spread 9 = .ok (.iload_n 2, 1) := by decide +kernel
theorem dX2_spread_10 : decode cX2_spread 10 = .ok (.iconst 0, 1) := by decide +kernel
theorem dX2_spread_11 : decode cX2_spread 11 = .ok (.invokevirtual 52, 3) := by decide +kernel
theorem dX2_spread_14 : decode cX2_spread 14 = .ok (.iconst 1, 1) := by decide +kernel
theorem dX2_spread_15 : decode cX2_spread 15 = .ok (.istore 5, 2) := by decide +kernel
theorem dX2_spread_17 : decode cX2_spread 17 = .ok (.iload 5, 2) := by decide +kernel
theorem dX2_spread_19 : decode cX2_spread 19 = .ok (.aload_n 1, 1) := by decide +kernel
theorem dX2_spread_20 : decode cX2_spread 20 = .ok (.getfield 56, 3) := by decide +kernel
theorem dX2_spread_23 : decode cX2_spread 23 = .ok (.getfield 62, 3) := by decide +kernel
theorem dX2_spread_26 : decode cX2_spread 26 = .ok (.if_icmp .ge 116, 3) := by decide +kernel
theorem dX2_spread_29 : decode cX2_spread 29 = .ok (.iconst 0, 1) := by decide +kernel
theorem dX2_spread_30 : decode cX2_spread 30 = .ok (.istore 6, 2) := by decide +kernel
theorem dX2_spread_32 : decode cX2_spread 32 = .ok (.iload 6, 2) := by decide +kernel
theorem dX2_spread_34 : decode cX2_spread 34 = .ok (.aload_n 1, 1) := by decide +kernel
theorem dX2_spread_35 : decode cX2_spread 35 = .ok (.getfield 56, 3) := by decide +kernel
theorem dX2_spread_38 : decode cX2_spread 38 = .ok (.getfield 67, 3) := by decide +kernel
theorem dX2_spread_41 : decode cX2_spread 41 = .ok (.if_icmp .ge 95, 3) := by decide +kernel
theorem dX2_spread_44 : decode cX2_spread 44 = .ok (.aload_n 1, 1) := by decide +kernel
theorem dX2_spread_45 : decode cX2_spread 45 = .ok (.getfield 70, 3) := by decide +kernel
theorem dX2_spread_48 : decode cX2_spread 48 = .ok (.getfield 74, 3) := by decide +kernel
theorem dX2_spread_51 : decode cX2_spread 51 = .ok (.iload 6, 2) := by decide +kernel
theorem dX2_spread_53 : decode cX2_spread 53 = .ok (.invokevirtual 79, 3) := by decide +kernel
theorem dX2_spread_56 : decode cX2_spread 56 = .ok (.ifCond .ne 74, 3) := by decide +kernel
theorem dX2_spread_59 : decode cX2_spread 59 = .ok (.aload_n 1, 1) := by decide +kernel
theorem dX2_spread_60 : decode cX2_spread 60 = .ok (.iload 6, 2) := by decide +kernel
theorem dX2_spread_62 : decode cX2_spread 62 = .ok (.iload_n 3, 1) := by decide +kernel
theorem dX2_spread_63 : decode cX2_spread 63 = .ok (.invokestatic 83, 3) := by decide +kernel
theorem dX2_spread_66 : decode cX2_spread 66 = .ok (.istore 7, 2) := by decide +kernel
theorem dX2_spread_68 : decode cX2_spread 68 = .ok (.aload 4, 2) := by decide +kernel
theorem dX2_spread_70 : decode cX2_spread 70 = .ok (.aload_n 1, 1) := by decide +kernel
theorem dX2_spread_71 : decode cX2_spread 71 = .ok (.getfield 56, 3) := by decide +kernel
theorem dX2_spread_74 : decode cX2_spread 74 = .ok (.getfield 87, 3) := by decide +kernel
theorem dX2_spread_77 : decode cX2_spread 77 = .ok (.iload 6, 2) := by decide +kernel
theorem dX2_spread_79 : decode cX2_spread 79 = .ok (.invokevirtual 79, 3) := by decide +kernel
theorem dX2_spread_82 : decode cX2_spread 82 = .ok (.aload_n 1, 1) := by decide +kernel
theorem dX2_spread_83 : decode cX2_spread 83 = .ok (.getfield 56, 3) := by decide +kernel
theorem dX2_spread_86 : decode cX2_spread 86 = .ok (.getfield 90, 3) := by decide +kernel
theorem dX2_spread_89 : decode cX2_spread 89 = .ok (.iload 6, 2) := by decide +kernel
theorem dX2_spread_91 : decode cX2_spread 91 = .ok (.invokevirtual 79, 3) := by decide +kernel
theorem dX2_spread_94 : decode cX2_spread 94 = .ok (.iload 7, 2) := by decide +kernel
theorem dX2_spread_96 : decode cX2_spread 96 = .ok (.invokestatic 93, 3) := by decide +kernel
theorem dX2_spread_99 : decode cX2_spread 99 = .ok (.aload 4, 2) := by decide +kernel
theorem dX2_spread_101 : decode cX2_spread 101 = .ok (.aload_n 1, 1) := by decide +kernel
theorem dX2_spread_102 : decode cX2_spread 102 = .ok (.getfield 56, 3) := by decide +kernel
theorem dX2_spread_105 : decode cX2_spread 105 = .ok (.getfield 90, 3) := by decide +kernel
theorem dX2_spread_108 : decode cX2_spread 108 = .ok (.iload 6, 2) := by decide +kernel
theorem dX2_spread_110 : decode cX2_spread 110 = .ok (.invokevirtual 79, 3) := by decide +kernel
theorem dX2_spread_113 : decode cX2_spread 113 = .ok (.aload_n 1, 1) := by decide +kernel
theorem dX2_spread_114 : decode cX2_spread 114 = .ok (.getfield 56, 3) := by decide +kernel
theorem dX2_spread_117 : decode cX2_spread 117 = .ok (.getfield 87, 3) := by decide +kernel
theorem dX2_spread_120 : decode cX2_spread 120 = .ok (.iload 6, 2) := by decide +kernel
theorem dX2_spread_122 : decode cX2_spread 122 = .ok (.invokevirtual 79, 3) := by decide +kernel
theorem dX2_spread_125 : decode cX2_spread 125 = .ok (.iload 7, 2) := by decide +kernel
theorem dX2_spread_127 : decode cX2_spread 127 = .ok (.invokestatic 93, 3) := by decide +kernel
theorem dX2_spread_130 : decode cX2_spread 130 = .ok (.iinc 6 1, 3) := by decide +kernel
theorem dX2_spread_133 : decode cX2_spread 133 = .ok (.goto (-101), 3) := by decide +kernel
theorem dX2_spread_136 : decode cX2_spread 136 = .ok (.iinc 5 1, 3) := by decide +kernel
theorem dX2_spread_139 : decode cX2_spread 139 = .ok (.goto (-122), 3) := by decide +kernel
theorem dX2_spread_142 : decode cX2_spread 142 = .ok (.return_, 1) := by decide +kernel
def f_X2_spread_130 (v0 : XM) (v1 : XM) (k17 : XM → Int32 → Int32 → Option (XM)) (k32 : XM → Int32 → Int32 → Int32 → Option (XM)) (w2 : XM) (l3 : Int32) (l5 : Int32) (l6 : Int32) : Option (XM) :=
  k32 w2 l3 l5 (l6 + 1)
def f_X2_spread_32 (v0 : XM) (v1 : XM) (k17 : XM → Int32 → Int32 → Option (XM)) (k32 : XM → Int32 → Int32 → Int32 → Option (XM)) (w2 : XM) (l3 : Int32) (l5 : Int32) (l6 : Int32) : Option (XM) :=
  if ((v1.1 1 1) : Int32) ≤ l6 then
  (k17 w2 l3 (l5 + 1))
  else (x_lt (r_get 12 (x_sub v1 30) l6) (fun y1 =>
  if y1 = (0 : Int32) then
  (x_bo (f_X2_costOf v1 l6 l3) (fun y2 =>
  x_lt (r_get 12 (x_sub v1 2) l6) (fun y3 =>
  x_lt (r_get 12 (x_sub v1 4) l6) (fun y4 =>
  x_lt (f_X2_lower w2 y3 y4 y2) (fun y5 =>
  x_lt (r_get 12 (x_sub v1 4) l6) (fun y6 =>
  x_lt (r_get 12 (x_sub v1 2) l6) (fun y7 =>
  x_lt (f_X2_lower y5 y6 y7 y2) (fun y8 =>
  f_X2_spread_130 v0 v1 k17 k32 y8 l3 l5 l6))))))))
  else (f_X2_spread_130 v0 v1 k17 k32 w2 l3 l5 l6)))
def f_X2_spread_17 (v0 : XM) (v1 : XM) (k17 : XM → Int32 → Int32 → Option (XM)) (w2 : XM) (l3 : Int32) (l5 : Int32) : Option (XM) :=
  if ((v1.1 1 0) : Int32) ≤ l5 then
  (some w2)
  else (x_lp (φ := XM → Int32 → Int32 → Int32 → Option (XM)) (fun _ _ _ _ => none) (f_X2_spread_32 v0 v1 k17) x_NN w2 l3 l5 (0 : Int32))
def f_X2_spread (v0 : XM) (v1 : XM) (v2 : XM) (x1 : Int32) (x2 : Int32) : Option (XM) :=
  x_lt (r_fill 8 v2 (1048576 : Int32)) (fun y9 =>
  x_lt (r_put 8 y9 x1 (0 : Int32)) (fun y10 =>
  x_lp (φ := XM → Int32 → Int32 → Option (XM)) (fun _ _ _ => none) (f_X2_spread_17 v0 v1 ) x_NN y10 x2 (1 : Int32)))
set_option maxRecDepth 100000 in
set_option maxHeartbeats 4000000 in
theorem w_X2_spread_130 {p : Program} {l : Launch} {e : Env} {s : State} {m : MethodId} {args : Array Value} {below : List Frame} {meth : Method} {c : Code} {D : va_G} {tc : Nat → ClassId} {aK aV : Nat → Nat} {A : Nat → Prop} {ad0 : Nat → Nat} {ad1 : Nat → Nat} {ad2 : Nat → Nat} {v0 : XM} {v1 : XM} (X : Cx p s m args meth c cX2_spread 8 none RX2 D tc aK aV A [(([] : List XK), ad0), (shWorld, ad1), ((shRow 8), ad2)])  {o : XM} {k17 : XM → Int32 → Int32 → Option (XM)} {k32 : XM → Int32 → Int32 → Int32 → Option (XM)} (hk17 : ∀ (w2 : XM) (l3 : Int32) (l5 : Int32), k17 w2 l3 l5 = some o → aW p l e (x_Rm 4) s m args below meth c D tc A 8 [(([] : List XK), ad0), (shWorld, ad1), ((shRow 8), ad2)] none True [v0, v1, o] 17 [(1, .ref (ad1 0)), (3, .int l3), (4, .ref (ad2 0)), (5, .int l5)] [] [v0, v1, w2]) (hk32 : ∀ (w2 : XM) (l3 : Int32) (l5 : Int32) (l6 : Int32), k32 w2 l3 l5 l6 = some o → aW p l e (x_Rm 4) s m args below meth c D tc A 8 [(([] : List XK), ad0), (shWorld, ad1), ((shRow 8), ad2)] none True [v0, v1, o] 32 [(1, .ref (ad1 0)), (3, .int l3), (4, .ref (ad2 0)), (5, .int l5), (6, .int l6)] [] [v0, v1, w2]) {w2 : XM} {l3 : Int32} {l5 : Int32} {l6 : Int32}  (h : f_X2_spread_130 v0 v1 k17 k32 w2 l3 l5 l6 = some o) : aW p l e (x_Rm 4) s m args below meth c D tc A 8 [(([] : List XK), ad0), (shWorld, ad1), ((shRow 8), ad2)] none True [v0, v1, o] 130 [(1, .ref (ad1 0)), (3, .int l3), (4, .ref (ad2 0)), (5, .int l5), (6, .int l6)] [] [v0, v1, w2] := by
  unfold f_X2_spread_130 at h
  refine a_iinc (pc := 130) X 4 [(6, .int (l6 + 1)), (1, .ref (ad1 0)), (3, .int l3), (4, .ref (ad2 0)), (5, .int l5)] dX2_spread_130 rfl (congrArg (HAdd.hAdd l6) q_ic_1) (by decide) rfl ?_
  refine a_goto (pc := 133) X 32 dX2_spread_133 rfl ?_
  refine a_sub [1, 2, 3, 4, 0] rfl ?_
  exact hk32 _ _ _ _ h
set_option maxRecDepth 100000 in
set_option maxHeartbeats 4000000 in
theorem w_X2_spread_32 {p : Program} {l : Launch} {e : Env} {s : State} {m : MethodId} {args : Array Value} {below : List Frame} {meth : Method} {c : Code} {D : va_G} {tc : Nat → ClassId} {aK aV : Nat → Nat} {A : Nat → Prop} {ad0 : Nat → Nat} {ad1 : Nat → Nat} {ad2 : Nat → Nat} {v0 : XM} {v1 : XM} (X : Cx p s m args meth c cX2_spread 8 none RX2 D tc aK aV A [(([] : List XK), ad0), (shWorld, ad1), ((shRow 8), ad2)])  {o : XM} {k17 : XM → Int32 → Int32 → Option (XM)} (hk17 : ∀ (w2 : XM) (l3 : Int32) (l5 : Int32), k17 w2 l3 l5 = some o → aW p l e (x_Rm 4) s m args below meth c D tc A 8 [(([] : List XK), ad0), (shWorld, ad1), ((shRow 8), ad2)] none True [v0, v1, o] 17 [(1, .ref (ad1 0)), (3, .int l3), (4, .ref (ad2 0)), (5, .int l5)] [] [v0, v1, w2]) : ∀ (n : Nat), ∀ (w2 : XM) (l3 : Int32) (l5 : Int32) (l6 : Int32), x_lp (φ := XM → Int32 → Int32 → Int32 → Option (XM)) (fun _ _ _ _ => none) (f_X2_spread_32 v0 v1 k17) n w2 l3 l5 l6 = some o → aW p l e (x_Rm 4) s m args below meth c D tc A 8 [(([] : List XK), ad0), (shWorld, ad1), ((shRow 8), ad2)] none True [v0, v1, o] 32 [(1, .ref (ad1 0)), (3, .int l3), (4, .ref (ad2 0)), (5, .int l5), (6, .int l6)] [] [v0, v1, w2] := by
  intro n
  induction n with
  | zero => intro w2 l3 l5 l6 h; exact absurd h (fun q => by cases q)
  | succ n ih =>
    intro w2 l3 l5 l6 h
    have h : f_X2_spread_32 v0 v1 k17 (x_lp (φ := XM → Int32 → Int32 → Int32 → Option (XM)) (fun _ _ _ _ => none) (f_X2_spread_32 v0 v1 k17) n) w2 l3 l5 l6 = some o := h
    generalize x_lp (φ := XM → Int32 → Int32 → Int32 → Option (XM)) (fun _ _ _ _ => none) (f_X2_spread_32 v0 v1 k17) n = k32 at h ih
    have hk32 := ih
    unfold f_X2_spread_32 at h
    refine a_iload (pc := 32) X 4 dX2_spread_32 rfl ?_
    refine a_aload_n (pc := 34) X 0 dX2_spread_34 rfl rfl ?_
    refine a_getR (pc := 35) X 1 1 1 fl_RX2_56 rfl rfl rfl rfl rfl dX2_spread_35 ?_
    refine a_getI (pc := 38) X 1 fl_RX2_67 rfl rfl rfl rfl dX2_spread_38 ?_
    refine a_icmp_ge (pc := 41) X 136 dX2_spread_41 rfl (fun c_41 => ?_) (fun c_41 => ?_)
    · have h := x_ifp c_41 h
      refine a_iinc (pc := 136) X 3 [(5, .int (l5 + 1)), (1, .ref (ad1 0)), (3, .int l3), (4, .ref (ad2 0)), (6, .int l6)] dX2_spread_136 rfl (congrArg (HAdd.hAdd l5) q_ic_1) (by decide) rfl ?_
      refine a_goto (pc := 139) X 17 dX2_spread_139 rfl ?_
      refine a_sub [1, 2, 3, 0] rfl ?_
      exact hk17 _ _ _ h
    · have h := x_ifn c_41 h
      refine a_aload_n (pc := 44) X 0 dX2_spread_44 rfl rfl ?_
      refine a_getR (pc := 45) X 1 17 17 fl_RX2_70 rfl rfl rfl rfl rfl dX2_spread_45 ?_
      refine a_getR (pc := 48) X 1 13 30 fl_RX2_74 rfl rfl rfl rfl rfl dX2_spread_48 ?_
      refine a_iload (pc := 51) X 4 dX2_spread_51 rfl ?_
      obtain ⟨y1, e_y1, h⟩ := x_lt_elim h
      refine a_callV (pc := 53) (st2 := [.int y1]) (vs2 := [v0, v1, w2]) X [(1, 30, 2)] [none] 1 30 3 [.int l6] [] cv_RX2_79 (ct_get (ad0 := (fun i => ad1 (i + 30))) (by decide) e_y1) rfl rfl rfl rfl rfl rfl rfl rfl rfl rfl rfl rfl rfl rfl rfl (Nat.le_of_ble_eq_true rfl) ⟨Nat.le_of_ble_eq_true rfl, Nat.le_of_ble_eq_true rfl⟩ dX2_spread_53 (fun _ => ?_)
      refine a_if_ne (pc := 56) X 130 dX2_spread_56 rfl (fun c_56 => ?_) (fun c_56 => ?_)
      · have h := x_ifn c_56 h
        exact w_X2_spread_130 X   hk17 hk32  h
      · have h := x_ifp c_56 h
        refine a_aload_n (pc := 59) X 0 dX2_spread_59 rfl rfl ?_
        refine a_iload (pc := 60) X 4 dX2_spread_60 rfl ?_
        refine a_iload_n (pc := 62) X 1 dX2_spread_62 rfl rfl ?_
        obtain ⟨y2, e_y2, h⟩ := x_bo_elim h
        refine a_callS (pc := 63) (st2 := [.int y2]) (vs2 := [v0, v1, w2]) X [(1, 0, 32)] [none] [.ref (ad1 0), .int l6, .int l3] [] cv_RX2_83 (c_X2_costOf (ad0 := ad1)  e_y2) rfl rfl rfl rfl rfl rfl rfl rfl rfl rfl rfl (Nat.le_of_ble_eq_true rfl) ⟨Nat.le_of_ble_eq_true rfl, Nat.le_of_ble_eq_true rfl⟩ dX2_spread_63 (fun _ => ?_)
        refine a_istore (pc := 66) X [(7, .int y2), (1, .ref (ad1 0)), (3, .int l3), (4, .ref (ad2 0)), (5, .int l5), (6, .int l6)] dX2_spread_66 (by decide) rfl ?_
        refine a_aload (pc := 68) X 3 dX2_spread_68 rfl ?_
        refine a_aload_n (pc := 70) X 1 dX2_spread_70 rfl rfl ?_
        refine a_getR (pc := 71) X 1 1 1 fl_RX2_56 rfl rfl rfl rfl rfl dX2_spread_71 ?_
        refine a_getR (pc := 74) X 1 1 2 fl_RX2_87 rfl rfl rfl rfl rfl dX2_spread_74 ?_
        refine a_iload (pc := 77) X 5 dX2_spread_77 rfl ?_
        obtain ⟨y3, e_y3, h⟩ := x_lt_elim h
        refine a_callV (pc := 79) (st2 := [.int y3, .ref (ad2 0)]) (vs2 := [v0, v1, w2]) X [(1, 2, 2)] [none] 1 2 3 [.int l6] [.ref (ad2 0)] cv_RX2_79 (ct_get (ad0 := (fun i => ad1 (i + 2))) (by decide) e_y3) rfl rfl rfl rfl rfl rfl rfl rfl rfl rfl rfl rfl rfl rfl rfl (Nat.le_of_ble_eq_true rfl) ⟨Nat.le_of_ble_eq_true rfl, Nat.le_of_ble_eq_true rfl⟩ dX2_spread_79 (fun _ => ?_)
        refine a_aload_n (pc := 82) X 1 dX2_spread_82 rfl rfl ?_
        refine a_getR (pc := 83) X 1 1 1 fl_RX2_56 rfl rfl rfl rfl rfl dX2_spread_83 ?_
        refine a_getR (pc := 86) X 1 3 4 fl_RX2_90 rfl rfl rfl rfl rfl dX2_spread_86 ?_
        refine a_iload (pc := 89) X 5 dX2_spread_89 rfl ?_
        obtain ⟨y4, e_y4, h⟩ := x_lt_elim h
        refine a_callV (pc := 91) (st2 := [.int y4, .int y3, .ref (ad2 0)]) (vs2 := [v0, v1, w2]) X [(1, 4, 2)] [none] 1 4 3 [.int l6] [.int y3, .ref (ad2 0)] cv_RX2_79 (ct_get (ad0 := (fun i => ad1 (i + 4))) (by decide) e_y4) rfl rfl rfl rfl rfl rfl rfl rfl rfl rfl rfl rfl rfl rfl rfl (Nat.le_of_ble_eq_true rfl) ⟨Nat.le_of_ble_eq_true rfl, Nat.le_of_ble_eq_true rfl⟩ dX2_spread_91 (fun _ => ?_)
        refine a_iload (pc := 94) X 0 dX2_spread_94 rfl ?_
        obtain ⟨y5, e_y5, h⟩ := x_lt_elim h
        refine a_callS (pc := 96) (st2 := []) (vs2 := [v0, v1, y5]) X [(2, 0, 2)] [some y5] [.ref (ad2 0), .int y3, .int y4, .int y2] [] cv_RX2_93 (c_X2_lower (ad0 := ad2)  e_y5) rfl rfl rfl rfl rfl rfl rfl rfl rfl rfl rfl (Nat.le_of_ble_eq_true rfl) ⟨Nat.le_of_ble_eq_true rfl, Nat.le_of_ble_eq_true rfl⟩ dX2_spread_96 (fun _ => ?_)
        refine a_aload (pc := 99) X 3 dX2_spread_99 rfl ?_
        refine a_aload_n (pc := 101) X 1 dX2_spread_101 rfl rfl ?_
        refine a_getR (pc := 102) X 1 1 1 fl_RX2_56 rfl rfl rfl rfl rfl dX2_spread_102 ?_
        refine a_getR (pc := 105) X 1 3 4 fl_RX2_90 rfl rfl rfl rfl rfl dX2_spread_105 ?_
        refine a_iload (pc := 108) X 5 dX2_spread_108 rfl ?_
        obtain ⟨y6, e_y6, h⟩ := x_lt_elim h
        refine a_callV (pc := 110) (st2 := [.int y6, .ref (ad2 0)]) (vs2 := [v0, v1, y5]) X [(1, 4, 2)] [none] 1 4 3 [.int l6] [.ref (ad2 0)] cv_RX2_79 (ct_get (ad0 := (fun i => ad1 (i + 4))) (by decide) e_y6) rfl rfl rfl rfl rfl rfl rfl rfl rfl rfl rfl rfl rfl rfl rfl (Nat.le_of_ble_eq_true rfl) ⟨Nat.le_of_ble_eq_true rfl, Nat.le_of_ble_eq_true rfl⟩ dX2_spread_110 (fun _ => ?_)
        refine a_aload_n (pc := 113) X 1 dX2_spread_113 rfl rfl ?_
        refine a_getR (pc := 114) X 1 1 1 fl_RX2_56 rfl rfl rfl rfl rfl dX2_spread_114 ?_
        refine a_getR (pc := 117) X 1 1 2 fl_RX2_87 rfl rfl rfl rfl rfl dX2_spread_117 ?_
        refine a_iload (pc := 120) X 5 dX2_spread_120 rfl ?_
        obtain ⟨y7, e_y7, h⟩ := x_lt_elim h
        refine a_callV (pc := 122) (st2 := [.int y7, .int y6, .ref (ad2 0)]) (vs2 := [v0, v1, y5]) X [(1, 2, 2)] [none] 1 2 3 [.int l6] [.int y6, .ref (ad2 0)] cv_RX2_79 (ct_get (ad0 := (fun i => ad1 (i + 2))) (by decide) e_y7) rfl rfl rfl rfl rfl rfl rfl rfl rfl rfl rfl rfl rfl rfl rfl (Nat.le_of_ble_eq_true rfl) ⟨Nat.le_of_ble_eq_true rfl, Nat.le_of_ble_eq_true rfl⟩ dX2_spread_122 (fun _ => ?_)
        refine a_iload (pc := 125) X 0 dX2_spread_125 rfl ?_
        obtain ⟨y8, e_y8, h⟩ := x_lt_elim h
        refine a_callS (pc := 127) (st2 := []) (vs2 := [v0, v1, y8]) X [(2, 0, 2)] [some y8] [.ref (ad2 0), .int y6, .int y7, .int y2] [] cv_RX2_93 (c_X2_lower (ad0 := ad2)  e_y8) rfl rfl rfl rfl rfl rfl rfl rfl rfl rfl rfl (Nat.le_of_ble_eq_true rfl) ⟨Nat.le_of_ble_eq_true rfl, Nat.le_of_ble_eq_true rfl⟩ dX2_spread_127 (fun _ => ?_)
        refine a_sub [1, 2, 3, 4, 5] rfl ?_
        exact w_X2_spread_130 X   hk17 hk32  h
set_option maxRecDepth 100000 in
set_option maxHeartbeats 4000000 in
theorem w_X2_spread_17 {p : Program} {l : Launch} {e : Env} {s : State} {m : MethodId} {args : Array Value} {below : List Frame} {meth : Method} {c : Code} {D : va_G} {tc : Nat → ClassId} {aK aV : Nat → Nat} {A : Nat → Prop} {ad0 : Nat → Nat} {ad1 : Nat → Nat} {ad2 : Nat → Nat} {v0 : XM} {v1 : XM} (X : Cx p s m args meth c cX2_spread 8 none RX2 D tc aK aV A [(([] : List XK), ad0), (shWorld, ad1), ((shRow 8), ad2)])  {o : XM}  : ∀ (n : Nat), ∀ (w2 : XM) (l3 : Int32) (l5 : Int32), x_lp (φ := XM → Int32 → Int32 → Option (XM)) (fun _ _ _ => none) (f_X2_spread_17 v0 v1 ) n w2 l3 l5 = some o → aW p l e (x_Rm 4) s m args below meth c D tc A 8 [(([] : List XK), ad0), (shWorld, ad1), ((shRow 8), ad2)] none True [v0, v1, o] 17 [(1, .ref (ad1 0)), (3, .int l3), (4, .ref (ad2 0)), (5, .int l5)] [] [v0, v1, w2] := by
  intro n
  induction n with
  | zero => intro w2 l3 l5 h; exact absurd h (fun q => by cases q)
  | succ n ih =>
    intro w2 l3 l5 h
    have h : f_X2_spread_17 v0 v1  (x_lp (φ := XM → Int32 → Int32 → Option (XM)) (fun _ _ _ => none) (f_X2_spread_17 v0 v1 ) n) w2 l3 l5 = some o := h
    generalize x_lp (φ := XM → Int32 → Int32 → Option (XM)) (fun _ _ _ => none) (f_X2_spread_17 v0 v1 ) n = k17 at h ih
    have hk17 := ih
    unfold f_X2_spread_17 at h
    refine a_iload (pc := 17) X 3 dX2_spread_17 rfl ?_
    refine a_aload_n (pc := 19) X 0 dX2_spread_19 rfl rfl ?_
    refine a_getR (pc := 20) X 1 1 1 fl_RX2_56 rfl rfl rfl rfl rfl dX2_spread_20 ?_
    refine a_getI (pc := 23) X 1 fl_RX2_62 rfl rfl rfl rfl dX2_spread_23 ?_
    refine a_icmp_ge (pc := 26) X 142 dX2_spread_26 rfl (fun c_26 => ?_) (fun c_26 => ?_)
    · have h := x_ifp c_26 h
      have h := Option.some.inj h; subst h
      exact a_vret (pc := 142) X trivial dX2_spread_142
    · have h := x_ifn c_26 h
      refine a_iconst (pc := 29) X dX2_spread_29 q_ic_0 ?_
      refine a_istore (pc := 30) X [(6, .int (0 : Int32)), (1, .ref (ad1 0)), (3, .int l3), (4, .ref (ad2 0)), (5, .int l5)] dX2_spread_30 (by decide) rfl ?_
      refine a_sub [1, 2, 3, 4, 0] rfl ?_
      exact w_X2_spread_32 X   hk17 x_NN _ _ _ _ h
set_option maxRecDepth 100000 in
set_option maxHeartbeats 4000000 in
theorem c_X2_spread {l : Launch}  {ad0 : Nat → Nat} {ad1 : Nat → Nat} {ad2 : Nat → Nat} {v0 v1 v2 : XM} {x1 : Int32} {x2 : Int32}  {o : XM} (h : f_X2_spread v0 v1 v2 x1 x2 = some o) : CT l yX2_spread cX2_spread 8 none 4 [(([] : List XK), ad0), (shWorld, ad1), ((shRow 8), ad2)] [v0, v1, v2] (fun aK => [.ref (ad0 0), .ref (ad1 0), .int x1, .int x2, .ref (ad2 0)]) none True [v0, v1, o] := by
  refine CT_of (by decide) (fun _ => Nat.le_of_ble_eq_true rfl) ?_
  intro p e s m args below meth c D tc aK aV A X
  have X : Cx p s m args meth c cX2_spread 8 none RX2 D tc aK aV A [(([] : List XK), ad0), (shWorld, ad1), ((shRow 8), ad2)] := X
  show aW p l e (x_Rm 4) s m args below meth c D tc A 8 [(([] : List XK), ad0), (shWorld, ad1), ((shRow 8), ad2)] none True [v0, v1, o] 0 [(0, .ref (ad0 0)), (1, .ref (ad1 0)), (2, .int x1), (3, .int x2), (4, .ref (ad2 0))] [] [v0, v1, v2]
  unfold f_X2_spread at h
  refine a_aload (pc := 0) X 4 dX2_spread_0 rfl ?_
  refine a_ldc (pc := 2) X kc_RX2_48 dX2_spread_2 ?_
  obtain ⟨y9, e_y9, h⟩ := x_lt_elim h
  refine a_callV (pc := 4) (st2 := []) (vs2 := [v0, v1, y9]) X [(2, 0, 2)] [some y9] 2 0 3 [.int (1048576 : Int32)] [] cv_RX2_49 (ct_fill (ad0 := ad2) (by decide) e_y9) rfl rfl rfl rfl rfl rfl rfl rfl rfl rfl rfl rfl rfl rfl rfl (Nat.le_of_ble_eq_true rfl) ⟨Nat.le_of_ble_eq_true rfl, Nat.le_of_ble_eq_true rfl⟩ dX2_spread_4 (fun _ => ?_)
  refine a_aload (pc := 7) X 4 dX2_spread_7 rfl ?_
  refine a_iload_n (pc := 9) X 2 dX2_spread_9 rfl rfl ?_
  refine a_iconst (pc := 10) X dX2_spread_10 q_ic_0 ?_
  obtain ⟨y10, e_y10, h⟩ := x_lt_elim h
  refine a_callV (pc := 11) (st2 := []) (vs2 := [v0, v1, y10]) X [(2, 0, 2)] [some y10] 2 0 3 [.int x1, .int (0 : Int32)] [] cv_RX2_52 (ct_put (ad0 := ad2) (by decide) e_y10) rfl rfl rfl rfl rfl rfl rfl rfl rfl rfl rfl rfl rfl rfl rfl (Nat.le_of_ble_eq_true rfl) ⟨Nat.le_of_ble_eq_true rfl, Nat.le_of_ble_eq_true rfl⟩ dX2_spread_11 (fun _ => ?_)
  refine a_iconst (pc := 14) X dX2_spread_14 q_ic_1 ?_
  refine a_istore (pc := 15) X [(5, .int (1 : Int32)), (0, .ref (ad0 0)), (1, .ref (ad1 0)), (2, .int x1), (3, .int x2), (4, .ref (ad2 0))] dX2_spread_15 (by decide) rfl ?_
  refine a_sub [2, 4, 5, 0] rfl ?_
  exact w_X2_spread_17 X    x_NN _ _ _ h
theorem dX2_hoursTo_0 : decode cX2_hoursTo 0 = .ok (.aload_n 0, 1) := by decide +kernel
theorem dX2_hoursTo_1 : decode cX2_hoursTo 1 = .ok (.iload_n 1, 1) := by decide +kernel
theorem dX2_hoursTo_2 : decode cX2_hoursTo 2 = .ok (.invokevirtual 79, 3) := by decide +kernel
theorem dX2_hoursTo_5 : decode cX2_hoursTo 5 = .ok (.bipush 16, 2) := by decide +kernel
theorem dX2_hoursTo_7 : decode cX2_hoursTo 7 = .ok (.idiv, 1) := by decide +kernel
theorem dX2_hoursTo_8 : decode cX2_hoursTo 8 = .ok (.ireturn, 1) := by decide +kernel
def f_X2_hoursTo (v0 : XM) (x1 : Int32) : Int32 :=
  x_lt (r_get 8 v0 x1) (fun y1 =>
  (y1 / (16 : Int32) : Int32))
set_option maxRecDepth 100000 in
set_option maxHeartbeats 4000000 in
theorem c_X2_hoursTo {l : Launch}  {ad0 : Nat → Nat} {v0 : XM} {x1 : Int32}  {o : Int32} (h : f_X2_hoursTo v0 x1 = o) : CT l yX2_hoursTo cX2_hoursTo 2 (some .int) 1 [((shRow 8), ad0)] [v0] (fun aK => [.ref (ad0 0), .int x1]) (some (.int o)) True [v0] := by
  refine CT_of (by decide) (fun _ => Nat.le_of_ble_eq_true rfl) ?_
  intro p e s m args below meth c D tc aK aV A X
  have X : Cx p s m args meth c cX2_hoursTo 2 (some .int) RX2 D tc aK aV A [((shRow 8), ad0)] := X
  show aW p l e (x_Rm 1) s m args below meth c D tc A 2 [((shRow 8), ad0)] (some (.int o)) True [v0] 0 [(0, .ref (ad0 0)), (1, .int x1)] [] [v0]
  unfold f_X2_hoursTo at h
  refine a_aload_n (pc := 0) X 0 dX2_hoursTo_0 rfl rfl ?_
  refine a_iload_n (pc := 1) X 1 dX2_hoursTo_1 rfl rfl ?_
  obtain ⟨y1, e_y1, h⟩ := x_lt_elim h
  refine a_callV (pc := 2) (st2 := [.int y1]) (vs2 := [v0]) X [(0, 0, 2)] [none] 0 0 3 [.int x1] [] cv_RX2_79 (ct_get (ad0 := ad0) (by decide) e_y1) rfl rfl rfl rfl rfl rfl rfl rfl rfl rfl rfl rfl rfl rfl rfl (Nat.le_of_ble_eq_true rfl) ⟨Nat.le_of_ble_eq_true rfl, Nat.le_of_ble_eq_true rfl⟩ dX2_hoursTo_2 (fun _ => ?_)
  refine a_bipush (pc := 5) X dX2_hoursTo_5 q_bp_16 ?_
  refine a_idiv (pc := 7) X (by decide) dX2_hoursTo_7 ?_
  subst h
  exact a_iret (pc := 8) X trivial dX2_hoursTo_8
theorem dX2_spreadAll_0 : decode cX2_spreadAll 0 = .ok (.iconst 0, 1) := by decide +kernel
theorem dX2_spreadAll_1 : decode cX2_spreadAll 1 = .ok (.istore_n 3, 1) := by decide +kernel
theorem dX2_spreadAll_2 : decode cX2_spreadAll 2 = .ok (.iload_n 3, 1) := by decide +kernel
theorem dX2_spreadAll_3 : decode cX2_spreadAll 3 = .ok (.aload_n 1, 1) := by decide +kernel
theorem dX2_spreadAll_4 : decode cX2_spreadAll 4 = .ok (.getfield 56, 3) := by decide +kernel
theorem dX2_spreadAll_7 : decode cX2_spreadAll 7 = .ok (.getfield 62, 3) := by decide +kernel
theorem dX2_spreadAll_10 : decode cX2_spreadAll 10 = .ok (.if_icmp .ge 64, 3) := by decide +kernel
theorem dX2_spreadAll_13 : decode cX2_spreadAll 13 = .ok (.aload_n 0, 1) := by decide +kernel
theorem dX2_spreadAll_14 : decode cX2_spreadAll 14 = .ok (.aload_n 1, 1) := by decide +kernel
theorem dX2_spreadAll_15 : decode cX2_spreadAll 15 = .ok (.iload_n 3, 1) := by decide +kernel
theorem dX2_spreadAll_16 : decode cX2_spreadAll 16 = .ok (.iload_n 2, 1) := by decide +kernel
theorem dX2_spreadAll_17 : decode cX2_spreadAll 17 = .ok (.aload_n 0, 1) := by decide +kernel
theorem dX2_spreadAll_18 : decode cX2_spreadAll 18 = .ok (.getfield 14, 3) := by decide +kernel
theorem dX2_spreadAll_21 : decode cX2_spreadAll 21 = .ok (.invokevirtual 101, 3) := by decide +kernel
theorem dX2_spreadAll_24 : decode cX2_spreadAll 24 = .ok (.iconst 0, 1) := by decide +kernel
theorem dX2_spreadAll_25 : decode cX2_spreadAll 25 = .ok (.istore 4, 2) := by decide +kernel
theorem dX2_spreadAll_27 : decode cX2_spreadAll 27 = .ok (.iload 4, 2) := by decide +kernel
theorem dX2_spreadAll_29 : decode cX2_spreadAll 29 = .ok (.aload_n 1, 1) := by decide +kernel
theorem dX2_spreadAll_30 : decode cX2_spreadAll 30 = .ok (.getfield 56, 3) := by decide +kernel
theorem dX2_spreadAll_33 : decode cX2_spreadAll 33 = .ok (.getfield 62, 3) := by decide +kernel
theorem dX2_spreadAll_36 : decode cX2_spreadAll 36 = .ok (.if_icmp .ge 32, 3) := by decide +kernel
theorem dX2_spreadAll_39 : decode cX2_spreadAll 39 = .ok (.aload_n 0, 1) := by decide +kernel
theorem dX2_spreadAll_40 : decode cX2_spreadAll 40 = .ok (.getfield 23, 3) := by decide +kernel
theorem dX2_spreadAll_43 : decode cX2_spreadAll 43 = .ok (.iload_n 3, 1) := by decide +kernel
theorem dX2_spreadAll_44 : decode cX2_spreadAll 44 = .ok (.bipush 8, 2) := by decide +kernel
theorem dX2_spreadAll_46 : decode cX2_spreadAll 46 = .ok (.imul, 1) := by decide +kernel
theorem dX2_spreadAll_47 : decode cX2_spreadAll 47 = .ok (.iload 4, 2) := by decide +kernel
theorem dX2_spreadAll_49 : decode cX2_spreadAll 49 = .ok (.iadd, 1) := by decide +kernel
theorem dX2_spreadAll_50 : decode cX2_spreadAll 50 = .ok (.aload_n 0, 1) := by decide +kernel
theorem dX2_spreadAll_51 : decode cX2_spreadAll 51 = .ok (.getfield 14, 3) := by decide +kernel
theorem dX2_spreadAll_54 : decode cX2_spreadAll 54 = .ok (.iload 4, 2) := by decide +kernel
theorem dX2_spreadAll_56 : decode cX2_spreadAll 56 = .ok (.invokestatic 105, 3) := by decide +kernel
theorem dX2_spreadAll_59 : decode cX2_spreadAll 59 = .ok (.invokevirtual 52, 3) := by decide +kernel
theorem dX2_spreadAll_62 : decode cX2_spreadAll 62 = .ok (.iinc 4 1, 3) := by decide +kernel
theorem dX2_spreadAll_65 : decode cX2_spreadAll 65 = .ok (.goto (-38), 3) := by decide +kernel
theorem dX2_spreadAll_68 : decode cX2_spreadAll 68 = .ok (.iinc 3 1, 3) := by decide +kernel
theorem dX2_spreadAll_71 : decode cX2_spreadAll 71 = .ok (.goto (-69), 3) := by decide +kernel
theorem dX2_spreadAll_74 : decode cX2_spreadAll 74 = .ok (.return_, 1) := by decide +kernel
def f_X2_spreadAll_27 (v1 : XM) (k2 : XM → Int32 → Int32 → Option (XM)) (k27 : XM → Int32 → Int32 → Int32 → Option (XM)) (w0 : XM) (l2 : Int32) (l3 : Int32) (l4 : Int32) : Option (XM) :=
  if ((v1.1 1 0) : Int32) ≤ l4 then
  (k2 w0 l2 (l3 + 1))
  else (x_lt (f_X2_hoursTo (x_sub w0 1) l4) (fun y1 =>
  x_lt (r_put 64 (x_sub w0 5) ((l3 * (8 : Int32)) + l4) y1) (fun y2 =>
  x_lt (x_put w0 5 2 y2) (fun m3 =>
  k27 m3 l2 l3 (l4 + 1)))))
def f_X2_spreadAll_2 (v1 : XM) (k2 : XM → Int32 → Int32 → Option (XM)) (w0 : XM) (l2 : Int32) (l3 : Int32) : Option (XM) :=
  if ((v1.1 1 0) : Int32) ≤ l3 then
  (some w0)
  else (x_bo (f_X2_spread (x_sub w0 0) v1 (x_sub w0 1) l3 l2) (fun y4 =>
  x_lt (x_put w0 1 2 y4) (fun m5 =>
  x_lp (φ := XM → Int32 → Int32 → Int32 → Option (XM)) (fun _ _ _ _ => none) (f_X2_spreadAll_27 v1 k2) x_NN m5 l2 l3 (0 : Int32))))
def f_X2_spreadAll (v0 : XM) (v1 : XM) (x1 : Int32) : Option (XM) :=
  x_lp (φ := XM → Int32 → Int32 → Option (XM)) (fun _ _ _ => none) (f_X2_spreadAll_2 v1 ) x_NN v0 x1 (0 : Int32)
set_option maxRecDepth 100000 in
set_option maxHeartbeats 4000000 in
theorem w_X2_spreadAll_27 {p : Program} {l : Launch} {e : Env} {s : State} {m : MethodId} {args : Array Value} {below : List Frame} {meth : Method} {c : Code} {D : va_G} {tc : Nat → ClassId} {aK aV : Nat → Nat} {A : Nat → Prop} {ad0 : Nat → Nat} {ad1 : Nat → Nat} {v1 : XM} (X : Cx p s m args meth c cX2_spreadAll 5 none RX2 D tc aK aV A [(shRoads, ad0), (shWorld, ad1)])  {o : XM} {k2 : XM → Int32 → Int32 → Option (XM)} (hk2 : ∀ (w0 : XM) (l2 : Int32) (l3 : Int32), k2 w0 l2 l3 = some o → aW p l e (x_Rm 5) s m args below meth c D tc A 5 [(shRoads, ad0), (shWorld, ad1)] none True [o, v1] 2 [(0, .ref (ad0 0)), (1, .ref (ad1 0)), (2, .int l2), (3, .int l3)] [] [w0, v1]) : ∀ (n : Nat), ∀ (w0 : XM) (l2 : Int32) (l3 : Int32) (l4 : Int32), x_lp (φ := XM → Int32 → Int32 → Int32 → Option (XM)) (fun _ _ _ _ => none) (f_X2_spreadAll_27 v1 k2) n w0 l2 l3 l4 = some o → aW p l e (x_Rm 5) s m args below meth c D tc A 5 [(shRoads, ad0), (shWorld, ad1)] none True [o, v1] 27 [(0, .ref (ad0 0)), (1, .ref (ad1 0)), (2, .int l2), (3, .int l3), (4, .int l4)] [] [w0, v1] := by
  intro n
  induction n with
  | zero => intro w0 l2 l3 l4 h; exact absurd h (fun q => by cases q)
  | succ n ih =>
    intro w0 l2 l3 l4 h
    have h : f_X2_spreadAll_27 v1 k2 (x_lp (φ := XM → Int32 → Int32 → Int32 → Option (XM)) (fun _ _ _ _ => none) (f_X2_spreadAll_27 v1 k2) n) w0 l2 l3 l4 = some o := h
    generalize x_lp (φ := XM → Int32 → Int32 → Int32 → Option (XM)) (fun _ _ _ _ => none) (f_X2_spreadAll_27 v1 k2) n = k27 at h ih
    have hk27 := ih
    unfold f_X2_spreadAll_27 at h
    refine a_iload (pc := 27) X 4 dX2_spreadAll_27 rfl ?_
    refine a_aload_n (pc := 29) X 1 dX2_spreadAll_29 rfl rfl ?_
    refine a_getR (pc := 30) X 1 1 1 fl_RX2_56 rfl rfl rfl rfl rfl dX2_spreadAll_30 ?_
    refine a_getI (pc := 33) X 1 fl_RX2_62 rfl rfl rfl rfl dX2_spreadAll_33 ?_
    refine a_icmp_ge (pc := 36) X 68 dX2_spreadAll_36 rfl (fun c_36 => ?_) (fun c_36 => ?_)
    · have h := x_ifp c_36 h
      refine a_iinc (pc := 68) X 3 [(3, .int (l3 + 1)), (0, .ref (ad0 0)), (1, .ref (ad1 0)), (2, .int l2), (4, .int l4)] dX2_spreadAll_68 rfl (congrArg (HAdd.hAdd l3) q_ic_1) (by decide) rfl ?_
      refine a_goto (pc := 71) X 2 dX2_spreadAll_71 rfl ?_
      refine a_sub [1, 2, 3, 0] rfl ?_
      exact hk2 _ _ _ h
    · have h := x_ifn c_36 h
      refine a_aload_n (pc := 39) X 0 dX2_spreadAll_39 rfl rfl ?_
      refine a_getR (pc := 40) X 0 5 5 fl_RX2_23 rfl rfl rfl rfl rfl dX2_spreadAll_40 ?_
      refine a_iload_n (pc := 43) X 3 dX2_spreadAll_43 rfl rfl ?_
      refine a_bipush (pc := 44) X dX2_spreadAll_44 q_bp_8 ?_
      refine a_imul (pc := 46) X dX2_spreadAll_46 ?_
      refine a_iload (pc := 47) X 4 dX2_spreadAll_47 rfl ?_
      refine a_iadd (pc := 49) X dX2_spreadAll_49 ?_
      refine a_aload_n (pc := 50) X 0 dX2_spreadAll_50 rfl rfl ?_
      refine a_getR (pc := 51) X 0 1 1 fl_RX2_14 rfl rfl rfl rfl rfl dX2_spreadAll_51 ?_
      refine a_iload (pc := 54) X 4 dX2_spreadAll_54 rfl ?_
      obtain ⟨y1, e_y1, h⟩ := x_lt_elim h
      refine a_callS (pc := 56) (st2 := [.int y1, .int ((l3 * (8 : Int32)) + l4), .ref (ad0 5)]) (vs2 := [w0, v1]) X [(0, 1, 2)] [none] [.ref (ad0 1), .int l4] [.int ((l3 * (8 : Int32)) + l4), .ref (ad0 5)] cv_RX2_105 (c_X2_hoursTo (ad0 := (fun i => ad0 (i + 1)))  e_y1) rfl rfl rfl rfl rfl rfl rfl rfl rfl rfl rfl (Nat.le_of_ble_eq_true rfl) ⟨Nat.le_of_ble_eq_true rfl, Nat.le_of_ble_eq_true rfl⟩ dX2_spreadAll_56 (fun _ => ?_)
      obtain ⟨y2, e_y2, h⟩ := x_lt_elim h
      refine a_callV (pc := 59) (st2 := []) (vs2 := [x_put w0 5 2 y2, v1]) X [(0, 5, 2)] [some y2] 0 5 3 [.int ((l3 * (8 : Int32)) + l4), .int y1] [] cv_RX2_52 (ct_put (ad0 := (fun i => ad0 (i + 5))) (by decide) e_y2) rfl rfl rfl rfl rfl rfl rfl rfl rfl rfl rfl rfl rfl rfl rfl (Nat.le_of_ble_eq_true rfl) ⟨Nat.le_of_ble_eq_true rfl, Nat.le_of_ble_eq_true rfl⟩ dX2_spreadAll_59 (fun _ => ?_)
      obtain ⟨m3, e_m3, h⟩ := x_lt_elim h
      refine a_nm (vs2 := [m3, v1]) (congrArg (fun q : XM => [q, v1]) e_m3) ?_
      refine a_iinc (pc := 62) X 4 [(4, .int (l4 + 1)), (0, .ref (ad0 0)), (1, .ref (ad1 0)), (2, .int l2), (3, .int l3)] dX2_spreadAll_62 rfl (congrArg (HAdd.hAdd l4) q_ic_1) (by decide) rfl ?_
      refine a_goto (pc := 65) X 27 dX2_spreadAll_65 rfl ?_
      refine a_sub [1, 2, 3, 4, 0] rfl ?_
      exact hk27 _ _ _ _ h
set_option maxRecDepth 100000 in
set_option maxHeartbeats 4000000 in
theorem w_X2_spreadAll_2 {p : Program} {l : Launch} {e : Env} {s : State} {m : MethodId} {args : Array Value} {below : List Frame} {meth : Method} {c : Code} {D : va_G} {tc : Nat → ClassId} {aK aV : Nat → Nat} {A : Nat → Prop} {ad0 : Nat → Nat} {ad1 : Nat → Nat} {v1 : XM} (X : Cx p s m args meth c cX2_spreadAll 5 none RX2 D tc aK aV A [(shRoads, ad0), (shWorld, ad1)])  {o : XM}  : ∀ (n : Nat), ∀ (w0 : XM) (l2 : Int32) (l3 : Int32), x_lp (φ := XM → Int32 → Int32 → Option (XM)) (fun _ _ _ => none) (f_X2_spreadAll_2 v1 ) n w0 l2 l3 = some o → aW p l e (x_Rm 5) s m args below meth c D tc A 5 [(shRoads, ad0), (shWorld, ad1)] none True [o, v1] 2 [(0, .ref (ad0 0)), (1, .ref (ad1 0)), (2, .int l2), (3, .int l3)] [] [w0, v1] := by
  intro n
  induction n with
  | zero => intro w0 l2 l3 h; exact absurd h (fun q => by cases q)
  | succ n ih =>
    intro w0 l2 l3 h
    have h : f_X2_spreadAll_2 v1  (x_lp (φ := XM → Int32 → Int32 → Option (XM)) (fun _ _ _ => none) (f_X2_spreadAll_2 v1 ) n) w0 l2 l3 = some o := h
    generalize x_lp (φ := XM → Int32 → Int32 → Option (XM)) (fun _ _ _ => none) (f_X2_spreadAll_2 v1 ) n = k2 at h ih
    have hk2 := ih
    unfold f_X2_spreadAll_2 at h
    refine a_iload_n (pc := 2) X 3 dX2_spreadAll_2 rfl rfl ?_
    refine a_aload_n (pc := 3) X 1 dX2_spreadAll_3 rfl rfl ?_
    refine a_getR (pc := 4) X 1 1 1 fl_RX2_56 rfl rfl rfl rfl rfl dX2_spreadAll_4 ?_
    refine a_getI (pc := 7) X 1 fl_RX2_62 rfl rfl rfl rfl dX2_spreadAll_7 ?_
    refine a_icmp_ge (pc := 10) X 74 dX2_spreadAll_10 rfl (fun c_10 => ?_) (fun c_10 => ?_)
    · have h := x_ifp c_10 h
      have h := Option.some.inj h; subst h
      exact a_vret (pc := 74) X trivial dX2_spreadAll_74
    · have h := x_ifn c_10 h
      refine a_aload_n (pc := 13) X 0 dX2_spreadAll_13 rfl rfl ?_
      refine a_aload_n (pc := 14) X 1 dX2_spreadAll_14 rfl rfl ?_
      refine a_iload_n (pc := 15) X 3 dX2_spreadAll_15 rfl rfl ?_
      refine a_iload_n (pc := 16) X 2 dX2_spreadAll_16 rfl rfl ?_
      refine a_aload_n (pc := 17) X 0 dX2_spreadAll_17 rfl rfl ?_
      refine a_getR (pc := 18) X 0 1 1 fl_RX2_14 rfl rfl rfl rfl rfl dX2_spreadAll_18 ?_
      obtain ⟨y4, e_y4, h⟩ := x_bo_elim h
      refine a_callV (pc := 21) (st2 := []) (vs2 := [x_put w0 1 2 y4, v1]) X [(0, 0, 0), (1, 0, 32), (0, 1, 2)] [none, none, some y4] 0 0 2 [.ref (ad1 0), .int l3, .int l2, .ref (ad0 1)] [] cv_RX2_101 (c_X2_spread (ad0 := (fun i => ad0 (i + 0))) (ad1 := ad1) (ad2 := (fun i => ad0 (i + 1)))  e_y4) rfl rfl rfl rfl rfl rfl rfl rfl rfl rfl rfl rfl rfl rfl rfl (Nat.le_of_ble_eq_true rfl) ⟨Nat.le_of_ble_eq_true rfl, Nat.le_of_ble_eq_true rfl⟩ dX2_spreadAll_21 (fun _ => ?_)
      obtain ⟨m5, e_m5, h⟩ := x_lt_elim h
      refine a_nm (vs2 := [m5, v1]) (congrArg (fun q : XM => [q, v1]) e_m5) ?_
      refine a_iconst (pc := 24) X dX2_spreadAll_24 q_ic_0 ?_
      refine a_istore (pc := 25) X [(4, .int (0 : Int32)), (0, .ref (ad0 0)), (1, .ref (ad1 0)), (2, .int l2), (3, .int l3)] dX2_spreadAll_25 (by decide) rfl ?_
      refine a_sub [1, 2, 3, 4, 0] rfl ?_
      exact w_X2_spreadAll_27 X   hk2 x_NN _ _ _ _ h
set_option maxRecDepth 100000 in
set_option maxHeartbeats 4000000 in
theorem c_X2_spreadAll {l : Launch}  {ad0 : Nat → Nat} {ad1 : Nat → Nat} {v0 v1 : XM} {x1 : Int32}  {o : XM} (h : f_X2_spreadAll v0 v1 x1 = some o) : CT l yX2_spreadAll cX2_spreadAll 5 none 5 [(shRoads, ad0), (shWorld, ad1)] [v0, v1] (fun aK => [.ref (ad0 0), .ref (ad1 0), .int x1]) none True [o, v1] := by
  refine CT_of (by decide) (fun _ => Nat.le_of_ble_eq_true rfl) ?_
  intro p e s m args below meth c D tc aK aV A X
  have X : Cx p s m args meth c cX2_spreadAll 5 none RX2 D tc aK aV A [(shRoads, ad0), (shWorld, ad1)] := X
  show aW p l e (x_Rm 5) s m args below meth c D tc A 5 [(shRoads, ad0), (shWorld, ad1)] none True [o, v1] 0 [(0, .ref (ad0 0)), (1, .ref (ad1 0)), (2, .int x1)] [] [v0, v1]
  unfold f_X2_spreadAll at h
  refine a_iconst (pc := 0) X dX2_spreadAll_0 q_ic_0 ?_
  refine a_istore_n (pc := 1) X [(3, .int (0 : Int32)), (0, .ref (ad0 0)), (1, .ref (ad1 0)), (2, .int x1)] dX2_spreadAll_1 rfl (by decide) rfl ?_
  refine a_sub [1, 2, 3, 0] rfl ?_
  exact w_X2_spreadAll_2 X    x_NN _ _ _ h
theorem dX2_farFrom_0 : decode cX2_farFrom 0 = .ok (.aload_n 0, 1) := by decide +kernel
theorem dX2_farFrom_1 : decode cX2_farFrom 1 = .ok (.getfield 23, 3) := by decide +kernel
theorem dX2_farFrom_4 : decode cX2_farFrom 4 = .ok (.iload_n 1, 1) := by decide +kernel
theorem dX2_farFrom_5 : decode cX2_farFrom 5 = .ok (.bipush 8, 2) := by decide +kernel
theorem dX2_farFrom_7 : decode cX2_farFrom 7 = .ok (.imul, 1) := by decide +kernel
theorem dX2_farFrom_8 : decode cX2_farFrom 8 = .ok (.iload_n 2, 1) := by decide +kernel
theorem dX2_farFrom_9 : decode cX2_farFrom 9 = .ok (.iadd, 1) := by decide +kernel
theorem dX2_farFrom_10 : decode cX2_farFrom 10 = .ok (.invokevirtual 79, 3) := by decide +kernel
theorem dX2_farFrom_13 : decode cX2_farFrom 13 = .ok (.ireturn, 1) := by decide +kernel
def f_X2_farFrom (v0 : XM) (x0 : Int32) (x1 : Int32) : Int32 :=
  x_lt (r_get 64 (x_sub v0 5) ((x0 * (8 : Int32)) + x1)) (fun y1 =>
  (y1 : Int32))
set_option maxRecDepth 100000 in
set_option maxHeartbeats 4000000 in
theorem c_X2_farFrom {l : Launch}  {ad0 : Nat → Nat} {v0 : XM} {x0 : Int32} {x1 : Int32}  {o : Int32} (h : f_X2_farFrom v0 x0 x1 = o) : CT l yX2_farFrom cX2_farFrom 3 (some .int) 1 [(shRoads, ad0)] [v0] (fun aK => [.ref (ad0 0), .int x0, .int x1]) (some (.int o)) True [v0] := by
  refine CT_of (by decide) (fun _ => Nat.le_of_ble_eq_true rfl) ?_
  intro p e s m args below meth c D tc aK aV A X
  have X : Cx p s m args meth c cX2_farFrom 3 (some .int) RX2 D tc aK aV A [(shRoads, ad0)] := X
  show aW p l e (x_Rm 1) s m args below meth c D tc A 3 [(shRoads, ad0)] (some (.int o)) True [v0] 0 [(0, .ref (ad0 0)), (1, .int x0), (2, .int x1)] [] [v0]
  unfold f_X2_farFrom at h
  refine a_aload_n (pc := 0) X 0 dX2_farFrom_0 rfl rfl ?_
  refine a_getR (pc := 1) X 0 5 5 fl_RX2_23 rfl rfl rfl rfl rfl dX2_farFrom_1 ?_
  refine a_iload_n (pc := 4) X 1 dX2_farFrom_4 rfl rfl ?_
  refine a_bipush (pc := 5) X dX2_farFrom_5 q_bp_8 ?_
  refine a_imul (pc := 7) X dX2_farFrom_7 ?_
  refine a_iload_n (pc := 8) X 2 dX2_farFrom_8 rfl rfl ?_
  refine a_iadd (pc := 9) X dX2_farFrom_9 ?_
  obtain ⟨y1, e_y1, h⟩ := x_lt_elim h
  refine a_callV (pc := 10) (st2 := [.int y1]) (vs2 := [v0]) X [(0, 5, 2)] [none] 0 5 3 [.int ((x0 * (8 : Int32)) + x1)] [] cv_RX2_79 (ct_get (ad0 := (fun i => ad0 (i + 5))) (by decide) e_y1) rfl rfl rfl rfl rfl rfl rfl rfl rfl rfl rfl rfl rfl rfl rfl (Nat.le_of_ble_eq_true rfl) ⟨Nat.le_of_ble_eq_true rfl, Nat.le_of_ble_eq_true rfl⟩ dX2_farFrom_10 (fun _ => ?_)
  subst h
  exact a_iret (pc := 13) X trivial dX2_farFrom_13
theorem dX2_reachedBy_0 : decode cX2_reachedBy 0 = .ok (.aload_n 0, 1) := by decide +kernel
theorem dX2_reachedBy_1 : decode cX2_reachedBy 1 = .ok (.aload_n 1, 1) := by decide +kernel
theorem dX2_reachedBy_2 : decode cX2_reachedBy 2 = .ok (.aload_n 1, 1) := by decide +kernel
theorem dX2_reachedBy_3 : decode cX2_reachedBy 3 = .ok (.getfield 70, 3) := by decide +kernel
theorem dX2_reachedBy_6 : decode cX2_reachedBy 6 = .ok (.getfield 109, 3) := by decide +kernel
theorem dX2_reachedBy_9 : decode cX2_reachedBy 9 = .ok (.iload_n 2, 1) := by decide +kernel
theorem dX2_reachedBy_10 : decode cX2_reachedBy 10 = .ok (.invokevirtual 79, 3) := by decide +kernel
theorem dX2_reachedBy_13 : decode cX2_reachedBy 13 = .ok (.aload_n 1, 1) := by decide +kernel
theorem dX2_reachedBy_14 : decode cX2_reachedBy 14 = .ok (.getfield 56, 3) := by decide +kernel
theorem dX2_reachedBy_17 : decode cX2_reachedBy 17 = .ok (.getfield 112, 3) := by decide +kernel
theorem dX2_reachedBy_20 : decode cX2_reachedBy 20 = .ok (.iload_n 2, 1) := by decide +kernel
theorem dX2_reachedBy_21 : decode cX2_reachedBy 21 = .ok (.invokevirtual 79, 3) := by decide +kernel
theorem dX2_reachedBy_24 : decode cX2_reachedBy 24 = .ok (.aload_n 0, 1) := by decide +kernel
theorem dX2_reachedBy_25 : decode cX2_reachedBy 25 = .ok (.getfield 14, 3) := by decide +kernel
theorem dX2_reachedBy_28 : decode cX2_reachedBy 28 = .ok (.invokevirtual 101, 3) := by decide +kernel
theorem dX2_reachedBy_31 : decode cX2_reachedBy 31 = .ok (.aload_n 1, 1) := by decide +kernel
theorem dX2_reachedBy_32 : decode cX2_reachedBy 32 = .ok (.getfield 56, 3) := by decide +kernel
theorem dX2_reachedBy_35 : decode cX2_reachedBy 35 = .ok (.getfield 115, 3) := by decide +kernel
theorem dX2_reachedBy_38 : decode cX2_reachedBy 38 = .ok (.aload_n 1, 1) := by decide +kernel
theorem dX2_reachedBy_39 : decode cX2_reachedBy 39 = .ok (.getfield 70, 3) := by decide +kernel
theorem dX2_reachedBy_42 : decode cX2_reachedBy 42 = .ok (.getfield 118, 3) := by decide +kernel
theorem dX2_reachedBy_45 : decode cX2_reachedBy 45 = .ok (.iload_n 2, 1) := by decide +kernel
theorem dX2_reachedBy_46 : decode cX2_reachedBy 46 = .ok (.invokevirtual 79, 3) := by decide +kernel
theorem dX2_reachedBy_49 : decode cX2_reachedBy 49 = .ok (.isub, 1) := by decide +kernel
theorem dX2_reachedBy_50 : decode cX2_reachedBy 50 = .ok (.istore_n 3, 1) := by decide +kernel
theorem dX2_reachedBy_51 : decode cX2_reachedBy 51 = .ok (.iconst 0, 1) := by decide +kernel
theorem dX2_reachedBy_52 : decode cX2_reachedBy 52 = .ok (.istore 4, 2) := by decide +kernel
theorem dX2_reachedBy_54 : decode cX2_reachedBy 54 = .ok (.iconst 0, 1) := by decide +kernel
theorem dX2_reachedBy_55 : decode cX2_reachedBy 55 = .ok (.istore 5, 2) := by decide +kernel
theorem dX2_reachedBy_57 : decode cX2_reachedBy 57 = .ok (.iload 5, 2) := by decide +kernel
theorem dX2_reachedBy_59 : decode cX2_reachedBy 59 = .ok (.aload_n 1, 1) := by decide +kernel
theorem dX2_reachedBy_60 : decode cX2_reachedBy 60 = .ok (.getfield 56, 3) := by decide +kernel
theorem dX2_reachedBy_63 : decode cX2_reachedBy 63 = .ok (.getfield 62, 3) := by decide +kernel
theorem dX2_reachedBy_66 : decode cX2_reachedBy 66 = .ok (.if_icmp .ge 31, 3) := by decide +kernel
theorem dX2_reachedBy_69 : decode cX2_reachedBy 69 = .ok (.aload_n 0, 1) := by decide +kernel
theorem dX2_reachedBy_70 : decode cX2_reachedBy 70 = .ok (.getfield 14, 3) := by decide +kernel
theorem dX2_reachedBy_73 : decode cX2_reachedBy 73 = .ok (.iload 5, 2) := by decide +kernel
theorem dX2_reachedBy_75 : decode cX2_reachedBy 75 = .ok (.invokestatic 105, 3) := by decide +kernel
theorem dX2_reachedBy_78 : decode cX2_reachedBy 78 = .ok (.iload_n 3, 1) := by decide +kernel
theorem dX2_reachedBy_79 : decode cX2_reachedBy 79 = .ok (.if_icmp .gt 12, 3) := by decide +kernel
theorem dX2_reachedBy_82 : decode cX2_reachedBy 82 = .ok (.iload 4, 2) := by decide +kernel
theorem dX2_reachedBy_84 : decode cX2_reachedBy 84 = .ok (.iconst 1, 1) := by decide +kernel
theorem dX2_reachedBy_85 : decode cX2_reachedBy 85 = .ok (.iload 5, 2) := by decide +kernel
theorem dX2_reachedBy_87 : decode cX2_reachedBy 87 = .ok (.ishl, 1) := by decide +kernel
theorem dX2_reachedBy_88 : decode cX2_reachedBy 88 = .ok (.ior, 1) := by decide +kernel
theorem dX2_reachedBy_89 : decode cX2_reachedBy 89 = .ok (.istore 4, 2) := by decide +kernel
theorem dX2_reachedBy_91 : decode cX2_reachedBy 91 = .ok (.iinc 5 1, 3) := by decide +kernel
theorem dX2_reachedBy_94 : decode cX2_reachedBy 94 = .ok (.goto (-37), 3) := by decide +kernel
theorem dX2_reachedBy_97 : decode cX2_reachedBy 97 = .ok (.iload 4, 2) := by decide +kernel
theorem dX2_reachedBy_99 : decode cX2_reachedBy 99 = .ok (.ireturn, 1) := by decide +kernel
def f_X2_reachedBy_91 (v1 : XM) (k57 : XM → Int32 → Int32 → Int32 → Option (Int32 × XM)) (w0 : XM) (l3 : Int32) (l4 : Int32) (l5 : Int32) : Option (Int32 × XM) :=
  k57 w0 l3 l4 (l5 + 1)
def f_X2_reachedBy_57 (v1 : XM) (k57 : XM → Int32 → Int32 → Int32 → Option (Int32 × XM)) (w0 : XM) (l3 : Int32) (l4 : Int32) (l5 : Int32) : Option (Int32 × XM) :=
  if ((v1.1 1 0) : Int32) ≤ l5 then
  (some (l4, w0))
  else (x_lt (f_X2_hoursTo (x_sub w0 1) l5) (fun y1 =>
  if (l3 : Int32) < y1 then
  (f_X2_reachedBy_91 v1 k57 w0 l3 l4 l5)
  else (x_lt (l4 ||| ((1 : Int32) <<< (l5 &&& 31))) (fun y2 =>
  f_X2_reachedBy_91 v1 k57 w0 l3 y2 l5))))
def f_X2_reachedBy (v0 : XM) (v1 : XM) (x1 : Int32) : Option (Int32 × XM) :=
  x_lt (r_get 5 (x_sub v1 18) x1) (fun y3 =>
  x_lt (r_get 5 (x_sub v1 14) x1) (fun y4 =>
  x_bo (f_X2_spread (x_sub v0 0) v1 (x_sub v0 1) y3 y4) (fun y5 =>
  x_lt (x_put v0 1 2 y5) (fun m6 =>
  x_lt (r_get 5 (x_sub v1 24) x1) (fun y7 =>
  x_lp (φ := XM → Int32 → Int32 → Int32 → Option (Int32 × XM)) (fun _ _ _ _ => none) (f_X2_reachedBy_57 v1 ) x_NN m6 ((v1.1 1 4) - y7) (0 : Int32) (0 : Int32))))))
set_option maxRecDepth 100000 in
set_option maxHeartbeats 4000000 in
theorem w_X2_reachedBy_91 {p : Program} {l : Launch} {e : Env} {s : State} {m : MethodId} {args : Array Value} {below : List Frame} {meth : Method} {c : Code} {D : va_G} {tc : Nat → ClassId} {aK aV : Nat → Nat} {A : Nat → Prop} {ad0 : Nat → Nat} {ad1 : Nat → Nat} {v1 : XM} (X : Cx p s m args meth c cX2_reachedBy 6 (some .int) RX2 D tc aK aV A [(shRoads, ad0), (shWorld, ad1)])  {o : Int32 × XM} {k57 : XM → Int32 → Int32 → Int32 → Option (Int32 × XM)} (hk57 : ∀ (w0 : XM) (l3 : Int32) (l4 : Int32) (l5 : Int32), k57 w0 l3 l4 l5 = some o → aW p l e (x_Rm 5) s m args below meth c D tc A 6 [(shRoads, ad0), (shWorld, ad1)] (some (.int o.1)) True [o.2, v1] 57 [(0, .ref (ad0 0)), (1, .ref (ad1 0)), (3, .int l3), (4, .int l4), (5, .int l5)] [] [w0, v1]) {w0 : XM} {l3 : Int32} {l4 : Int32} {l5 : Int32}  (h : f_X2_reachedBy_91 v1 k57 w0 l3 l4 l5 = some o) : aW p l e (x_Rm 5) s m args below meth c D tc A 6 [(shRoads, ad0), (shWorld, ad1)] (some (.int o.1)) True [o.2, v1] 91 [(0, .ref (ad0 0)), (1, .ref (ad1 0)), (3, .int l3), (4, .int l4), (5, .int l5)] [] [w0, v1] := by
  unfold f_X2_reachedBy_91 at h
  refine a_iinc (pc := 91) X 4 [(5, .int (l5 + 1)), (0, .ref (ad0 0)), (1, .ref (ad1 0)), (3, .int l3), (4, .int l4)] dX2_reachedBy_91 rfl (congrArg (HAdd.hAdd l5) q_ic_1) (by decide) rfl ?_
  refine a_goto (pc := 94) X 57 dX2_reachedBy_94 rfl ?_
  refine a_sub [1, 2, 3, 4, 0] rfl ?_
  exact hk57 _ _ _ _ h
set_option maxRecDepth 100000 in
set_option maxHeartbeats 4000000 in
theorem w_X2_reachedBy_57 {p : Program} {l : Launch} {e : Env} {s : State} {m : MethodId} {args : Array Value} {below : List Frame} {meth : Method} {c : Code} {D : va_G} {tc : Nat → ClassId} {aK aV : Nat → Nat} {A : Nat → Prop} {ad0 : Nat → Nat} {ad1 : Nat → Nat} {v1 : XM} (X : Cx p s m args meth c cX2_reachedBy 6 (some .int) RX2 D tc aK aV A [(shRoads, ad0), (shWorld, ad1)])  {o : Int32 × XM}  : ∀ (n : Nat), ∀ (w0 : XM) (l3 : Int32) (l4 : Int32) (l5 : Int32), x_lp (φ := XM → Int32 → Int32 → Int32 → Option (Int32 × XM)) (fun _ _ _ _ => none) (f_X2_reachedBy_57 v1 ) n w0 l3 l4 l5 = some o → aW p l e (x_Rm 5) s m args below meth c D tc A 6 [(shRoads, ad0), (shWorld, ad1)] (some (.int o.1)) True [o.2, v1] 57 [(0, .ref (ad0 0)), (1, .ref (ad1 0)), (3, .int l3), (4, .int l4), (5, .int l5)] [] [w0, v1] := by
  intro n
  induction n with
  | zero => intro w0 l3 l4 l5 h; exact absurd h (fun q => by cases q)
  | succ n ih =>
    intro w0 l3 l4 l5 h
    have h : f_X2_reachedBy_57 v1  (x_lp (φ := XM → Int32 → Int32 → Int32 → Option (Int32 × XM)) (fun _ _ _ _ => none) (f_X2_reachedBy_57 v1 ) n) w0 l3 l4 l5 = some o := h
    generalize x_lp (φ := XM → Int32 → Int32 → Int32 → Option (Int32 × XM)) (fun _ _ _ _ => none) (f_X2_reachedBy_57 v1 ) n = k57 at h ih
    have hk57 := ih
    unfold f_X2_reachedBy_57 at h
    refine a_iload (pc := 57) X 4 dX2_reachedBy_57 rfl ?_
    refine a_aload_n (pc := 59) X 1 dX2_reachedBy_59 rfl rfl ?_
    refine a_getR (pc := 60) X 1 1 1 fl_RX2_56 rfl rfl rfl rfl rfl dX2_reachedBy_60 ?_
    refine a_getI (pc := 63) X 1 fl_RX2_62 rfl rfl rfl rfl dX2_reachedBy_63 ?_
    refine a_icmp_ge (pc := 66) X 97 dX2_reachedBy_66 rfl (fun c_66 => ?_) (fun c_66 => ?_)
    · have h := x_ifp c_66 h
      refine a_iload (pc := 97) X 3 dX2_reachedBy_97 rfl ?_
      have h := Option.some.inj h; subst h
      exact a_iret (pc := 99) X trivial dX2_reachedBy_99
    · have h := x_ifn c_66 h
      refine a_aload_n (pc := 69) X 0 dX2_reachedBy_69 rfl rfl ?_
      refine a_getR (pc := 70) X 0 1 1 fl_RX2_14 rfl rfl rfl rfl rfl dX2_reachedBy_70 ?_
      refine a_iload (pc := 73) X 4 dX2_reachedBy_73 rfl ?_
      obtain ⟨y1, e_y1, h⟩ := x_lt_elim h
      refine a_callS (pc := 75) (st2 := [.int y1]) (vs2 := [w0, v1]) X [(0, 1, 2)] [none] [.ref (ad0 1), .int l5] [] cv_RX2_105 (c_X2_hoursTo (ad0 := (fun i => ad0 (i + 1)))  e_y1) rfl rfl rfl rfl rfl rfl rfl rfl rfl rfl rfl (Nat.le_of_ble_eq_true rfl) ⟨Nat.le_of_ble_eq_true rfl, Nat.le_of_ble_eq_true rfl⟩ dX2_reachedBy_75 (fun _ => ?_)
      refine a_iload_n (pc := 78) X 2 dX2_reachedBy_78 rfl rfl ?_
      refine a_icmp_gt (pc := 79) X 91 dX2_reachedBy_79 rfl (fun c_79 => ?_) (fun c_79 => ?_)
      · have h := x_ifp c_79 h
        exact w_X2_reachedBy_91 X   hk57  h
      · have h := x_ifn c_79 h
        refine a_iload (pc := 82) X 3 dX2_reachedBy_82 rfl ?_
        refine a_iconst (pc := 84) X dX2_reachedBy_84 q_ic_1 ?_
        refine a_iload (pc := 85) X 4 dX2_reachedBy_85 rfl ?_
        refine a_ishl (pc := 87) X dX2_reachedBy_87 ?_
        refine a_ior (pc := 88) X dX2_reachedBy_88 ?_
        obtain ⟨y2, e_y2, h⟩ := x_lt_elim h
        refine a_ni e_y2 ?_
        refine a_istore (pc := 89) X [(4, .int y2), (0, .ref (ad0 0)), (1, .ref (ad1 0)), (3, .int l3), (5, .int l5)] dX2_reachedBy_89 (by decide) rfl ?_
        refine a_sub [1, 2, 3, 0, 4] rfl ?_
        exact w_X2_reachedBy_91 X   hk57  h
set_option maxRecDepth 100000 in
set_option maxHeartbeats 4000000 in
theorem c_X2_reachedBy {l : Launch}  {ad0 : Nat → Nat} {ad1 : Nat → Nat} {v0 v1 : XM} {x1 : Int32}  {o : Int32 × XM} (h : f_X2_reachedBy v0 v1 x1 = some o) : CT l yX2_reachedBy cX2_reachedBy 6 (some .int) 5 [(shRoads, ad0), (shWorld, ad1)] [v0, v1] (fun aK => [.ref (ad0 0), .ref (ad1 0), .int x1]) (some (.int o.1)) True [o.2, v1] := by
  refine CT_of (by decide) (fun _ => Nat.le_of_ble_eq_true rfl) ?_
  intro p e s m args below meth c D tc aK aV A X
  have X : Cx p s m args meth c cX2_reachedBy 6 (some .int) RX2 D tc aK aV A [(shRoads, ad0), (shWorld, ad1)] := X
  show aW p l e (x_Rm 5) s m args below meth c D tc A 6 [(shRoads, ad0), (shWorld, ad1)] (some (.int o.1)) True [o.2, v1] 0 [(0, .ref (ad0 0)), (1, .ref (ad1 0)), (2, .int x1)] [] [v0, v1]
  unfold f_X2_reachedBy at h
  refine a_aload_n (pc := 0) X 0 dX2_reachedBy_0 rfl rfl ?_
  refine a_aload_n (pc := 1) X 1 dX2_reachedBy_1 rfl rfl ?_
  refine a_aload_n (pc := 2) X 1 dX2_reachedBy_2 rfl rfl ?_
  refine a_getR (pc := 3) X 1 17 17 fl_RX2_70 rfl rfl rfl rfl rfl dX2_reachedBy_3 ?_
  refine a_getR (pc := 6) X 1 1 18 fl_RX2_109 rfl rfl rfl rfl rfl dX2_reachedBy_6 ?_
  refine a_iload_n (pc := 9) X 2 dX2_reachedBy_9 rfl rfl ?_
  obtain ⟨y3, e_y3, h⟩ := x_lt_elim h
  refine a_callV (pc := 10) (st2 := [.int y3, .ref (ad1 0), .ref (ad0 0)]) (vs2 := [v0, v1]) X [(1, 18, 2)] [none] 1 18 3 [.int x1] [.ref (ad1 0), .ref (ad0 0)] cv_RX2_79 (ct_get (ad0 := (fun i => ad1 (i + 18))) (by decide) e_y3) rfl rfl rfl rfl rfl rfl rfl rfl rfl rfl rfl rfl rfl rfl rfl (Nat.le_of_ble_eq_true rfl) ⟨Nat.le_of_ble_eq_true rfl, Nat.le_of_ble_eq_true rfl⟩ dX2_reachedBy_10 (fun _ => ?_)
  refine a_aload_n (pc := 13) X 1 dX2_reachedBy_13 rfl rfl ?_
  refine a_getR (pc := 14) X 1 1 1 fl_RX2_56 rfl rfl rfl rfl rfl dX2_reachedBy_14 ?_
  refine a_getR (pc := 17) X 1 13 14 fl_RX2_112 rfl rfl rfl rfl rfl dX2_reachedBy_17 ?_
  refine a_iload_n (pc := 20) X 2 dX2_reachedBy_20 rfl rfl ?_
  obtain ⟨y4, e_y4, h⟩ := x_lt_elim h
  refine a_callV (pc := 21) (st2 := [.int y4, .int y3, .ref (ad1 0), .ref (ad0 0)]) (vs2 := [v0, v1]) X [(1, 14, 2)] [none] 1 14 3 [.int x1] [.int y3, .ref (ad1 0), .ref (ad0 0)] cv_RX2_79 (ct_get (ad0 := (fun i => ad1 (i + 14))) (by decide) e_y4) rfl rfl rfl rfl rfl rfl rfl rfl rfl rfl rfl rfl rfl rfl rfl (Nat.le_of_ble_eq_true rfl) ⟨Nat.le_of_ble_eq_true rfl, Nat.le_of_ble_eq_true rfl⟩ dX2_reachedBy_21 (fun _ => ?_)
  refine a_aload_n (pc := 24) X 0 dX2_reachedBy_24 rfl rfl ?_
  refine a_getR (pc := 25) X 0 1 1 fl_RX2_14 rfl rfl rfl rfl rfl dX2_reachedBy_25 ?_
  obtain ⟨y5, e_y5, h⟩ := x_bo_elim h
  refine a_callV (pc := 28) (st2 := []) (vs2 := [x_put v0 1 2 y5, v1]) X [(0, 0, 0), (1, 0, 32), (0, 1, 2)] [none, none, some y5] 0 0 2 [.ref (ad1 0), .int y3, .int y4, .ref (ad0 1)] [] cv_RX2_101 (c_X2_spread (ad0 := (fun i => ad0 (i + 0))) (ad1 := ad1) (ad2 := (fun i => ad0 (i + 1)))  e_y5) rfl rfl rfl rfl rfl rfl rfl rfl rfl rfl rfl rfl rfl rfl rfl (Nat.le_of_ble_eq_true rfl) ⟨Nat.le_of_ble_eq_true rfl, Nat.le_of_ble_eq_true rfl⟩ dX2_reachedBy_28 (fun _ => ?_)
  obtain ⟨m6, e_m6, h⟩ := x_lt_elim h
  refine a_nm (vs2 := [m6, v1]) (congrArg (fun q : XM => [q, v1]) e_m6) ?_
  refine a_aload_n (pc := 31) X 1 dX2_reachedBy_31 rfl rfl ?_
  refine a_getR (pc := 32) X 1 1 1 fl_RX2_56 rfl rfl rfl rfl rfl dX2_reachedBy_32 ?_
  refine a_getI (pc := 35) X 1 fl_RX2_115 rfl rfl rfl rfl dX2_reachedBy_35 ?_
  refine a_aload_n (pc := 38) X 1 dX2_reachedBy_38 rfl rfl ?_
  refine a_getR (pc := 39) X 1 17 17 fl_RX2_70 rfl rfl rfl rfl rfl dX2_reachedBy_39 ?_
  refine a_getR (pc := 42) X 1 7 24 fl_RX2_118 rfl rfl rfl rfl rfl dX2_reachedBy_42 ?_
  refine a_iload_n (pc := 45) X 2 dX2_reachedBy_45 rfl rfl ?_
  obtain ⟨y7, e_y7, h⟩ := x_lt_elim h
  refine a_callV (pc := 46) (st2 := [.int y7, .int (v1.1 1 4)]) (vs2 := [m6, v1]) X [(1, 24, 2)] [none] 1 24 3 [.int x1] [.int (v1.1 1 4)] cv_RX2_79 (ct_get (ad0 := (fun i => ad1 (i + 24))) (by decide) e_y7) rfl rfl rfl rfl rfl rfl rfl rfl rfl rfl rfl rfl rfl rfl rfl (Nat.le_of_ble_eq_true rfl) ⟨Nat.le_of_ble_eq_true rfl, Nat.le_of_ble_eq_true rfl⟩ dX2_reachedBy_46 (fun _ => ?_)
  refine a_isub (pc := 49) X dX2_reachedBy_49 ?_
  refine a_istore_n (pc := 50) X [(3, .int ((v1.1 1 4) - y7)), (0, .ref (ad0 0)), (1, .ref (ad1 0)), (2, .int x1)] dX2_reachedBy_50 rfl (by decide) rfl ?_
  refine a_iconst (pc := 51) X dX2_reachedBy_51 q_ic_0 ?_
  refine a_istore (pc := 52) X [(4, .int (0 : Int32)), (3, .int ((v1.1 1 4) - y7)), (0, .ref (ad0 0)), (1, .ref (ad1 0)), (2, .int x1)] dX2_reachedBy_52 (by decide) rfl ?_
  refine a_iconst (pc := 54) X dX2_reachedBy_54 q_ic_0 ?_
  refine a_istore (pc := 55) X [(5, .int (0 : Int32)), (4, .int (0 : Int32)), (3, .int ((v1.1 1 4) - y7)), (0, .ref (ad0 0)), (1, .ref (ad1 0)), (2, .int x1)] dX2_reachedBy_55 (by decide) rfl ?_
  refine a_sub [3, 4, 2, 1, 0] rfl ?_
  exact w_X2_reachedBy_57 X    x_NN _ _ _ _ h
theorem dX2_lostWalkers_0 : decode cX2_lostWalkers 0 = .ok (.iconst 0, 1) := by decide +kernel
theorem dX2_lostWalkers_1 : decode cX2_lostWalkers 1 = .ok (.istore_n 2, 1) := by decide +kernel
theorem dX2_lostWalkers_2 : decode cX2_lostWalkers 2 = .ok (.iconst 0, 1) := by decide +kernel
theorem dX2_lostWalkers_3 : decode cX2_lostWalkers 3 = .ok (.istore_n 3, 1) := by decide +kernel
theorem dX2_lostWalkers_4 : decode cX2_lostWalkers 4 = .ok (.iload_n 3, 1) := by decide +kernel
theorem dX2_lostWalkers_5 : decode cX2_lostWalkers 5 = .ok (.aload_n 1, 1) := by decide +kernel
theorem dX2_lostWalkers_6 : decode cX2_lostWalkers 6 = .ok (.getfield 56, 3) := by decide +kernel
theorem dX2_lostWalkers_9 : decode cX2_lostWalkers 9 = .ok (.getfield 121, 3) := by decide +kernel
theorem dX2_lostWalkers_12 : decode cX2_lostWalkers 12 = .ok (.if_icmp .ge 40, 3) := by decide +kernel
theorem dX2_lostWalkers_15 : decode cX2_lostWalkers 15 = .ok (.aload_n 1, 1) := by decide +kernel
theorem dX2_lostWalkers_16 : decode cX2_lostWalkers 16 = .ok (.iload_n 3, 1) := by decide +kernel
theorem dX2_lostWalkers_17 : decode cX2_lostWalkers 17 = .ok (.invokevirtual 124, 3) := by decide +kernel
theorem dX2_lostWalkers_20 : decode cX2_lostWalkers 20 = .ok (.ifCond .ne 26, 3) := by decide +kernel
theorem dX2_lostWalkers_23 : decode cX2_lostWalkers 23 = .ok (.aload_n 0, 1) := by decide +kernel
theorem dX2_lostWalkers_24 : decode cX2_lostWalkers 24 = .ok (.aload_n 1, 1) := by decide +kernel
theorem dX2_lostWalkers_25 : decode cX2_lostWalkers 25 = .ok (.iload_n 3, 1) := by decide +kernel
theorem dX2_lostWalkers_26 : decode cX2_lostWalkers 26 = .ok (.invokevirtual 128, 3) := by decide +kernel
theorem dX2_lostWalkers_29 : decode cX2_lostWalkers 29 = .ok (.aload_n 1, 1) := by decide +kernel
theorem dX2_lostWalkers_30 : decode cX2_lostWalkers 30 = .ok (.getfield 56, 3) := by decide +kernel
theorem dX2_lostWalkers_33 : decode cX2_lostWalkers 33 = .ok (.getfield 132, 3) := by decide +kernel
theorem dX2_lostWalkers_36 : decode cX2_lostWalkers 36 = .ok (.iand, 1) := by decide +kernel
theorem dX2_lostWalkers_37 : decode cX2_lostWalkers 37 = .ok (.ifCond .ne 9, 3) := by decide +kernel
theorem dX2_lostWalkers_40 : decode cX2_lostWalkers 40 = .ok (.iload_n 2, 1) := by decide +kernel
theorem dX2_lostWalkers_41 : decode cX2_lostWalkers 41 = .ok (.iconst 1, 1) := by decide +kernel
theorem dX2_lostWalkers_42 : decode cX2_lostWalkers 42 = .ok (.iload_n 3, 1) := by decide +kernel
theorem dX2_lostWalkers_43 : decode cX2_lostWalkers 43 = .ok (.ishl, 1) := by decide +kernel
theorem dX2_lostWalkers_44 : decode cX2_lostWalkers 44 = .ok (.ior, 1) := by decide +kernel
theorem dX2_lostWalkers_45 : decode cX2_lostWalkers 45 = .ok (.istore_n 2, 1) := by decide +kernel
theorem dX2_lostWalkers_46 : decode cX2_lostWalkers 46 = .ok (.iinc 3 1, 3) := by decide +kernel
theorem dX2_lostWalkers_49 : decode cX2_lostWalkers 49 = .ok (.goto (-45), 3) := by decide +kernel
theorem dX2_lostWalkers_52 : decode cX2_lostWalkers 52 = .ok (.iload_n 2, 1) := by decide +kernel
theorem dX2_lostWalkers_53 : decode cX2_lostWalkers 53 = .ok (.ireturn, 1) := by decide +kernel
def f_X2_lostWalkers_46 (v1 : XM) (k4 : XM → Int32 → Int32 → Option (Int32 × XM)) (w0 : XM) (l2 : Int32) (l3 : Int32) : Option (Int32 × XM) :=
  k4 w0 l2 (l3 + 1)
def f_X2_lostWalkers_4 (v1 : XM) (k4 : XM → Int32 → Int32 → Option (Int32 × XM)) (w0 : XM) (l2 : Int32) (l3 : Int32) : Option (Int32 × XM) :=
  if ((v1.1 1 3) : Int32) ≤ l3 then
  (some (l2, w0))
  else (x_lt (f_X10_isGoing v1 l3) (fun y1 =>
  if y1 = (0 : Int32) then
  (x_bo (f_X2_reachedBy w0 v1 l3) (fun y2 =>
  if (y2.1 &&& (v1.1 1 5)) = (0 : Int32) then
  (x_lt (l2 ||| ((1 : Int32) <<< (l3 &&& 31))) (fun y3 =>
  f_X2_lostWalkers_46 v1 k4 y2.2 y3 l3))
  else (f_X2_lostWalkers_46 v1 k4 y2.2 l2 l3)))
  else (f_X2_lostWalkers_46 v1 k4 w0 l2 l3)))
def f_X2_lostWalkers (v0 : XM) (v1 : XM) : Option (Int32 × XM) :=
  x_lp (φ := XM → Int32 → Int32 → Option (Int32 × XM)) (fun _ _ _ => none) (f_X2_lostWalkers_4 v1 ) x_NN v0 (0 : Int32) (0 : Int32)
set_option maxRecDepth 100000 in
set_option maxHeartbeats 4000000 in
theorem w_X2_lostWalkers_46 {p : Program} {l : Launch} {e : Env} {s : State} {m : MethodId} {args : Array Value} {below : List Frame} {meth : Method} {c : Code} {D : va_G} {tc : Nat → ClassId} {aK aV : Nat → Nat} {A : Nat → Prop} {ad0 : Nat → Nat} {ad1 : Nat → Nat} {v1 : XM} (X : Cx p s m args meth c cX2_lostWalkers 4 (some .int) RX2 D tc aK aV A [(shRoads, ad0), (shWorld, ad1)])  {o : Int32 × XM} {k4 : XM → Int32 → Int32 → Option (Int32 × XM)} (hk4 : ∀ (w0 : XM) (l2 : Int32) (l3 : Int32), k4 w0 l2 l3 = some o → aW p l e (x_Rm 6) s m args below meth c D tc A 4 [(shRoads, ad0), (shWorld, ad1)] (some (.int o.1)) True [o.2, v1] 4 [(0, .ref (ad0 0)), (1, .ref (ad1 0)), (2, .int l2), (3, .int l3)] [] [w0, v1]) {w0 : XM} {l2 : Int32} {l3 : Int32}  (h : f_X2_lostWalkers_46 v1 k4 w0 l2 l3 = some o) : aW p l e (x_Rm 6) s m args below meth c D tc A 4 [(shRoads, ad0), (shWorld, ad1)] (some (.int o.1)) True [o.2, v1] 46 [(0, .ref (ad0 0)), (1, .ref (ad1 0)), (2, .int l2), (3, .int l3)] [] [w0, v1] := by
  unfold f_X2_lostWalkers_46 at h
  refine a_iinc (pc := 46) X 3 [(3, .int (l3 + 1)), (0, .ref (ad0 0)), (1, .ref (ad1 0)), (2, .int l2)] dX2_lostWalkers_46 rfl (congrArg (HAdd.hAdd l3) q_ic_1) (by decide) rfl ?_
  refine a_goto (pc := 49) X 4 dX2_lostWalkers_49 rfl ?_
  refine a_sub [1, 2, 3, 0] rfl ?_
  exact hk4 _ _ _ h
set_option maxRecDepth 100000 in
set_option maxHeartbeats 4000000 in
theorem w_X2_lostWalkers_4 {p : Program} {l : Launch} {e : Env} {s : State} {m : MethodId} {args : Array Value} {below : List Frame} {meth : Method} {c : Code} {D : va_G} {tc : Nat → ClassId} {aK aV : Nat → Nat} {A : Nat → Prop} {ad0 : Nat → Nat} {ad1 : Nat → Nat} {v1 : XM} (X : Cx p s m args meth c cX2_lostWalkers 4 (some .int) RX2 D tc aK aV A [(shRoads, ad0), (shWorld, ad1)])  {o : Int32 × XM}  : ∀ (n : Nat), ∀ (w0 : XM) (l2 : Int32) (l3 : Int32), x_lp (φ := XM → Int32 → Int32 → Option (Int32 × XM)) (fun _ _ _ => none) (f_X2_lostWalkers_4 v1 ) n w0 l2 l3 = some o → aW p l e (x_Rm 6) s m args below meth c D tc A 4 [(shRoads, ad0), (shWorld, ad1)] (some (.int o.1)) True [o.2, v1] 4 [(0, .ref (ad0 0)), (1, .ref (ad1 0)), (2, .int l2), (3, .int l3)] [] [w0, v1] := by
  intro n
  induction n with
  | zero => intro w0 l2 l3 h; exact absurd h (fun q => by cases q)
  | succ n ih =>
    intro w0 l2 l3 h
    have h : f_X2_lostWalkers_4 v1  (x_lp (φ := XM → Int32 → Int32 → Option (Int32 × XM)) (fun _ _ _ => none) (f_X2_lostWalkers_4 v1 ) n) w0 l2 l3 = some o := h
    generalize x_lp (φ := XM → Int32 → Int32 → Option (Int32 × XM)) (fun _ _ _ => none) (f_X2_lostWalkers_4 v1 ) n = k4 at h ih
    have hk4 := ih
    unfold f_X2_lostWalkers_4 at h
    refine a_iload_n (pc := 4) X 3 dX2_lostWalkers_4 rfl rfl ?_
    refine a_aload_n (pc := 5) X 1 dX2_lostWalkers_5 rfl rfl ?_
    refine a_getR (pc := 6) X 1 1 1 fl_RX2_56 rfl rfl rfl rfl rfl dX2_lostWalkers_6 ?_
    refine a_getI (pc := 9) X 1 fl_RX2_121 rfl rfl rfl rfl dX2_lostWalkers_9 ?_
    refine a_icmp_ge (pc := 12) X 52 dX2_lostWalkers_12 rfl (fun c_12 => ?_) (fun c_12 => ?_)
    · have h := x_ifp c_12 h
      refine a_iload_n (pc := 52) X 2 dX2_lostWalkers_52 rfl rfl ?_
      have h := Option.some.inj h; subst h
      exact a_iret (pc := 53) X trivial dX2_lostWalkers_53
    · have h := x_ifn c_12 h
      refine a_aload_n (pc := 15) X 1 dX2_lostWalkers_15 rfl rfl ?_
      refine a_iload_n (pc := 16) X 3 dX2_lostWalkers_16 rfl rfl ?_
      obtain ⟨y1, e_y1, h⟩ := x_lt_elim h
      refine a_callV (pc := 17) (st2 := [.int y1]) (vs2 := [w0, v1]) X [(1, 0, 32)] [none] 1 0 10 [.int l3] [] cv_RX2_124 (c_X10_isGoing (ad0 := ad1)  e_y1) rfl rfl rfl rfl rfl rfl rfl rfl rfl rfl rfl rfl rfl rfl rfl (Nat.le_of_ble_eq_true rfl) ⟨Nat.le_of_ble_eq_true rfl, Nat.le_of_ble_eq_true rfl⟩ dX2_lostWalkers_17 (fun z_17 => ?_)
      refine a_if_ne (pc := 20) X 46 dX2_lostWalkers_20 rfl (fun c_20 => ?_) (fun c_20 => ?_)
      · have h := x_ifn c_20 h
        exact w_X2_lostWalkers_46 X   hk4  h
      · have h := x_ifp c_20 h
        refine a_aload_n (pc := 23) X 0 dX2_lostWalkers_23 rfl rfl ?_
        refine a_aload_n (pc := 24) X 1 dX2_lostWalkers_24 rfl rfl ?_
        refine a_iload_n (pc := 25) X 3 dX2_lostWalkers_25 rfl rfl ?_
        obtain ⟨y2, e_y2, h⟩ := x_bo_elim h
        refine a_callV (pc := 26) (st2 := [.int y2.1]) (vs2 := [y2.2, v1]) X [(0, 0, 15), (1, 0, 32)] [some y2.2, none] 0 0 2 [.ref (ad1 0), .int l3] [] cv_RX2_128 (c_X2_reachedBy (ad0 := ad0) (ad1 := ad1)  e_y2) rfl rfl rfl rfl rfl rfl rfl rfl rfl rfl rfl rfl rfl rfl rfl (Nat.le_of_ble_eq_true rfl) ⟨Nat.le_of_ble_eq_true rfl, Nat.le_of_ble_eq_true rfl⟩ dX2_lostWalkers_26 (fun _ => ?_)
        refine a_aload_n (pc := 29) X 1 dX2_lostWalkers_29 rfl rfl ?_
        refine a_getR (pc := 30) X 1 1 1 fl_RX2_56 rfl rfl rfl rfl rfl dX2_lostWalkers_30 ?_
        refine a_getI (pc := 33) X 1 fl_RX2_132 rfl rfl rfl rfl dX2_lostWalkers_33 ?_
        refine a_iand (pc := 36) X dX2_lostWalkers_36 ?_
        refine a_if_ne (pc := 37) X 46 dX2_lostWalkers_37 rfl (fun c_37 => ?_) (fun c_37 => ?_)
        · have h := x_ifn c_37 h
          exact w_X2_lostWalkers_46 X   hk4  h
        · have h := x_ifp c_37 h
          refine a_iload_n (pc := 40) X 2 dX2_lostWalkers_40 rfl rfl ?_
          refine a_iconst (pc := 41) X dX2_lostWalkers_41 q_ic_1 ?_
          refine a_iload_n (pc := 42) X 3 dX2_lostWalkers_42 rfl rfl ?_
          refine a_ishl (pc := 43) X dX2_lostWalkers_43 ?_
          refine a_ior (pc := 44) X dX2_lostWalkers_44 ?_
          obtain ⟨y3, e_y3, h⟩ := x_lt_elim h
          refine a_ni e_y3 ?_
          refine a_istore_n (pc := 45) X [(2, .int y3), (0, .ref (ad0 0)), (1, .ref (ad1 0)), (3, .int l3)] dX2_lostWalkers_45 rfl (by decide) rfl ?_
          refine a_sub [1, 2, 0, 3] rfl ?_
          exact w_X2_lostWalkers_46 X   hk4  h
set_option maxRecDepth 100000 in
set_option maxHeartbeats 4000000 in
theorem c_X2_lostWalkers {l : Launch}  {ad0 : Nat → Nat} {ad1 : Nat → Nat} {v0 v1 : XM}   {o : Int32 × XM} (h : f_X2_lostWalkers v0 v1 = some o) : CT l yX2_lostWalkers cX2_lostWalkers 4 (some .int) 6 [(shRoads, ad0), (shWorld, ad1)] [v0, v1] (fun aK => [.ref (ad0 0), .ref (ad1 0)]) (some (.int o.1)) True [o.2, v1] := by
  refine CT_of (by decide) (fun _ => Nat.le_of_ble_eq_true rfl) ?_
  intro p e s m args below meth c D tc aK aV A X
  have X : Cx p s m args meth c cX2_lostWalkers 4 (some .int) RX2 D tc aK aV A [(shRoads, ad0), (shWorld, ad1)] := X
  show aW p l e (x_Rm 6) s m args below meth c D tc A 4 [(shRoads, ad0), (shWorld, ad1)] (some (.int o.1)) True [o.2, v1] 0 [(0, .ref (ad0 0)), (1, .ref (ad1 0))] [] [v0, v1]
  unfold f_X2_lostWalkers at h
  refine a_iconst (pc := 0) X dX2_lostWalkers_0 q_ic_0 ?_
  refine a_istore_n (pc := 1) X [(2, .int (0 : Int32)), (0, .ref (ad0 0)), (1, .ref (ad1 0))] dX2_lostWalkers_1 rfl (by decide) rfl ?_
  refine a_iconst (pc := 2) X dX2_lostWalkers_2 q_ic_0 ?_
  refine a_istore_n (pc := 3) X [(3, .int (0 : Int32)), (2, .int (0 : Int32)), (0, .ref (ad0 0)), (1, .ref (ad1 0))] dX2_lostWalkers_3 rfl (by decide) rfl ?_
  refine a_sub [2, 3, 1, 0] rfl ?_
  exact w_X2_lostWalkers_4 X    x_NN _ _ _ h
theorem dX2_firstFoldNearer_0 : decode cX2_firstFoldNearer 0 = .ok (.iconst 0, 1) := by decide +kernel
theorem dX2_firstFoldNearer_1 : decode cX2_firstFoldNearer 1 = .ok (.istore 4, 2) := by decide +kernel
theorem dX2_firstFoldNearer_3 : decode cX2_firstFoldNearer 3 = .ok (.iload 4, 2) := by decide +kernel
theorem dX2_firstFoldNearer_5 : decode cX2_firstFoldNearer 5 = .ok (.aload_n 1, 1) := by decide +kernel
theorem dX2_firstFoldNearer_6 : decode cX2_firstFoldNearer 6 = .ok (.getfield 56, 3) := by decide +kernel
theorem dX2_firstFoldNearer_9 : decode cX2_firstFoldNearer 9 = .ok (.getfield 67, 3) := by decide +kernel
theorem dX2_firstFoldNearer_12 : decode cX2_firstFoldNearer 12 = .ok (.if_icmp .ge 73, 3) := by decide +kernel
theorem dX2_firstFoldNearer_15 : decode cX2_firstFoldNearer 15 = .ok (.aload_n 1, 1) := by decide +kernel
theorem dX2_firstFoldNearer_16 : decode cX2_firstFoldNearer 16 = .ok (.getfield 56, 3) := by decide +kernel
theorem dX2_firstFoldNearer_19 : decode cX2_firstFoldNearer 19 = .ok (.iload 4, 2) := by decide +kernel
theorem dX2_firstFoldNearer_21 : decode cX2_firstFoldNearer 21 = .ok (.iload_n 2, 1) := by decide +kernel
theorem dX2_firstFoldNearer_22 : decode cX2_firstFoldNearer 22 = .ok (.invokevirtual 142, 3) := by decide +kernel
theorem dX2_firstFoldNearer_25 : decode cX2_firstFoldNearer 25 = .ok (.istore 5, 2) := by decide +kernel
theorem dX2_firstFoldNearer_27 : decode cX2_firstFoldNearer 27 = .ok (.iload 5, 2) := by decide +kernel
theorem dX2_firstFoldNearer_29 : decode cX2_firstFoldNearer 29 = .ok (.iconst (-1), 1) := by decide +kernel
theorem dX2_firstFoldNearer_30 : decode cX2_firstFoldNearer 30 = .ok (.if_icmp .eq 49, 3) := by decide +kernel
theorem dX2_firstFoldNearer_33 : decode cX2_firstFoldNearer 33 = .ok (.aload_n 1, 1) := by decide +kernel
theorem dX2_firstFoldNearer_34 : decode cX2_firstFoldNearer 34 = .ok (.getfield 70, 3) := by decide +kernel
theorem dX2_firstFoldNearer_37 : decode cX2_firstFoldNearer 37 = .ok (.getfield 74, 3) := by decide +kernel
theorem dX2_firstFoldNearer_40 : decode cX2_firstFoldNearer 40 = .ok (.iload 4, 2) := by decide +kernel
theorem dX2_firstFoldNearer_42 : decode cX2_firstFoldNearer 42 = .ok (.invokevirtual 79, 3) := by decide +kernel
theorem dX2_firstFoldNearer_45 : decode cX2_firstFoldNearer 45 = .ok (.ifCond .ne 34, 3) := by decide +kernel
theorem dX2_firstFoldNearer_48 : decode cX2_firstFoldNearer 48 = .ok (.aload_n 0, 1) := by decide +kernel
theorem dX2_firstFoldNearer_49 : decode cX2_firstFoldNearer 49 = .ok (.getfield 14, 3) := by decide +kernel
theorem dX2_firstFoldNearer_52 : decode cX2_firstFoldNearer 52 = .ok (.iload 5, 2) := by decide +kernel
theorem dX2_firstFoldNearer_54 : decode cX2_firstFoldNearer 54 = .ok (.invokevirtual 79, 3) := by decide +kernel
theorem dX2_firstFoldNearer_57 : decode cX2_firstFoldNearer 57 = .ok (.aload_n 1, 1) := by decide +kernel
theorem dX2_firstFoldNearer_58 : decode cX2_firstFoldNearer 58 = .ok (.iload 4, 2) := by decide +kernel
theorem dX2_firstFoldNearer_60 : decode cX2_firstFoldNearer 60 = .ok (.iload_n 3, 1) := by decide +kernel
theorem dX2_firstFoldNearer_61 : decode cX2_firstFoldNearer 61 = .ok (.invokestatic 83, 3) := by decide +kernel
theorem dX2_firstFoldNearer_64 : decode cX2_firstFoldNearer 64 = .ok (.iadd, 1) := by decide +kernel
theorem dX2_firstFoldNearer_65 : decode cX2_firstFoldNearer 65 = .ok (.aload_n 0, 1) := by decide +kernel
theorem dX2_firstFoldNearer_66 : decode cX2_firstFoldNearer 66 = .ok (.getfield 14, 3) := by decide +kernel
theorem dX2_firstFoldNearer_69 : decode cX2_firstFoldNearer 69 = .ok (.iload_n 2, 1) := by decide +kernel
theorem dX2_firstFoldNearer_70 : decode cX2_firstFoldNearer 70 = .ok (.invokevirtual 79, 3) := by decide +kernel
theorem dX2_firstFoldNearer_73 : decode cX2_firstFoldNearer 73 = .ok (.if_icmp .ne 6, 3) := by decide +kernel
theorem dX2_firstFoldNearer_76 : decode cX2_firstFoldNearer 76 = .ok (.iload 4, 2) := by decide +kernel
theorem dX2_firstFoldNearer_78 : decode cX2_firstFoldNearer 78 = .ok (.ireturn, 1) := by decide +kernel
theorem dX2_firstFoldNearer_79 : decode cX2_firstFoldNearer 79 = .ok (.iinc 4 1, 3) := by decide +kernel
theorem dX2_firstFoldNearer_82 : decode cX2_firstFoldNearer 82 = .ok (.goto (-79), 3) := by decide +kernel
theorem dX2_firstFoldNearer_85 : decode cX2_firstFoldNearer 85 = .ok (.iconst (-1), 1) := by decide +kernel
theorem dX2_firstFoldNearer_86 : decode cX2_firstFoldNearer 86 = .ok (.ireturn, 1) := by decide +kernel
def f_X2_firstFoldNearer_79 (v0 : XM) (v1 : XM) (k3 : Int32 → Int32 → Int32 → Option (Int32)) (l2 : Int32) (l3 : Int32) (l4 : Int32) : Option (Int32) :=
  k3 l2 l3 (l4 + 1)
def f_X2_firstFoldNearer_3 (v0 : XM) (v1 : XM) (k3 : Int32 → Int32 → Int32 → Option (Int32)) (l2 : Int32) (l3 : Int32) (l4 : Int32) : Option (Int32) :=
  if ((v1.1 1 1) : Int32) ≤ l4 then
  (some ((-1 : Int32) : Int32))
  else (x_lt (f_X9_across (x_sub v1 1) l4 l2) (fun y1 =>
  if (y1 : Int32) = (-1 : Int32) then
  (f_X2_firstFoldNearer_79 v0 v1 k3 l2 l3 l4)
  else (x_lt (r_get 12 (x_sub v1 30) l4) (fun y2 =>
  if y2 = (0 : Int32) then
  (x_lt (r_get 8 (x_sub v0 1) y1) (fun y3 =>
  x_bo (f_X2_costOf v1 l4 l3) (fun y4 =>
  x_lt (r_get 8 (x_sub v0 1) l2) (fun y5 =>
  if ((y3 + y4) : Int32) = y5 then
  (some (l4 : Int32))
  else (f_X2_firstFoldNearer_79 v0 v1 k3 l2 l3 l4)))))
  else (f_X2_firstFoldNearer_79 v0 v1 k3 l2 l3 l4)))))
def f_X2_firstFoldNearer (v0 : XM) (v1 : XM) (x1 : Int32) (x2 : Int32) : Option (Int32) :=
  x_lp (φ := Int32 → Int32 → Int32 → Option (Int32)) (fun _ _ _ => none) (f_X2_firstFoldNearer_3 v0 v1 ) x_NN x1 x2 (0 : Int32)
set_option maxRecDepth 100000 in
set_option maxHeartbeats 4000000 in
theorem w_X2_firstFoldNearer_79 {p : Program} {l : Launch} {e : Env} {s : State} {m : MethodId} {args : Array Value} {below : List Frame} {meth : Method} {c : Code} {D : va_G} {tc : Nat → ClassId} {aK aV : Nat → Nat} {A : Nat → Prop} {ad0 : Nat → Nat} {ad1 : Nat → Nat} {v0 : XM} {v1 : XM} (X : Cx p s m args meth c cX2_firstFoldNearer 6 (some .int) RX2 D tc aK aV A [(shRoads, ad0), (shWorld, ad1)])  {o : Int32} {k3 : Int32 → Int32 → Int32 → Option (Int32)} (hk3 : ∀ (l2 : Int32) (l3 : Int32) (l4 : Int32), k3 l2 l3 l4 = some o → aW p l e (x_Rm 4) s m args below meth c D tc A 6 [(shRoads, ad0), (shWorld, ad1)] (some (.int o)) True [v0, v1] 3 [(0, .ref (ad0 0)), (1, .ref (ad1 0)), (2, .int l2), (3, .int l3), (4, .int l4)] [] [v0, v1]) {l2 : Int32} {l3 : Int32} {l4 : Int32}  (h : f_X2_firstFoldNearer_79 v0 v1 k3 l2 l3 l4 = some o) : aW p l e (x_Rm 4) s m args below meth c D tc A 6 [(shRoads, ad0), (shWorld, ad1)] (some (.int o)) True [v0, v1] 79 [(0, .ref (ad0 0)), (1, .ref (ad1 0)), (2, .int l2), (3, .int l3), (4, .int l4)] [] [v0, v1] := by
  unfold f_X2_firstFoldNearer_79 at h
  refine a_iinc (pc := 79) X 4 [(4, .int (l4 + 1)), (0, .ref (ad0 0)), (1, .ref (ad1 0)), (2, .int l2), (3, .int l3)] dX2_firstFoldNearer_79 rfl (congrArg (HAdd.hAdd l4) q_ic_1) (by decide) rfl ?_
  refine a_goto (pc := 82) X 3 dX2_firstFoldNearer_82 rfl ?_
  refine a_sub [1, 2, 3, 4, 0] rfl ?_
  exact hk3 _ _ _ h
set_option maxRecDepth 100000 in
set_option maxHeartbeats 4000000 in
theorem w_X2_firstFoldNearer_3 {p : Program} {l : Launch} {e : Env} {s : State} {m : MethodId} {args : Array Value} {below : List Frame} {meth : Method} {c : Code} {D : va_G} {tc : Nat → ClassId} {aK aV : Nat → Nat} {A : Nat → Prop} {ad0 : Nat → Nat} {ad1 : Nat → Nat} {v0 : XM} {v1 : XM} (X : Cx p s m args meth c cX2_firstFoldNearer 6 (some .int) RX2 D tc aK aV A [(shRoads, ad0), (shWorld, ad1)])  {o : Int32}  : ∀ (n : Nat), ∀ (l2 : Int32) (l3 : Int32) (l4 : Int32), x_lp (φ := Int32 → Int32 → Int32 → Option (Int32)) (fun _ _ _ => none) (f_X2_firstFoldNearer_3 v0 v1 ) n l2 l3 l4 = some o → aW p l e (x_Rm 4) s m args below meth c D tc A 6 [(shRoads, ad0), (shWorld, ad1)] (some (.int o)) True [v0, v1] 3 [(0, .ref (ad0 0)), (1, .ref (ad1 0)), (2, .int l2), (3, .int l3), (4, .int l4)] [] [v0, v1] := by
  intro n
  induction n with
  | zero => intro l2 l3 l4 h; exact absurd h (fun q => by cases q)
  | succ n ih =>
    intro l2 l3 l4 h
    have h : f_X2_firstFoldNearer_3 v0 v1  (x_lp (φ := Int32 → Int32 → Int32 → Option (Int32)) (fun _ _ _ => none) (f_X2_firstFoldNearer_3 v0 v1 ) n) l2 l3 l4 = some o := h
    generalize x_lp (φ := Int32 → Int32 → Int32 → Option (Int32)) (fun _ _ _ => none) (f_X2_firstFoldNearer_3 v0 v1 ) n = k3 at h ih
    have hk3 := ih
    unfold f_X2_firstFoldNearer_3 at h
    refine a_iload (pc := 3) X 4 dX2_firstFoldNearer_3 rfl ?_
    refine a_aload_n (pc := 5) X 1 dX2_firstFoldNearer_5 rfl rfl ?_
    refine a_getR (pc := 6) X 1 1 1 fl_RX2_56 rfl rfl rfl rfl rfl dX2_firstFoldNearer_6 ?_
    refine a_getI (pc := 9) X 1 fl_RX2_67 rfl rfl rfl rfl dX2_firstFoldNearer_9 ?_
    refine a_icmp_ge (pc := 12) X 85 dX2_firstFoldNearer_12 rfl (fun c_12 => ?_) (fun c_12 => ?_)
    · have h := x_ifp c_12 h
      refine a_iconst (pc := 85) X dX2_firstFoldNearer_85 q_ic_m1 ?_
      have h := Option.some.inj h; subst h
      exact a_iret (pc := 86) X trivial dX2_firstFoldNearer_86
    · have h := x_ifn c_12 h
      refine a_aload_n (pc := 15) X 1 dX2_firstFoldNearer_15 rfl rfl ?_
      refine a_getR (pc := 16) X 1 1 1 fl_RX2_56 rfl rfl rfl rfl rfl dX2_firstFoldNearer_16 ?_
      refine a_iload (pc := 19) X 4 dX2_firstFoldNearer_19 rfl ?_
      refine a_iload_n (pc := 21) X 2 dX2_firstFoldNearer_21 rfl rfl ?_
      obtain ⟨y1, e_y1, h⟩ := x_lt_elim h
      refine a_callV (pc := 22) (st2 := [.int y1]) (vs2 := [v0, v1]) X [(1, 1, 16)] [none] 1 1 9 [.int l4, .int l2] [] cv_RX2_142 (c_X9_across (ad0 := (fun i => ad1 (i + 1)))  e_y1) rfl rfl rfl rfl rfl rfl rfl rfl rfl rfl rfl rfl rfl rfl rfl (Nat.le_of_ble_eq_true rfl) ⟨Nat.le_of_ble_eq_true rfl, Nat.le_of_ble_eq_true rfl⟩ dX2_firstFoldNearer_22 (fun _ => ?_)
      refine a_istore (pc := 25) X [(5, .int y1), (0, .ref (ad0 0)), (1, .ref (ad1 0)), (2, .int l2), (3, .int l3), (4, .int l4)] dX2_firstFoldNearer_25 (by decide) rfl ?_
      refine a_iload (pc := 27) X 0 dX2_firstFoldNearer_27 rfl ?_
      refine a_iconst (pc := 29) X dX2_firstFoldNearer_29 q_ic_m1 ?_
      refine a_icmp_eq (pc := 30) X 79 dX2_firstFoldNearer_30 rfl (fun c_30 => ?_) (fun c_30 => ?_)
      · have h := x_ifp c_30 h
        refine a_sub [1, 2, 3, 4, 5] rfl ?_
        exact w_X2_firstFoldNearer_79 X   hk3  h
      · have h := x_ifn c_30 h
        refine a_aload_n (pc := 33) X 2 dX2_firstFoldNearer_33 rfl rfl ?_
        refine a_getR (pc := 34) X 1 17 17 fl_RX2_70 rfl rfl rfl rfl rfl dX2_firstFoldNearer_34 ?_
        refine a_getR (pc := 37) X 1 13 30 fl_RX2_74 rfl rfl rfl rfl rfl dX2_firstFoldNearer_37 ?_
        refine a_iload (pc := 40) X 5 dX2_firstFoldNearer_40 rfl ?_
        obtain ⟨y2, e_y2, h⟩ := x_lt_elim h
        refine a_callV (pc := 42) (st2 := [.int y2]) (vs2 := [v0, v1]) X [(1, 30, 2)] [none] 1 30 3 [.int l4] [] cv_RX2_79 (ct_get (ad0 := (fun i => ad1 (i + 30))) (by decide) e_y2) rfl rfl rfl rfl rfl rfl rfl rfl rfl rfl rfl rfl rfl rfl rfl (Nat.le_of_ble_eq_true rfl) ⟨Nat.le_of_ble_eq_true rfl, Nat.le_of_ble_eq_true rfl⟩ dX2_firstFoldNearer_42 (fun _ => ?_)
        refine a_if_ne (pc := 45) X 79 dX2_firstFoldNearer_45 rfl (fun c_45 => ?_) (fun c_45 => ?_)
        · have h := x_ifn c_45 h
          refine a_sub [1, 2, 3, 4, 5] rfl ?_
          exact w_X2_firstFoldNearer_79 X   hk3  h
        · have h := x_ifp c_45 h
          refine a_aload_n (pc := 48) X 1 dX2_firstFoldNearer_48 rfl rfl ?_
          refine a_getR (pc := 49) X 0 1 1 fl_RX2_14 rfl rfl rfl rfl rfl dX2_firstFoldNearer_49 ?_
          refine a_iload (pc := 52) X 0 dX2_firstFoldNearer_52 rfl ?_
          obtain ⟨y3, e_y3, h⟩ := x_lt_elim h
          refine a_callV (pc := 54) (st2 := [.int y3]) (vs2 := [v0, v1]) X [(0, 1, 2)] [none] 0 1 3 [.int y1] [] cv_RX2_79 (ct_get (ad0 := (fun i => ad0 (i + 1))) (by decide) e_y3) rfl rfl rfl rfl rfl rfl rfl rfl rfl rfl rfl rfl rfl rfl rfl (Nat.le_of_ble_eq_true rfl) ⟨Nat.le_of_ble_eq_true rfl, Nat.le_of_ble_eq_true rfl⟩ dX2_firstFoldNearer_54 (fun _ => ?_)
          refine a_aload_n (pc := 57) X 2 dX2_firstFoldNearer_57 rfl rfl ?_
          refine a_iload (pc := 58) X 5 dX2_firstFoldNearer_58 rfl ?_
          refine a_iload_n (pc := 60) X 4 dX2_firstFoldNearer_60 rfl rfl ?_
          obtain ⟨y4, e_y4, h⟩ := x_bo_elim h
          refine a_callS (pc := 61) (st2 := [.int y4, .int y3]) (vs2 := [v0, v1]) X [(1, 0, 32)] [none] [.ref (ad1 0), .int l4, .int l3] [.int y3] cv_RX2_83 (c_X2_costOf (ad0 := ad1)  e_y4) rfl rfl rfl rfl rfl rfl rfl rfl rfl rfl rfl (Nat.le_of_ble_eq_true rfl) ⟨Nat.le_of_ble_eq_true rfl, Nat.le_of_ble_eq_true rfl⟩ dX2_firstFoldNearer_61 (fun _ => ?_)
          refine a_iadd (pc := 64) X dX2_firstFoldNearer_64 ?_
          refine a_aload_n (pc := 65) X 1 dX2_firstFoldNearer_65 rfl rfl ?_
          refine a_getR (pc := 66) X 0 1 1 fl_RX2_14 rfl rfl rfl rfl rfl dX2_firstFoldNearer_66 ?_
          refine a_iload_n (pc := 69) X 3 dX2_firstFoldNearer_69 rfl rfl ?_
          obtain ⟨y5, e_y5, h⟩ := x_lt_elim h
          refine a_callV (pc := 70) (st2 := [.int y5, .int (y3 + y4)]) (vs2 := [v0, v1]) X [(0, 1, 2)] [none] 0 1 3 [.int l2] [.int (y3 + y4)] cv_RX2_79 (ct_get (ad0 := (fun i => ad0 (i + 1))) (by decide) e_y5) rfl rfl rfl rfl rfl rfl rfl rfl rfl rfl rfl rfl rfl rfl rfl (Nat.le_of_ble_eq_true rfl) ⟨Nat.le_of_ble_eq_true rfl, Nat.le_of_ble_eq_true rfl⟩ dX2_firstFoldNearer_70 (fun _ => ?_)
          refine a_icmp_ne (pc := 73) X 79 dX2_firstFoldNearer_73 rfl (fun c_73 => ?_) (fun c_73 => ?_)
          · have h := x_ifn c_73 h
            refine a_sub [1, 2, 3, 4, 5] rfl ?_
            exact w_X2_firstFoldNearer_79 X   hk3  h
          · have h := x_ifp c_73 h
            refine a_iload (pc := 76) X 5 dX2_firstFoldNearer_76 rfl ?_
            have h := Option.some.inj h; subst h
            exact a_iret (pc := 78) X trivial dX2_firstFoldNearer_78
set_option maxRecDepth 100000 in
set_option maxHeartbeats 4000000 in
theorem c_X2_firstFoldNearer {l : Launch}  {ad0 : Nat → Nat} {ad1 : Nat → Nat} {v0 v1 : XM} {x1 : Int32} {x2 : Int32}  {o : Int32} (h : f_X2_firstFoldNearer v0 v1 x1 x2 = some o) : CT l yX2_firstFoldNearer cX2_firstFoldNearer 6 (some .int) 4 [(shRoads, ad0), (shWorld, ad1)] [v0, v1] (fun aK => [.ref (ad0 0), .ref (ad1 0), .int x1, .int x2]) (some (.int o)) True [v0, v1] := by
  refine CT_of (by decide) (fun _ => Nat.le_of_ble_eq_true rfl) ?_
  intro p e s m args below meth c D tc aK aV A X
  have X : Cx p s m args meth c cX2_firstFoldNearer 6 (some .int) RX2 D tc aK aV A [(shRoads, ad0), (shWorld, ad1)] := X
  show aW p l e (x_Rm 4) s m args below meth c D tc A 6 [(shRoads, ad0), (shWorld, ad1)] (some (.int o)) True [v0, v1] 0 [(0, .ref (ad0 0)), (1, .ref (ad1 0)), (2, .int x1), (3, .int x2)] [] [v0, v1]
  unfold f_X2_firstFoldNearer at h
  refine a_iconst (pc := 0) X dX2_firstFoldNearer_0 q_ic_0 ?_
  refine a_istore (pc := 1) X [(4, .int (0 : Int32)), (0, .ref (ad0 0)), (1, .ref (ad1 0)), (2, .int x1), (3, .int x2)] dX2_firstFoldNearer_1 (by decide) rfl ?_
  refine a_sub [1, 2, 3, 4, 0] rfl ?_
  exact w_X2_firstFoldNearer_3 X    x_NN _ _ _ h
theorem dX2_findWay_0 : decode cX2_findWay 0 = .ok (.aload_n 1, 1) := by decide +kernel
theorem dX2_findWay_1 : decode cX2_findWay 1 = .ok (.getfield 70, 3) := by decide +kernel
theorem dX2_findWay_4 : decode cX2_findWay 4 = .ok (.getfield 109, 3) := by decide +kernel
theorem dX2_findWay_7 : decode cX2_findWay 7 = .ok (.iload_n 2, 1) := by decide +kernel
theorem dX2_findWay_8 : decode cX2_findWay 8 = .ok (.invokevirtual 79, 3) := by decide +kernel
theorem dX2_findWay_11 : decode cX2_findWay 11 = .ok (.istore 4, 2) := by decide +kernel
theorem dX2_findWay_13 : decode cX2_findWay 13 = .ok (.aload_n 1, 1) := by decide +kernel
theorem dX2_findWay_14 : decode cX2_findWay 14 = .ok (.getfield 56, 3) := by decide +kernel
theorem dX2_findWay_17 : decode cX2_findWay 17 = .ok (.getfield 112, 3) := by decide +kernel
theorem dX2_findWay_20 : decode cX2_findWay 20 = .ok (.iload_n 2, 1) := by decide +kernel
theorem dX2_findWay_21 : decode cX2_findWay 21 = .ok (.invokevirtual 79, 3) := by decide +kernel
theorem dX2_findWay_24 : decode cX2_findWay 24 = .ok (.istore 5, 2) := by decide +kernel
theorem dX2_findWay_26 : decode cX2_findWay 26 = .ok (.aload_n 0, 1) := by decide +kernel
theorem dX2_findWay_27 : decode cX2_findWay 27 = .ok (.aload_n 1, 1) := by decide +kernel
theorem dX2_findWay_28 : decode cX2_findWay 28 = .ok (.iload_n 3, 1) := by decide +kernel
theorem dX2_findWay_29 : decode cX2_findWay 29 = .ok (.iload 5, 2) := by decide +kernel
theorem dX2_findWay_31 : decode cX2_findWay 31 = .ok (.aload_n 0, 1) := by decide +kernel
theorem dX2_findWay_32 : decode cX2_findWay 32 = .ok (.getfield 14, 3) := by decide +kernel
theorem dX2_findWay_35 : decode cX2_findWay 35 = .ok (.invokevirtual 101, 3) := by decide +kernel
theorem dX2_findWay_38 : decode cX2_findWay 38 = .ok (.aload_n 0, 1) := by decide +kernel
theorem dX2_findWay_39 : decode cX2_findWay 39 = .ok (.getfield 14, 3) := by decide +kernel
theorem dX2_findWay_42 : decode cX2_findWay 42 = .ok (.iload 4, 2) := by decide +kernel
theorem dX2_findWay_44 : decode cX2_findWay 44 = .ok (.invokestatic 105, 3) := by decide +kernel
theorem dX2_findWay_47 : decode cX2_findWay 47 = .ok (.istore 6, 2) := by decide +kernel
theorem dX2_findWay_49 : decode cX2_findWay 49 = .ok (.iload 6, 2) := by decide +kernel
theorem dX2_findWay_51 : decode cX2_findWay 51 = .ok (.ldc 135, 2) := by decide +kernel
theorem dX2_findWay_53 : decode cX2_findWay 53 = .ok (.if_icmp .lt 5, 3) := by decide +kernel
theorem dX2_findWay_56 : decode cX2_findWay 56 = .ok (.iconst (-1), 1) := by decide +kernel
theorem dX2_findWay_57 : decode cX2_findWay 57 = .ok (.ireturn, 1) := by decide +kernel
theorem dX2_findWay_58 : decode cX2_findWay 58 = .ok (.aload_n 0, 1) := by decide +kernel
theorem dX2_findWay_59 : decode cX2_findWay 59 = .ok (.iconst 0, 1) := by decide +kernel
theorem dX2_findWay_60 : decode cX2_findWay 60 = .ok (.putfield 136, 3) := by decide +kernel
theorem dX2_findWay_63 : decode cX2_findWay 63 = .ok (.aload_n 0, 1) := by decide +kernel
theorem dX2_findWay_64 : decode cX2_findWay 64 = .ok (.getfield 136, 3) := by decide +kernel
theorem dX2_findWay_67 : decode cX2_findWay 67 = .ok (.bipush 8, 2) := by decide +kernel
theorem dX2_findWay_69 : decode cX2_findWay 69 = .ok (.if_icmp .ge 67, 3) := by decide +kernel
theorem dX2_findWay_72 : decode cX2_findWay 72 = .ok (.iload 4, 2) := by decide +kernel
theorem dX2_findWay_74 : decode cX2_findWay 74 = .ok (.iload_n 3, 1) := by decide +kernel
theorem dX2_findWay_75 : decode cX2_findWay 75 = .ok (.if_icmp .eq 61, 3) := by decide +kernel
theorem dX2_findWay_78 : decode cX2_findWay 78 = .ok (.aload_n 0, 1) := by decide +kernel
theorem dX2_findWay_79 : decode cX2_findWay 79 = .ok (.aload_n 1, 1) := by decide +kernel
theorem dX2_findWay_80 : decode cX2_findWay 80 = .ok (.iload 4, 2) := by decide +kernel
theorem dX2_findWay_82 : decode cX2_findWay 82 = .ok (.iload 5, 2) := by decide +kernel
theorem dX2_findWay_84 : decode cX2_findWay 84 = .ok (.invokevirtual 139, 3) := by decide +kernel
theorem dX2_findWay_87 : decode cX2_findWay 87 = .ok (.istore 7, 2) := by decide +kernel
theorem dX2_findWay_89 : decode cX2_findWay 89 = .ok (.iload 7, 2) := by decide +kernel
theorem dX2_findWay_91 : decode cX2_findWay 91 = .ok (.iconst (-1), 1) := by decide +kernel
theorem dX2_findWay_92 : decode cX2_findWay 92 = .ok (.if_icmp .ne 5, 3) := by decide +kernel
theorem dX2_findWay_95 : decode cX2_findWay 95 = .ok (.iconst (-1), 1) := by decide +kernel
theorem dX2_findWay_96 : decode cX2_findWay 96 = .ok (.ireturn, 1) := by decide +kernel
theorem dX2_findWay_97 : decode cX2_findWay 97 = .ok (.aload_n 0, 1) := by decide +kernel
theorem dX2_findWay_98 : decode cX2_findWay 98 = .ok (.getfield 32, 3) := by decide +kernel
theorem dX2_findWay_101 : decode cX2_findWay 101 = .ok (.aload_n 0, 1) := by decide +kernel
theorem dX2_findWay_102 : decode cX2_findWay 102 = .ok (.getfield 136, 3) := by decide +kernel
theorem dX2_findWay_105 : decode cX2_findWay 105 = .ok (.iload 7, 2) := by decide +kernel
theorem dX2_findWay_107 : decode cX2_findWay 107 = .ok (.invokevirtual 52, 3) := by decide +kernel
theorem dX2_findWay_110 : decode cX2_findWay 110 = .ok (.aload_n 0, 1) := by decide +kernel
theorem dX2_findWay_111 : decode cX2_findWay 111 = .ok (.dup, 1) := by decide +kernel
theorem dX2_findWay_112 : decode cX2_findWay 112 = .ok (.getfield 136, 3) := by decide +kernel
theorem dX2_findWay_115 : decode cX2_findWay 115 = .ok (.iconst 1, 1) := by decide +kernel
theorem dX2_findWay_116 : decode cX2_findWay 116 = .ok (.iadd, 1) := by decide +kernel
theorem dX2_findWay_117 : decode cX2_findWay 117 = .ok (.putfield 136, 3) := by decide +kernel
theorem dX2_findWay_120 : decode cX2_findWay 120 = .ok (.aload_n 1, 1) := by decide +kernel
theorem dX2_findWay_121 : decode cX2_findWay 121 = .ok (.getfield 56, 3) := by decide +kernel
theorem dX2_findWay_124 : decode cX2_findWay 124 = .ok (.iload 7, 2) := by decide +kernel
theorem dX2_findWay_126 : decode cX2_findWay 126 = .ok (.iload 4, 2) := by decide +kernel
theorem dX2_findWay_128 : decode cX2_findWay 128 = .ok (.invokevirtual 142, 3) := by decide +kernel
theorem dX2_findWay_131 : decode cX2_findWay 131 = .ok (.istore 4, 2) := by decide +kernel
theorem dX2_findWay_133 : decode cX2_findWay 133 = .ok (.goto (-70), 3) := by decide +kernel
theorem dX2_findWay_136 : decode cX2_findWay 136 = .ok (.iload 6, 2) := by decide +kernel
theorem dX2_findWay_138 : decode cX2_findWay 138 = .ok (.ireturn, 1) := by decide +kernel
def f_X2_findWay_63 (v1 : XM) (k63 : XM → Int32 → Int32 → Int32 → Int32 → Option (Int32 × XM)) (w0 : XM) (l3 : Int32) (l4 : Int32) (l5 : Int32) (l6 : Int32) : Option (Int32 × XM) :=
  if ((8 : Int32) : Int32) ≤ (w0.1 0 6) then
  (some (l6, w0))
  else (if (l4 : Int32) = l3 then
  (some (l6, w0))
  else (x_bo (f_X2_firstFoldNearer w0 v1 l4 l5) (fun y1 =>
  if (y1 : Int32) = (-1 : Int32) then
  (some ((-1 : Int32), w0))
  else (x_lt (r_put 8 (x_sub w0 11) (w0.1 0 6) y1) (fun y2 =>
  x_lt (x_put w0 11 2 y2) (fun m3 =>
  x_lt (x_si m3 0 6 ((m3.1 0 6) + (1 : Int32))) (fun m4 =>
  x_lt (f_X9_across (x_sub v1 1) y1 l4) (fun y5 =>
  k63 m4 l3 y5 l5 l6))))))))
def f_X2_findWay (v0 : XM) (v1 : XM) (x1 : Int32) (x2 : Int32) : Option (Int32 × XM) :=
  x_lt (r_get 5 (x_sub v1 18) x1) (fun y6 =>
  x_lt (r_get 5 (x_sub v1 14) x1) (fun y7 =>
  x_bo (f_X2_spread (x_sub v0 0) v1 (x_sub v0 1) x2 y7) (fun y8 =>
  x_lt (x_put v0 1 2 y8) (fun m9 =>
  x_lt (f_X2_hoursTo (x_sub m9 1) y6) (fun y10 =>
  if (y10 : Int32) < (65536 : Int32) then
  (x_lt (x_si m9 0 6 (0 : Int32)) (fun m11 =>
  x_lp (φ := XM → Int32 → Int32 → Int32 → Int32 → Option (Int32 × XM)) (fun _ _ _ _ _ => none) (f_X2_findWay_63 v1 ) x_NN m11 x2 y6 y7 y10))
  else (some ((-1 : Int32), m9)))))))
set_option maxRecDepth 100000 in
set_option maxHeartbeats 4000000 in
theorem w_X2_findWay_63 {p : Program} {l : Launch} {e : Env} {s : State} {m : MethodId} {args : Array Value} {below : List Frame} {meth : Method} {c : Code} {D : va_G} {tc : Nat → ClassId} {aK aV : Nat → Nat} {A : Nat → Prop} {ad0 : Nat → Nat} {ad1 : Nat → Nat} {v1 : XM} (X : Cx p s m args meth c cX2_findWay 8 (some .int) RX2 D tc aK aV A [(shRoads, ad0), (shWorld, ad1)])  {o : Int32 × XM}  : ∀ (n : Nat), ∀ (w0 : XM) (l3 : Int32) (l4 : Int32) (l5 : Int32) (l6 : Int32), x_lp (φ := XM → Int32 → Int32 → Int32 → Int32 → Option (Int32 × XM)) (fun _ _ _ _ _ => none) (f_X2_findWay_63 v1 ) n w0 l3 l4 l5 l6 = some o → aW p l e (x_Rm 5) s m args below meth c D tc A 8 [(shRoads, ad0), (shWorld, ad1)] (some (.int o.1)) True [o.2, v1] 63 [(0, .ref (ad0 0)), (1, .ref (ad1 0)), (3, .int l3), (4, .int l4), (5, .int l5), (6, .int l6)] [] [w0, v1] := by
  intro n
  induction n with
  | zero => intro w0 l3 l4 l5 l6 h; exact absurd h (fun q => by cases q)
  | succ n ih =>
    intro w0 l3 l4 l5 l6 h
    have h : f_X2_findWay_63 v1  (x_lp (φ := XM → Int32 → Int32 → Int32 → Int32 → Option (Int32 × XM)) (fun _ _ _ _ _ => none) (f_X2_findWay_63 v1 ) n) w0 l3 l4 l5 l6 = some o := h
    generalize x_lp (φ := XM → Int32 → Int32 → Int32 → Int32 → Option (Int32 × XM)) (fun _ _ _ _ _ => none) (f_X2_findWay_63 v1 ) n = k63 at h ih
    have hk63 := ih
    unfold f_X2_findWay_63 at h
    refine a_aload_n (pc := 63) X 0 dX2_findWay_63 rfl rfl ?_
    refine a_getI (pc := 64) X 0 fl_RX2_136 rfl rfl rfl rfl dX2_findWay_64 ?_
    refine a_bipush (pc := 67) X dX2_findWay_67 q_bp_8 ?_
    refine a_icmp_ge (pc := 69) X 136 dX2_findWay_69 rfl (fun c_69 => ?_) (fun c_69 => ?_)
    · have h := x_ifp c_69 h
      refine a_iload (pc := 136) X 5 dX2_findWay_136 rfl ?_
      have h := Option.some.inj h; subst h
      exact a_iret (pc := 138) X trivial dX2_findWay_138
    · have h := x_ifn c_69 h
      refine a_iload (pc := 72) X 3 dX2_findWay_72 rfl ?_
      refine a_iload_n (pc := 74) X 2 dX2_findWay_74 rfl rfl ?_
      refine a_icmp_eq (pc := 75) X 136 dX2_findWay_75 rfl (fun c_75 => ?_) (fun c_75 => ?_)
      · have h := x_ifp c_75 h
        refine a_iload (pc := 136) X 5 dX2_findWay_136 rfl ?_
        have h := Option.some.inj h; subst h
        exact a_iret (pc := 138) X trivial dX2_findWay_138
      · have h := x_ifn c_75 h
        refine a_aload_n (pc := 78) X 0 dX2_findWay_78 rfl rfl ?_
        refine a_aload_n (pc := 79) X 1 dX2_findWay_79 rfl rfl ?_
        refine a_iload (pc := 80) X 3 dX2_findWay_80 rfl ?_
        refine a_iload (pc := 82) X 4 dX2_findWay_82 rfl ?_
        obtain ⟨y1, e_y1, h⟩ := x_bo_elim h
        refine a_callV (pc := 84) (st2 := [.int y1]) (vs2 := [w0, v1]) X [(0, 0, 15), (1, 0, 32)] [none, none] 0 0 2 [.ref (ad1 0), .int l4, .int l5] [] cv_RX2_139 (c_X2_firstFoldNearer (ad0 := ad0) (ad1 := ad1)  e_y1) rfl rfl rfl rfl rfl rfl rfl rfl rfl rfl rfl rfl rfl rfl rfl (Nat.le_of_ble_eq_true rfl) ⟨Nat.le_of_ble_eq_true rfl, Nat.le_of_ble_eq_true rfl⟩ dX2_findWay_84 (fun _ => ?_)
        refine a_istore (pc := 87) X [(7, .int y1), (0, .ref (ad0 0)), (1, .ref (ad1 0)), (3, .int l3), (4, .int l4), (5, .int l5), (6, .int l6)] dX2_findWay_87 (by decide) rfl ?_
        refine a_iload (pc := 89) X 0 dX2_findWay_89 rfl ?_
        refine a_iconst (pc := 91) X dX2_findWay_91 q_ic_m1 ?_
        refine a_icmp_ne (pc := 92) X 97 dX2_findWay_92 rfl (fun c_92 => ?_) (fun c_92 => ?_)
        · have h := x_ifn c_92 h
          refine a_aload_n (pc := 97) X 1 dX2_findWay_97 rfl rfl ?_
          refine a_getR (pc := 98) X 0 11 11 fl_RX2_32 rfl rfl rfl rfl rfl dX2_findWay_98 ?_
          refine a_aload_n (pc := 101) X 1 dX2_findWay_101 rfl rfl ?_
          refine a_getI (pc := 102) X 0 fl_RX2_136 rfl rfl rfl rfl dX2_findWay_102 ?_
          refine a_iload (pc := 105) X 0 dX2_findWay_105 rfl ?_
          obtain ⟨y2, e_y2, h⟩ := x_lt_elim h
          refine a_callV (pc := 107) (st2 := []) (vs2 := [x_put w0 11 2 y2, v1]) X [(0, 11, 2)] [some y2] 0 11 3 [.int (w0.1 0 6), .int y1] [] cv_RX2_52 (ct_put (ad0 := (fun i => ad0 (i + 11))) (by decide) e_y2) rfl rfl rfl rfl rfl rfl rfl rfl rfl rfl rfl rfl rfl rfl rfl (Nat.le_of_ble_eq_true rfl) ⟨Nat.le_of_ble_eq_true rfl, Nat.le_of_ble_eq_true rfl⟩ dX2_findWay_107 (fun _ => ?_)
          obtain ⟨m3, e_m3, h⟩ := x_lt_elim h
          refine a_nm (vs2 := [m3, v1]) (congrArg (fun q : XM => [q, v1]) e_m3) ?_
          refine a_aload_n (pc := 110) X 1 dX2_findWay_110 rfl rfl ?_
          refine a_dup (pc := 111) X dX2_findWay_111 rfl ?_
          refine a_getI (pc := 112) X 0 fl_RX2_136 rfl rfl rfl rfl dX2_findWay_112 ?_
          refine a_iconst (pc := 115) X dX2_findWay_115 q_ic_1 ?_
          refine a_iadd (pc := 116) X dX2_findWay_116 ?_
          refine a_putI (pc := 117) X 0 fl_RX2_136 rfl rfl rfl rfl dX2_findWay_117 ?_
          obtain ⟨m4, e_m4, h⟩ := x_lt_elim h
          refine a_nm (vs2 := [m4, v1]) (congrArg (fun q : XM => [q, v1]) e_m4) ?_
          refine a_aload_n (pc := 120) X 2 dX2_findWay_120 rfl rfl ?_
          refine a_getR (pc := 121) X 1 1 1 fl_RX2_56 rfl rfl rfl rfl rfl dX2_findWay_121 ?_
          refine a_iload (pc := 124) X 0 dX2_findWay_124 rfl ?_
          refine a_iload (pc := 126) X 4 dX2_findWay_126 rfl ?_
          obtain ⟨y5, e_y5, h⟩ := x_lt_elim h
          refine a_callV (pc := 128) (st2 := [.int y5]) (vs2 := [m4, v1]) X [(1, 1, 16)] [none] 1 1 9 [.int y1, .int l4] [] cv_RX2_142 (c_X9_across (ad0 := (fun i => ad1 (i + 1)))  e_y5) rfl rfl rfl rfl rfl rfl rfl rfl rfl rfl rfl rfl rfl rfl rfl (Nat.le_of_ble_eq_true rfl) ⟨Nat.le_of_ble_eq_true rfl, Nat.le_of_ble_eq_true rfl⟩ dX2_findWay_128 (fun _ => ?_)
          refine a_istore (pc := 131) X [(4, .int y5), (7, .int y1), (0, .ref (ad0 0)), (1, .ref (ad1 0)), (3, .int l3), (5, .int l5), (6, .int l6)] dX2_findWay_131 (by decide) rfl ?_
          refine a_goto (pc := 133) X 63 dX2_findWay_133 rfl ?_
          refine a_sub [2, 3, 4, 0, 5, 6] rfl ?_
          exact hk63 _ _ _ _ _ h
        · have h := x_ifp c_92 h
          refine a_iconst (pc := 95) X dX2_findWay_95 q_ic_m1 ?_
          have h := Option.some.inj h; subst h
          exact a_iret (pc := 96) X trivial dX2_findWay_96
set_option maxRecDepth 100000 in
set_option maxHeartbeats 4000000 in
theorem c_X2_findWay {l : Launch}  {ad0 : Nat → Nat} {ad1 : Nat → Nat} {v0 v1 : XM} {x1 : Int32} {x2 : Int32}  {o : Int32 × XM} (h : f_X2_findWay v0 v1 x1 x2 = some o) : CT l yX2_findWay cX2_findWay 8 (some .int) 5 [(shRoads, ad0), (shWorld, ad1)] [v0, v1] (fun aK => [.ref (ad0 0), .ref (ad1 0), .int x1, .int x2]) (some (.int o.1)) True [o.2, v1] := by
  refine CT_of (by decide) (fun _ => Nat.le_of_ble_eq_true rfl) ?_
  intro p e s m args below meth c D tc aK aV A X
  have X : Cx p s m args meth c cX2_findWay 8 (some .int) RX2 D tc aK aV A [(shRoads, ad0), (shWorld, ad1)] := X
  show aW p l e (x_Rm 5) s m args below meth c D tc A 8 [(shRoads, ad0), (shWorld, ad1)] (some (.int o.1)) True [o.2, v1] 0 [(0, .ref (ad0 0)), (1, .ref (ad1 0)), (2, .int x1), (3, .int x2)] [] [v0, v1]
  unfold f_X2_findWay at h
  refine a_aload_n (pc := 0) X 1 dX2_findWay_0 rfl rfl ?_
  refine a_getR (pc := 1) X 1 17 17 fl_RX2_70 rfl rfl rfl rfl rfl dX2_findWay_1 ?_
  refine a_getR (pc := 4) X 1 1 18 fl_RX2_109 rfl rfl rfl rfl rfl dX2_findWay_4 ?_
  refine a_iload_n (pc := 7) X 2 dX2_findWay_7 rfl rfl ?_
  obtain ⟨y6, e_y6, h⟩ := x_lt_elim h
  refine a_callV (pc := 8) (st2 := [.int y6]) (vs2 := [v0, v1]) X [(1, 18, 2)] [none] 1 18 3 [.int x1] [] cv_RX2_79 (ct_get (ad0 := (fun i => ad1 (i + 18))) (by decide) e_y6) rfl rfl rfl rfl rfl rfl rfl rfl rfl rfl rfl rfl rfl rfl rfl (Nat.le_of_ble_eq_true rfl) ⟨Nat.le_of_ble_eq_true rfl, Nat.le_of_ble_eq_true rfl⟩ dX2_findWay_8 (fun _ => ?_)
  refine a_istore (pc := 11) X [(4, .int y6), (0, .ref (ad0 0)), (1, .ref (ad1 0)), (2, .int x1), (3, .int x2)] dX2_findWay_11 (by decide) rfl ?_
  refine a_aload_n (pc := 13) X 2 dX2_findWay_13 rfl rfl ?_
  refine a_getR (pc := 14) X 1 1 1 fl_RX2_56 rfl rfl rfl rfl rfl dX2_findWay_14 ?_
  refine a_getR (pc := 17) X 1 13 14 fl_RX2_112 rfl rfl rfl rfl rfl dX2_findWay_17 ?_
  refine a_iload_n (pc := 20) X 3 dX2_findWay_20 rfl rfl ?_
  obtain ⟨y7, e_y7, h⟩ := x_lt_elim h
  refine a_callV (pc := 21) (st2 := [.int y7]) (vs2 := [v0, v1]) X [(1, 14, 2)] [none] 1 14 3 [.int x1] [] cv_RX2_79 (ct_get (ad0 := (fun i => ad1 (i + 14))) (by decide) e_y7) rfl rfl rfl rfl rfl rfl rfl rfl rfl rfl rfl rfl rfl rfl rfl (Nat.le_of_ble_eq_true rfl) ⟨Nat.le_of_ble_eq_true rfl, Nat.le_of_ble_eq_true rfl⟩ dX2_findWay_21 (fun _ => ?_)
  refine a_istore (pc := 24) X [(5, .int y7), (4, .int y6), (0, .ref (ad0 0)), (1, .ref (ad1 0)), (2, .int x1), (3, .int x2)] dX2_findWay_24 (by decide) rfl ?_
  refine a_aload_n (pc := 26) X 2 dX2_findWay_26 rfl rfl ?_
  refine a_aload_n (pc := 27) X 3 dX2_findWay_27 rfl rfl ?_
  refine a_iload_n (pc := 28) X 5 dX2_findWay_28 rfl rfl ?_
  refine a_iload (pc := 29) X 0 dX2_findWay_29 rfl ?_
  refine a_aload_n (pc := 31) X 2 dX2_findWay_31 rfl rfl ?_
  refine a_getR (pc := 32) X 0 1 1 fl_RX2_14 rfl rfl rfl rfl rfl dX2_findWay_32 ?_
  obtain ⟨y8, e_y8, h⟩ := x_bo_elim h
  refine a_callV (pc := 35) (st2 := []) (vs2 := [x_put v0 1 2 y8, v1]) X [(0, 0, 0), (1, 0, 32), (0, 1, 2)] [none, none, some y8] 0 0 2 [.ref (ad1 0), .int x2, .int y7, .ref (ad0 1)] [] cv_RX2_101 (c_X2_spread (ad0 := (fun i => ad0 (i + 0))) (ad1 := ad1) (ad2 := (fun i => ad0 (i + 1)))  e_y8) rfl rfl rfl rfl rfl rfl rfl rfl rfl rfl rfl rfl rfl rfl rfl (Nat.le_of_ble_eq_true rfl) ⟨Nat.le_of_ble_eq_true rfl, Nat.le_of_ble_eq_true rfl⟩ dX2_findWay_35 (fun _ => ?_)
  obtain ⟨m9, e_m9, h⟩ := x_lt_elim h
  refine a_nm (vs2 := [m9, v1]) (congrArg (fun q : XM => [q, v1]) e_m9) ?_
  refine a_aload_n (pc := 38) X 2 dX2_findWay_38 rfl rfl ?_
  refine a_getR (pc := 39) X 0 1 1 fl_RX2_14 rfl rfl rfl rfl rfl dX2_findWay_39 ?_
  refine a_iload (pc := 42) X 1 dX2_findWay_42 rfl ?_
  obtain ⟨y10, e_y10, h⟩ := x_lt_elim h
  refine a_callS (pc := 44) (st2 := [.int y10]) (vs2 := [m9, v1]) X [(0, 1, 2)] [none] [.ref (ad0 1), .int y6] [] cv_RX2_105 (c_X2_hoursTo (ad0 := (fun i => ad0 (i + 1)))  e_y10) rfl rfl rfl rfl rfl rfl rfl rfl rfl rfl rfl (Nat.le_of_ble_eq_true rfl) ⟨Nat.le_of_ble_eq_true rfl, Nat.le_of_ble_eq_true rfl⟩ dX2_findWay_44 (fun _ => ?_)
  refine a_istore (pc := 47) X [(6, .int y10), (5, .int y7), (4, .int y6), (0, .ref (ad0 0)), (1, .ref (ad1 0)), (2, .int x1), (3, .int x2)] dX2_findWay_47 (by decide) rfl ?_
  refine a_iload (pc := 49) X 0 dX2_findWay_49 rfl ?_
  refine a_ldc (pc := 51) X kc_RX2_135 dX2_findWay_51 ?_
  refine a_icmp_lt (pc := 53) X 58 dX2_findWay_53 rfl (fun c_53 => ?_) (fun c_53 => ?_)
  · have h := x_ifp c_53 h
    refine a_aload_n (pc := 58) X 3 dX2_findWay_58 rfl rfl ?_
    refine a_iconst (pc := 59) X dX2_findWay_59 q_ic_0 ?_
    refine a_putI (pc := 60) X 0 fl_RX2_136 rfl rfl rfl rfl dX2_findWay_60 ?_
    obtain ⟨m11, e_m11, h⟩ := x_lt_elim h
    refine a_nm (vs2 := [m11, v1]) (congrArg (fun q : XM => [q, v1]) e_m11) ?_
    refine a_sub [3, 4, 6, 2, 1, 0] rfl ?_
    exact w_X2_findWay_63 X    x_NN _ _ _ _ _ h
  · have h := x_ifn c_53 h
    refine a_iconst (pc := 56) X dX2_findWay_56 q_ic_m1 ?_
    have h := Option.some.inj h; subst h
    exact a_iret (pc := 57) X trivial dX2_findWay_57
theorem dX2_hoursByFirst_0 : decode cX2_hoursByFirst 0 = .ok (.aload_n 1, 1) := by decide +kernel
theorem dX2_hoursByFirst_1 : decode cX2_hoursByFirst 1 = .ok (.getfield 166, 3) := by decide +kernel
theorem dX2_hoursByFirst_4 : decode cX2_hoursByFirst 4 = .ok (.iload 4, 2) := by decide +kernel
theorem dX2_hoursByFirst_6 : decode cX2_hoursByFirst 6 = .ok (.invokevirtual 79, 3) := by decide +kernel
theorem dX2_hoursByFirst_9 : decode cX2_hoursByFirst 9 = .ok (.istore 5, 2) := by decide +kernel
theorem dX2_hoursByFirst_11 : decode cX2_hoursByFirst 11 = .ok (.aload_n 0, 1) := by decide +kernel
theorem dX2_hoursByFirst_12 : decode cX2_hoursByFirst 12 = .ok (.iload_n 3, 1) := by decide +kernel
theorem dX2_hoursByFirst_13 : decode cX2_hoursByFirst 13 = .ok (.iload 5, 2) := by decide +kernel
theorem dX2_hoursByFirst_15 : decode cX2_hoursByFirst 15 = .ok (.invokevirtual 174, 3) := by decide +kernel
theorem dX2_hoursByFirst_18 : decode cX2_hoursByFirst 18 = .ok (.aload_n 0, 1) := by decide +kernel
theorem dX2_hoursByFirst_19 : decode cX2_hoursByFirst 19 = .ok (.getfield 26, 3) := by decide +kernel
theorem dX2_hoursByFirst_22 : decode cX2_hoursByFirst 22 = .ok (.iload_n 2, 1) := by decide +kernel
theorem dX2_hoursByFirst_23 : decode cX2_hoursByFirst 23 = .ok (.iconst 1, 1) := by decide +kernel
theorem dX2_hoursByFirst_24 : decode cX2_hoursByFirst 24 = .ok (.iload 4, 2) := by decide +kernel
theorem dX2_hoursByFirst_26 : decode cX2_hoursByFirst 26 = .ok (.ishl, 1) := by decide +kernel
theorem dX2_hoursByFirst_27 : decode cX2_hoursByFirst 27 = .ok (.iconst (-1), 1) := by decide +kernel
theorem dX2_hoursByFirst_28 : decode cX2_hoursByFirst 28 = .ok (.ixor, 1) := by decide +kernel
theorem dX2_hoursByFirst_29 : decode cX2_hoursByFirst 29 = .ok (.iand, 1) := by decide +kernel
theorem dX2_hoursByFirst_30 : decode cX2_hoursByFirst 30 = .ok (.bipush 8, 2) := by decide +kernel
theorem dX2_hoursByFirst_32 : decode cX2_hoursByFirst 32 = .ok (.imul, 1) := by decide +kernel
theorem dX2_hoursByFirst_33 : decode cX2_hoursByFirst 33 = .ok (.iload 5, 2) := by decide +kernel
theorem dX2_hoursByFirst_35 : decode cX2_hoursByFirst 35 = .ok (.iadd, 1) := by decide +kernel
theorem dX2_hoursByFirst_36 : decode cX2_hoursByFirst 36 = .ok (.invokevirtual 79, 3) := by decide +kernel
theorem dX2_hoursByFirst_39 : decode cX2_hoursByFirst 39 = .ok (.iadd, 1) := by decide +kernel
theorem dX2_hoursByFirst_40 : decode cX2_hoursByFirst 40 = .ok (.ireturn, 1) := by decide +kernel
def f_X2_hoursByFirst (v0 : XM) (v1 : XM) (x1 : Int32) (x2 : Int32) (x3 : Int32) : Int32 :=
  x_lt (r_get 6 (x_sub v1 9) x3) (fun y1 =>
  x_lt (f_X2_farFrom v0 x2 y1) (fun y2 =>
  x_lt (((1 : Int32) <<< (x3 &&& 31)) ^^^ (-1 : Int32)) (fun y3 =>
  x_lt (r_get 512 (x_sub v0 7) (((x1 &&& y3) * (8 : Int32)) + y1)) (fun y4 =>
  (y2 + y4 : Int32)))))
set_option maxRecDepth 100000 in
set_option maxHeartbeats 4000000 in
theorem c_X2_hoursByFirst {l : Launch}  {ad0 : Nat → Nat} {ad1 : Nat → Nat} {v0 v1 : XM} {x1 : Int32} {x2 : Int32} {x3 : Int32}  {o : Int32} (h : f_X2_hoursByFirst v0 v1 x1 x2 x3 = o) : CT l yX2_hoursByFirst cX2_hoursByFirst 6 (some .int) 2 [(shRoads, ad0), (shValley, ad1)] [v0, v1] (fun aK => [.ref (ad0 0), .ref (ad1 0), .int x1, .int x2, .int x3]) (some (.int o)) True [v0, v1] := by
  refine CT_of (by decide) (fun _ => Nat.le_of_ble_eq_true rfl) ?_
  intro p e s m args below meth c D tc aK aV A X
  have X : Cx p s m args meth c cX2_hoursByFirst 6 (some .int) RX2 D tc aK aV A [(shRoads, ad0), (shValley, ad1)] := X
  show aW p l e (x_Rm 2) s m args below meth c D tc A 6 [(shRoads, ad0), (shValley, ad1)] (some (.int o)) True [v0, v1] 0 [(0, .ref (ad0 0)), (1, .ref (ad1 0)), (2, .int x1), (3, .int x2), (4, .int x3)] [] [v0, v1]
  unfold f_X2_hoursByFirst at h
  refine a_aload_n (pc := 0) X 1 dX2_hoursByFirst_0 rfl rfl ?_
  refine a_getR (pc := 1) X 1 9 9 fl_RX2_166 rfl rfl rfl rfl rfl dX2_hoursByFirst_1 ?_
  refine a_iload (pc := 4) X 4 dX2_hoursByFirst_4 rfl ?_
  obtain ⟨y1, e_y1, h⟩ := x_lt_elim h
  refine a_callV (pc := 6) (st2 := [.int y1]) (vs2 := [v0, v1]) X [(1, 9, 2)] [none] 1 9 3 [.int x3] [] cv_RX2_79 (ct_get (ad0 := (fun i => ad1 (i + 9))) (by decide) e_y1) rfl rfl rfl rfl rfl rfl rfl rfl rfl rfl rfl rfl rfl rfl rfl (Nat.le_of_ble_eq_true rfl) ⟨Nat.le_of_ble_eq_true rfl, Nat.le_of_ble_eq_true rfl⟩ dX2_hoursByFirst_6 (fun _ => ?_)
  refine a_istore (pc := 9) X [(5, .int y1), (0, .ref (ad0 0)), (1, .ref (ad1 0)), (2, .int x1), (3, .int x2), (4, .int x3)] dX2_hoursByFirst_9 (by decide) rfl ?_
  refine a_aload_n (pc := 11) X 1 dX2_hoursByFirst_11 rfl rfl ?_
  refine a_iload_n (pc := 12) X 4 dX2_hoursByFirst_12 rfl rfl ?_
  refine a_iload (pc := 13) X 0 dX2_hoursByFirst_13 rfl ?_
  obtain ⟨y2, e_y2, h⟩ := x_lt_elim h
  refine a_callV (pc := 15) (st2 := [.int y2]) (vs2 := [v0, v1]) X [(0, 0, 15)] [none] 0 0 2 [.int x2, .int y1] [] cv_RX2_174 (c_X2_farFrom (ad0 := ad0)  e_y2) rfl rfl rfl rfl rfl rfl rfl rfl rfl rfl rfl rfl rfl rfl rfl (Nat.le_of_ble_eq_true rfl) ⟨Nat.le_of_ble_eq_true rfl, Nat.le_of_ble_eq_true rfl⟩ dX2_hoursByFirst_15 (fun _ => ?_)
  refine a_aload_n (pc := 18) X 1 dX2_hoursByFirst_18 rfl rfl ?_
  refine a_getR (pc := 19) X 0 7 7 fl_RX2_26 rfl rfl rfl rfl rfl dX2_hoursByFirst_19 ?_
  refine a_iload_n (pc := 22) X 3 dX2_hoursByFirst_22 rfl rfl ?_
  refine a_iconst (pc := 23) X dX2_hoursByFirst_23 q_ic_1 ?_
  refine a_iload (pc := 24) X 5 dX2_hoursByFirst_24 rfl ?_
  refine a_ishl (pc := 26) X dX2_hoursByFirst_26 ?_
  refine a_iconst (pc := 27) X dX2_hoursByFirst_27 q_ic_m1 ?_
  refine a_ixor (pc := 28) X dX2_hoursByFirst_28 ?_
  obtain ⟨y3, e_y3, h⟩ := x_lt_elim h
  refine a_ni e_y3 ?_
  refine a_iand (pc := 29) X dX2_hoursByFirst_29 ?_
  refine a_bipush (pc := 30) X dX2_hoursByFirst_30 q_bp_8 ?_
  refine a_imul (pc := 32) X dX2_hoursByFirst_32 ?_
  refine a_iload (pc := 33) X 0 dX2_hoursByFirst_33 rfl ?_
  refine a_iadd (pc := 35) X dX2_hoursByFirst_35 ?_
  obtain ⟨y4, e_y4, h⟩ := x_lt_elim h
  refine a_callV (pc := 36) (st2 := [.int y4, .int y2]) (vs2 := [v0, v1]) X [(0, 7, 2)] [none] 0 7 3 [.int (((x1 &&& y3) * (8 : Int32)) + y1)] [.int y2] cv_RX2_79 (ct_get (ad0 := (fun i => ad0 (i + 7))) (by decide) e_y4) rfl rfl rfl rfl rfl rfl rfl rfl rfl rfl rfl rfl rfl rfl rfl (Nat.le_of_ble_eq_true rfl) ⟨Nat.le_of_ble_eq_true rfl, Nat.le_of_ble_eq_true rfl⟩ dX2_hoursByFirst_36 (fun _ => ?_)
  refine a_iadd (pc := 39) X dX2_hoursByFirst_39 ?_
  subst h
  exact a_iret (pc := 40) X trivial dX2_hoursByFirst_40
theorem dX2_firstOf_0 : decode cX2_firstOf 0 = .ok (.iconst 0, 1) := by decide +kernel
theorem dX2_firstOf_1 : decode cX2_firstOf 1 = .ok (.istore 4, 2) := by decide +kernel
theorem dX2_firstOf_3 : decode cX2_firstOf 3 = .ok (.ldc 173, 2) := by decide +kernel
theorem dX2_firstOf_5 : decode cX2_firstOf 5 = .ok (.istore 5, 2) := by decide +kernel
theorem dX2_firstOf_7 : decode cX2_firstOf 7 = .ok (.iconst 0, 1) := by decide +kernel
theorem dX2_firstOf_8 : decode cX2_firstOf 8 = .ok (.istore 6, 2) := by decide +kernel
theorem dX2_firstOf_10 : decode cX2_firstOf 10 = .ok (.iload 6, 2) := by decide +kernel
theorem dX2_firstOf_12 : decode cX2_firstOf 12 = .ok (.aload_n 1, 1) := by decide +kernel
theorem dX2_firstOf_13 : decode cX2_firstOf 13 = .ok (.getfield 145, 3) := by decide +kernel
theorem dX2_firstOf_16 : decode cX2_firstOf 16 = .ok (.if_icmp .ge 45, 3) := by decide +kernel
theorem dX2_firstOf_19 : decode cX2_firstOf 19 = .ok (.iload_n 2, 1) := by decide +kernel
theorem dX2_firstOf_20 : decode cX2_firstOf 20 = .ok (.iload 6, 2) := by decide +kernel
theorem dX2_firstOf_22 : decode cX2_firstOf 22 = .ok (.ishr, 1) := by decide +kernel
theorem dX2_firstOf_23 : decode cX2_firstOf 23 = .ok (.iconst 1, 1) := by decide +kernel
theorem dX2_firstOf_24 : decode cX2_firstOf 24 = .ok (.iand, 1) := by decide +kernel
theorem dX2_firstOf_25 : decode cX2_firstOf 25 = .ok (.iconst 1, 1) := by decide +kernel
theorem dX2_firstOf_26 : decode cX2_firstOf 26 = .ok (.if_icmp .ne 29, 3) := by decide +kernel
theorem dX2_firstOf_29 : decode cX2_firstOf 29 = .ok (.aload_n 0, 1) := by decide +kernel
theorem dX2_firstOf_30 : decode cX2_firstOf 30 = .ok (.aload_n 1, 1) := by decide +kernel
theorem dX2_firstOf_31 : decode cX2_firstOf 31 = .ok (.iload_n 2, 1) := by decide +kernel
theorem dX2_firstOf_32 : decode cX2_firstOf 32 = .ok (.iload_n 3, 1) := by decide +kernel
theorem dX2_firstOf_33 : decode cX2_firstOf 33 = .ok (.iload 6, 2) := by decide +kernel
theorem dX2_firstOf_35 : decode cX2_firstOf 35 = .ok (.invokevirtual 169, 3) := by decide +kernel
theorem dX2_firstOf_38 : decode cX2_firstOf 38 = .ok (.istore 7, 2) := by decide +kernel
theorem dX2_firstOf_40 : decode cX2_firstOf 40 = .ok (.iload 7, 2) := by decide +kernel
theorem dX2_firstOf_42 : decode cX2_firstOf 42 = .ok (.iload 5, 2) := by decide +kernel
theorem dX2_firstOf_44 : decode cX2_firstOf 44 = .ok (.if_icmp .ge 11, 3) := by decide +kernel
theorem dX2_firstOf_47 : decode cX2_firstOf 47 = .ok (.iload 7, 2) := by decide +kernel
theorem dX2_firstOf_49 : decode cX2_firstOf 49 = .ok (.istore 5, 2) := by decide +kernel
theorem dX2_firstOf_51 : decode cX2_firstOf 51 = .ok (.iload 6, 2) := by decide +kernel
theorem dX2_firstOf_53 : decode cX2_firstOf 53 = .ok (.istore 4, 2) := by decide +kernel
theorem dX2_firstOf_55 : decode cX2_firstOf 55 = .ok (.iinc 6 1, 3) := by decide +kernel
theorem dX2_firstOf_58 : decode cX2_firstOf 58 = .ok (.goto (-48), 3) := by decide +kernel
theorem dX2_firstOf_61 : decode cX2_firstOf 61 = .ok (.iload 4, 2) := by decide +kernel
theorem dX2_firstOf_63 : decode cX2_firstOf 63 = .ok (.ireturn, 1) := by decide +kernel
def f_X2_firstOf_55 (v0 : XM) (v1 : XM) (k10 : Int32 → Int32 → Int32 → Int32 → Int32 → Option (Int32)) (l2 : Int32) (l3 : Int32) (l4 : Int32) (l5 : Int32) (l6 : Int32) : Option (Int32) :=
  k10 l2 l3 l4 l5 (l6 + 1)
def f_X2_firstOf_10 (v0 : XM) (v1 : XM) (k10 : Int32 → Int32 → Int32 → Int32 → Int32 → Option (Int32)) (l2 : Int32) (l3 : Int32) (l4 : Int32) (l5 : Int32) (l6 : Int32) : Option (Int32) :=
  if ((v1.1 0 2) : Int32) ≤ l6 then
  (some (l4 : Int32))
  else (if (((l2 >>> (l6 &&& 31)) &&& (1 : Int32)) : Int32) = (1 : Int32) then
  (x_lt (f_X2_hoursByFirst v0 v1 l2 l3 l6) (fun y1 =>
  if (l5 : Int32) ≤ y1 then
  (f_X2_firstOf_55 v0 v1 k10 l2 l3 l4 l5 l6)
  else (f_X2_firstOf_55 v0 v1 k10 l2 l3 l6 y1 l6)))
  else (f_X2_firstOf_55 v0 v1 k10 l2 l3 l4 l5 l6))
def f_X2_firstOf (v0 : XM) (v1 : XM) (x1 : Int32) (x2 : Int32) : Option (Int32) :=
  x_lp (φ := Int32 → Int32 → Int32 → Int32 → Int32 → Option (Int32)) (fun _ _ _ _ _ => none) (f_X2_firstOf_10 v0 v1 ) x_NN x1 x2 (0 : Int32) (458752 : Int32) (0 : Int32)
set_option maxRecDepth 100000 in
set_option maxHeartbeats 4000000 in
theorem w_X2_firstOf_55 {p : Program} {l : Launch} {e : Env} {s : State} {m : MethodId} {args : Array Value} {below : List Frame} {meth : Method} {c : Code} {D : va_G} {tc : Nat → ClassId} {aK aV : Nat → Nat} {A : Nat → Prop} {ad0 : Nat → Nat} {ad1 : Nat → Nat} {v0 : XM} {v1 : XM} (X : Cx p s m args meth c cX2_firstOf 8 (some .int) RX2 D tc aK aV A [(shRoads, ad0), (shValley, ad1)])  {o : Int32} {k10 : Int32 → Int32 → Int32 → Int32 → Int32 → Option (Int32)} (hk10 : ∀ (l2 : Int32) (l3 : Int32) (l4 : Int32) (l5 : Int32) (l6 : Int32), k10 l2 l3 l4 l5 l6 = some o → aW p l e (x_Rm 3) s m args below meth c D tc A 8 [(shRoads, ad0), (shValley, ad1)] (some (.int o)) True [v0, v1] 10 [(0, .ref (ad0 0)), (1, .ref (ad1 0)), (2, .int l2), (3, .int l3), (4, .int l4), (5, .int l5), (6, .int l6)] [] [v0, v1]) {l2 : Int32} {l3 : Int32} {l4 : Int32} {l5 : Int32} {l6 : Int32}  (h : f_X2_firstOf_55 v0 v1 k10 l2 l3 l4 l5 l6 = some o) : aW p l e (x_Rm 3) s m args below meth c D tc A 8 [(shRoads, ad0), (shValley, ad1)] (some (.int o)) True [v0, v1] 55 [(0, .ref (ad0 0)), (1, .ref (ad1 0)), (2, .int l2), (3, .int l3), (4, .int l4), (5, .int l5), (6, .int l6)] [] [v0, v1] := by
  unfold f_X2_firstOf_55 at h
  refine a_iinc (pc := 55) X 6 [(6, .int (l6 + 1)), (0, .ref (ad0 0)), (1, .ref (ad1 0)), (2, .int l2), (3, .int l3), (4, .int l4), (5, .int l5)] dX2_firstOf_55 rfl (congrArg (HAdd.hAdd l6) q_ic_1) (by decide) rfl ?_
  refine a_goto (pc := 58) X 10 dX2_firstOf_58 rfl ?_
  refine a_sub [1, 2, 3, 4, 5, 6, 0] rfl ?_
  exact hk10 _ _ _ _ _ h
set_option maxRecDepth 100000 in
set_option maxHeartbeats 4000000 in
theorem w_X2_firstOf_10 {p : Program} {l : Launch} {e : Env} {s : State} {m : MethodId} {args : Array Value} {below : List Frame} {meth : Method} {c : Code} {D : va_G} {tc : Nat → ClassId} {aK aV : Nat → Nat} {A : Nat → Prop} {ad0 : Nat → Nat} {ad1 : Nat → Nat} {v0 : XM} {v1 : XM} (X : Cx p s m args meth c cX2_firstOf 8 (some .int) RX2 D tc aK aV A [(shRoads, ad0), (shValley, ad1)])  {o : Int32}  : ∀ (n : Nat), ∀ (l2 : Int32) (l3 : Int32) (l4 : Int32) (l5 : Int32) (l6 : Int32), x_lp (φ := Int32 → Int32 → Int32 → Int32 → Int32 → Option (Int32)) (fun _ _ _ _ _ => none) (f_X2_firstOf_10 v0 v1 ) n l2 l3 l4 l5 l6 = some o → aW p l e (x_Rm 3) s m args below meth c D tc A 8 [(shRoads, ad0), (shValley, ad1)] (some (.int o)) True [v0, v1] 10 [(0, .ref (ad0 0)), (1, .ref (ad1 0)), (2, .int l2), (3, .int l3), (4, .int l4), (5, .int l5), (6, .int l6)] [] [v0, v1] := by
  intro n
  induction n with
  | zero => intro l2 l3 l4 l5 l6 h; exact absurd h (fun q => by cases q)
  | succ n ih =>
    intro l2 l3 l4 l5 l6 h
    have h : f_X2_firstOf_10 v0 v1  (x_lp (φ := Int32 → Int32 → Int32 → Int32 → Int32 → Option (Int32)) (fun _ _ _ _ _ => none) (f_X2_firstOf_10 v0 v1 ) n) l2 l3 l4 l5 l6 = some o := h
    generalize x_lp (φ := Int32 → Int32 → Int32 → Int32 → Int32 → Option (Int32)) (fun _ _ _ _ _ => none) (f_X2_firstOf_10 v0 v1 ) n = k10 at h ih
    have hk10 := ih
    unfold f_X2_firstOf_10 at h
    refine a_iload (pc := 10) X 6 dX2_firstOf_10 rfl ?_
    refine a_aload_n (pc := 12) X 1 dX2_firstOf_12 rfl rfl ?_
    refine a_getI (pc := 13) X 1 fl_RX2_145 rfl rfl rfl rfl dX2_firstOf_13 ?_
    refine a_icmp_ge (pc := 16) X 61 dX2_firstOf_16 rfl (fun c_16 => ?_) (fun c_16 => ?_)
    · have h := x_ifp c_16 h
      refine a_iload (pc := 61) X 4 dX2_firstOf_61 rfl ?_
      have h := Option.some.inj h; subst h
      exact a_iret (pc := 63) X trivial dX2_firstOf_63
    · have h := x_ifn c_16 h
      refine a_iload_n (pc := 19) X 2 dX2_firstOf_19 rfl rfl ?_
      refine a_iload (pc := 20) X 6 dX2_firstOf_20 rfl ?_
      refine a_ishr (pc := 22) X dX2_firstOf_22 ?_
      refine a_iconst (pc := 23) X dX2_firstOf_23 q_ic_1 ?_
      refine a_iand (pc := 24) X dX2_firstOf_24 ?_
      refine a_iconst (pc := 25) X dX2_firstOf_25 q_ic_1 ?_
      refine a_icmp_ne (pc := 26) X 55 dX2_firstOf_26 rfl (fun c_26 => ?_) (fun c_26 => ?_)
      · have h := x_ifn c_26 h
        exact w_X2_firstOf_55 X   hk10  h
      · have h := x_ifp c_26 h
        refine a_aload_n (pc := 29) X 0 dX2_firstOf_29 rfl rfl ?_
        refine a_aload_n (pc := 30) X 1 dX2_firstOf_30 rfl rfl ?_
        refine a_iload_n (pc := 31) X 2 dX2_firstOf_31 rfl rfl ?_
        refine a_iload_n (pc := 32) X 3 dX2_firstOf_32 rfl rfl ?_
        refine a_iload (pc := 33) X 6 dX2_firstOf_33 rfl ?_
        obtain ⟨y1, e_y1, h⟩ := x_lt_elim h
        refine a_callV (pc := 35) (st2 := [.int y1]) (vs2 := [v0, v1]) X [(0, 0, 15), (1, 0, 16)] [none, none] 0 0 2 [.ref (ad1 0), .int l2, .int l3, .int l6] [] cv_RX2_169 (c_X2_hoursByFirst (ad0 := ad0) (ad1 := ad1)  e_y1) rfl rfl rfl rfl rfl rfl rfl rfl rfl rfl rfl rfl rfl rfl rfl (Nat.le_of_ble_eq_true rfl) ⟨Nat.le_of_ble_eq_true rfl, Nat.le_of_ble_eq_true rfl⟩ dX2_firstOf_35 (fun _ => ?_)
        refine a_istore (pc := 38) X [(7, .int y1), (0, .ref (ad0 0)), (1, .ref (ad1 0)), (2, .int l2), (3, .int l3), (4, .int l4), (5, .int l5), (6, .int l6)] dX2_firstOf_38 (by decide) rfl ?_
        refine a_iload (pc := 40) X 0 dX2_firstOf_40 rfl ?_
        refine a_iload (pc := 42) X 6 dX2_firstOf_42 rfl ?_
        refine a_icmp_ge (pc := 44) X 55 dX2_firstOf_44 rfl (fun c_44 => ?_) (fun c_44 => ?_)
        · have h := x_ifp c_44 h
          refine a_sub [1, 2, 3, 4, 5, 6, 7] rfl ?_
          exact w_X2_firstOf_55 X   hk10  h
        · have h := x_ifn c_44 h
          refine a_iload (pc := 47) X 0 dX2_firstOf_47 rfl ?_
          refine a_istore (pc := 49) X [(5, .int y1), (7, .int y1), (0, .ref (ad0 0)), (1, .ref (ad1 0)), (2, .int l2), (3, .int l3), (4, .int l4), (6, .int l6)] dX2_firstOf_49 (by decide) rfl ?_
          refine a_iload (pc := 51) X 7 dX2_firstOf_51 rfl ?_
          refine a_istore (pc := 53) X [(4, .int l6), (5, .int y1), (7, .int y1), (0, .ref (ad0 0)), (1, .ref (ad1 0)), (2, .int l2), (3, .int l3), (6, .int l6)] dX2_firstOf_53 (by decide) rfl ?_
          refine a_sub [3, 4, 5, 6, 0, 1, 7] rfl ?_
          exact w_X2_firstOf_55 X   hk10  h
set_option maxRecDepth 100000 in
set_option maxHeartbeats 4000000 in
theorem c_X2_firstOf {l : Launch}  {ad0 : Nat → Nat} {ad1 : Nat → Nat} {v0 v1 : XM} {x1 : Int32} {x2 : Int32}  {o : Int32} (h : f_X2_firstOf v0 v1 x1 x2 = some o) : CT l yX2_firstOf cX2_firstOf 8 (some .int) 3 [(shRoads, ad0), (shValley, ad1)] [v0, v1] (fun aK => [.ref (ad0 0), .ref (ad1 0), .int x1, .int x2]) (some (.int o)) True [v0, v1] := by
  refine CT_of (by decide) (fun _ => Nat.le_of_ble_eq_true rfl) ?_
  intro p e s m args below meth c D tc aK aV A X
  have X : Cx p s m args meth c cX2_firstOf 8 (some .int) RX2 D tc aK aV A [(shRoads, ad0), (shValley, ad1)] := X
  show aW p l e (x_Rm 3) s m args below meth c D tc A 8 [(shRoads, ad0), (shValley, ad1)] (some (.int o)) True [v0, v1] 0 [(0, .ref (ad0 0)), (1, .ref (ad1 0)), (2, .int x1), (3, .int x2)] [] [v0, v1]
  unfold f_X2_firstOf at h
  refine a_iconst (pc := 0) X dX2_firstOf_0 q_ic_0 ?_
  refine a_istore (pc := 1) X [(4, .int (0 : Int32)), (0, .ref (ad0 0)), (1, .ref (ad1 0)), (2, .int x1), (3, .int x2)] dX2_firstOf_1 (by decide) rfl ?_
  refine a_ldc (pc := 3) X kc_RX2_173 dX2_firstOf_3 ?_
  refine a_istore (pc := 5) X [(5, .int (458752 : Int32)), (4, .int (0 : Int32)), (0, .ref (ad0 0)), (1, .ref (ad1 0)), (2, .int x1), (3, .int x2)] dX2_firstOf_5 (by decide) rfl ?_
  refine a_iconst (pc := 7) X dX2_firstOf_7 q_ic_0 ?_
  refine a_istore (pc := 8) X [(6, .int (0 : Int32)), (5, .int (458752 : Int32)), (4, .int (0 : Int32)), (0, .ref (ad0 0)), (1, .ref (ad1 0)), (2, .int x1), (3, .int x2)] dX2_firstOf_8 (by decide) rfl ?_
  refine a_sub [3, 4, 5, 6, 2, 1, 0] rfl ?_
  exact w_X2_firstOf_10 X    x_NN _ _ _ _ _ h
theorem dX2_planOrders_0 : decode cX2_planOrders 0 = .ok (.iconst 1, 1) := by decide +kernel
theorem dX2_planOrders_1 : decode cX2_planOrders 1 = .ok (.istore_n 3, 1) := by decide +kernel
theorem dX2_planOrders_2 : decode cX2_planOrders 2 = .ok (.iload_n 3, 1) := by decide +kernel
theorem dX2_planOrders_3 : decode cX2_planOrders 3 = .ok (.iload_n 2, 1) := by decide +kernel
theorem dX2_planOrders_4 : decode cX2_planOrders 4 = .ok (.if_icmp .gt 69, 3) := by decide +kernel
theorem dX2_planOrders_7 : decode cX2_planOrders 7 = .ok (.iload_n 3, 1) := by decide +kernel
theorem dX2_planOrders_8 : decode cX2_planOrders 8 = .ok (.iload_n 2, 1) := by decide +kernel
theorem dX2_planOrders_9 : decode cX2_planOrders 9 = .ok (.iconst (-1), 1) := by decide +kernel
theorem dX2_planOrders_10 : decode cX2_planOrders 10 = .ok (.ixor, 1) := by decide +kernel
theorem dX2_planOrders_11 : decode cX2_planOrders 11 = .ok (.iand, 1) := by decide +kernel
theorem dX2_planOrders_12 : decode cX2_planOrders 12 = .ok (.ifCond .ne 55, 3) := by decide +kernel
theorem dX2_planOrders_15 : decode cX2_planOrders 15 = .ok (.iconst 0, 1) := by decide +kernel
theorem dX2_planOrders_16 : decode cX2_planOrders 16 = .ok (.istore 4, 2) := by decide +kernel
theorem dX2_planOrders_18 : decode cX2_planOrders 18 = .ok (.iload 4, 2) := by decide +kernel
theorem dX2_planOrders_20 : decode cX2_planOrders 20 = .ok (.aload_n 1, 1) := by decide +kernel
theorem dX2_planOrders_21 : decode cX2_planOrders 21 = .ok (.getfield 62, 3) := by decide +kernel
theorem dX2_planOrders_24 : decode cX2_planOrders 24 = .ok (.if_icmp .ge 43, 3) := by decide +kernel
theorem dX2_planOrders_27 : decode cX2_planOrders 27 = .ok (.aload_n 0, 1) := by decide +kernel
theorem dX2_planOrders_28 : decode cX2_planOrders 28 = .ok (.aload_n 1, 1) := by decide +kernel
theorem dX2_planOrders_29 : decode cX2_planOrders 29 = .ok (.iload_n 3, 1) := by decide +kernel
theorem dX2_planOrders_30 : decode cX2_planOrders 30 = .ok (.iload 4, 2) := by decide +kernel
theorem dX2_planOrders_32 : decode cX2_planOrders 32 = .ok (.invokevirtual 162, 3) := by decide +kernel
theorem dX2_planOrders_35 : decode cX2_planOrders 35 = .ok (.istore 5, 2) := by decide +kernel
theorem dX2_planOrders_37 : decode cX2_planOrders 37 = .ok (.aload_n 0, 1) := by decide +kernel
theorem dX2_planOrders_38 : decode cX2_planOrders 38 = .ok (.getfield 26, 3) := by decide +kernel
theorem dX2_planOrders_41 : decode cX2_planOrders 41 = .ok (.iload_n 3, 1) := by decide +kernel
theorem dX2_planOrders_42 : decode cX2_planOrders 42 = .ok (.bipush 8, 2) := by decide +kernel
theorem dX2_planOrders_44 : decode cX2_planOrders 44 = .ok (.imul, 1) := by decide +kernel
theorem dX2_planOrders_45 : decode cX2_planOrders 45 = .ok (.iload 4, 2) := by decide +kernel
theorem dX2_planOrders_47 : decode cX2_planOrders 47 = .ok (.iadd, 1) := by decide +kernel
theorem dX2_planOrders_48 : decode cX2_planOrders 48 = .ok (.aload_n 0, 1) := by decide +kernel
theorem dX2_planOrders_49 : decode cX2_planOrders 49 = .ok (.aload_n 1, 1) := by decide +kernel
theorem dX2_planOrders_50 : decode cX2_planOrders 50 = .ok (.iload_n 3, 1) := by decide +kernel
theorem dX2_planOrders_51 : decode cX2_planOrders 51 = .ok (.iload 4, 2) := by decide +kernel
theorem dX2_planOrders_53 : decode cX2_planOrders 53 = .ok (.iload 5, 2) := by decide +kernel
theorem dX2_planOrders_55 : decode cX2_planOrders 55 = .ok (.invokevirtual 169, 3) := by decide +kernel
theorem dX2_planOrders_58 : decode cX2_planOrders 58 = .ok (.invokevirtual 52, 3) := by decide +kernel
theorem dX2_planOrders_61 : decode cX2_planOrders 61 = .ok (.iinc 4 1, 3) := by decide +kernel
theorem dX2_planOrders_64 : decode cX2_planOrders 64 = .ok (.goto (-46), 3) := by decide +kernel
theorem dX2_planOrders_67 : decode cX2_planOrders 67 = .ok (.iinc 3 1, 3) := by decide +kernel
theorem dX2_planOrders_70 : decode cX2_planOrders 70 = .ok (.goto (-68), 3) := by decide +kernel
theorem dX2_planOrders_73 : decode cX2_planOrders 73 = .ok (.return_, 1) := by decide +kernel
def f_X2_planOrders_67 (v1 : XM) (k2 : XM → Int32 → Int32 → Option (XM)) (w0 : XM) (l2 : Int32) (l3 : Int32) : Option (XM) :=
  k2 w0 l2 (l3 + 1)
def f_X2_planOrders_18 (v1 : XM) (k2 : XM → Int32 → Int32 → Option (XM)) (k18 : XM → Int32 → Int32 → Int32 → Option (XM)) (w0 : XM) (l2 : Int32) (l3 : Int32) (l4 : Int32) : Option (XM) :=
  if ((v1.1 0 0) : Int32) ≤ l4 then
  (f_X2_planOrders_67 v1 k2 w0 l2 l3)
  else (x_bo (f_X2_firstOf w0 v1 l3 l4) (fun y1 =>
  x_lt (f_X2_hoursByFirst w0 v1 l3 l4 y1) (fun y2 =>
  x_lt (r_put 512 (x_sub w0 7) ((l3 * (8 : Int32)) + l4) y2) (fun y3 =>
  x_lt (x_put w0 7 2 y3) (fun m4 =>
  k18 m4 l2 l3 (l4 + 1))))))
def f_X2_planOrders_2 (v1 : XM) (k2 : XM → Int32 → Int32 → Option (XM)) (w0 : XM) (l2 : Int32) (l3 : Int32) : Option (XM) :=
  if (l2 : Int32) < l3 then
  (some w0)
  else (if (l3 &&& (l2 ^^^ (-1 : Int32))) = (0 : Int32) then
  (x_lp (φ := XM → Int32 → Int32 → Int32 → Option (XM)) (fun _ _ _ _ => none) (f_X2_planOrders_18 v1 k2) x_NN w0 l2 l3 (0 : Int32))
  else (f_X2_planOrders_67 v1 k2 w0 l2 l3))
def f_X2_planOrders (v0 : XM) (v1 : XM) (x1 : Int32) : Option (XM) :=
  x_lp (φ := XM → Int32 → Int32 → Option (XM)) (fun _ _ _ => none) (f_X2_planOrders_2 v1 ) x_NN v0 x1 (1 : Int32)
set_option maxRecDepth 100000 in
set_option maxHeartbeats 4000000 in
theorem w_X2_planOrders_67 {p : Program} {l : Launch} {e : Env} {s : State} {m : MethodId} {args : Array Value} {below : List Frame} {meth : Method} {c : Code} {D : va_G} {tc : Nat → ClassId} {aK aV : Nat → Nat} {A : Nat → Prop} {ad0 : Nat → Nat} {ad1 : Nat → Nat} {v1 : XM} (X : Cx p s m args meth c cX2_planOrders 6 none RX2 D tc aK aV A [(shRoads, ad0), (shValley, ad1)])  {o : XM} {k2 : XM → Int32 → Int32 → Option (XM)} (hk2 : ∀ (w0 : XM) (l2 : Int32) (l3 : Int32), k2 w0 l2 l3 = some o → aW p l e (x_Rm 4) s m args below meth c D tc A 6 [(shRoads, ad0), (shValley, ad1)] none True [o, v1] 2 [(0, .ref (ad0 0)), (1, .ref (ad1 0)), (2, .int l2), (3, .int l3)] [] [w0, v1]) {w0 : XM} {l2 : Int32} {l3 : Int32}  (h : f_X2_planOrders_67 v1 k2 w0 l2 l3 = some o) : aW p l e (x_Rm 4) s m args below meth c D tc A 6 [(shRoads, ad0), (shValley, ad1)] none True [o, v1] 67 [(0, .ref (ad0 0)), (1, .ref (ad1 0)), (2, .int l2), (3, .int l3)] [] [w0, v1] := by
  unfold f_X2_planOrders_67 at h
  refine a_iinc (pc := 67) X 3 [(3, .int (l3 + 1)), (0, .ref (ad0 0)), (1, .ref (ad1 0)), (2, .int l2)] dX2_planOrders_67 rfl (congrArg (HAdd.hAdd l3) q_ic_1) (by decide) rfl ?_
  refine a_goto (pc := 70) X 2 dX2_planOrders_70 rfl ?_
  refine a_sub [1, 2, 3, 0] rfl ?_
  exact hk2 _ _ _ h
set_option maxRecDepth 100000 in
set_option maxHeartbeats 4000000 in
theorem w_X2_planOrders_18 {p : Program} {l : Launch} {e : Env} {s : State} {m : MethodId} {args : Array Value} {below : List Frame} {meth : Method} {c : Code} {D : va_G} {tc : Nat → ClassId} {aK aV : Nat → Nat} {A : Nat → Prop} {ad0 : Nat → Nat} {ad1 : Nat → Nat} {v1 : XM} (X : Cx p s m args meth c cX2_planOrders 6 none RX2 D tc aK aV A [(shRoads, ad0), (shValley, ad1)])  {o : XM} {k2 : XM → Int32 → Int32 → Option (XM)} (hk2 : ∀ (w0 : XM) (l2 : Int32) (l3 : Int32), k2 w0 l2 l3 = some o → aW p l e (x_Rm 4) s m args below meth c D tc A 6 [(shRoads, ad0), (shValley, ad1)] none True [o, v1] 2 [(0, .ref (ad0 0)), (1, .ref (ad1 0)), (2, .int l2), (3, .int l3)] [] [w0, v1]) : ∀ (n : Nat), ∀ (w0 : XM) (l2 : Int32) (l3 : Int32) (l4 : Int32), x_lp (φ := XM → Int32 → Int32 → Int32 → Option (XM)) (fun _ _ _ _ => none) (f_X2_planOrders_18 v1 k2) n w0 l2 l3 l4 = some o → aW p l e (x_Rm 4) s m args below meth c D tc A 6 [(shRoads, ad0), (shValley, ad1)] none True [o, v1] 18 [(0, .ref (ad0 0)), (1, .ref (ad1 0)), (2, .int l2), (3, .int l3), (4, .int l4)] [] [w0, v1] := by
  intro n
  induction n with
  | zero => intro w0 l2 l3 l4 h; exact absurd h (fun q => by cases q)
  | succ n ih =>
    intro w0 l2 l3 l4 h
    have h : f_X2_planOrders_18 v1 k2 (x_lp (φ := XM → Int32 → Int32 → Int32 → Option (XM)) (fun _ _ _ _ => none) (f_X2_planOrders_18 v1 k2) n) w0 l2 l3 l4 = some o := h
    generalize x_lp (φ := XM → Int32 → Int32 → Int32 → Option (XM)) (fun _ _ _ _ => none) (f_X2_planOrders_18 v1 k2) n = k18 at h ih
    have hk18 := ih
    unfold f_X2_planOrders_18 at h
    refine a_iload (pc := 18) X 4 dX2_planOrders_18 rfl ?_
    refine a_aload_n (pc := 20) X 1 dX2_planOrders_20 rfl rfl ?_
    refine a_getI (pc := 21) X 1 fl_RX2_62 rfl rfl rfl rfl dX2_planOrders_21 ?_
    refine a_icmp_ge (pc := 24) X 67 dX2_planOrders_24 rfl (fun c_24 => ?_) (fun c_24 => ?_)
    · have h := x_ifp c_24 h
      refine a_sub [0, 1, 2, 3] rfl ?_
      exact w_X2_planOrders_67 X   hk2  h
    · have h := x_ifn c_24 h
      refine a_aload_n (pc := 27) X 0 dX2_planOrders_27 rfl rfl ?_
      refine a_aload_n (pc := 28) X 1 dX2_planOrders_28 rfl rfl ?_
      refine a_iload_n (pc := 29) X 3 dX2_planOrders_29 rfl rfl ?_
      refine a_iload (pc := 30) X 4 dX2_planOrders_30 rfl ?_
      obtain ⟨y1, e_y1, h⟩ := x_bo_elim h
      refine a_callV (pc := 32) (st2 := [.int y1]) (vs2 := [w0, v1]) X [(0, 0, 15), (1, 0, 16)] [none, none] 0 0 2 [.ref (ad1 0), .int l3, .int l4] [] cv_RX2_162 (c_X2_firstOf (ad0 := ad0) (ad1 := ad1)  e_y1) rfl rfl rfl rfl rfl rfl rfl rfl rfl rfl rfl rfl rfl rfl rfl (Nat.le_of_ble_eq_true rfl) ⟨Nat.le_of_ble_eq_true rfl, Nat.le_of_ble_eq_true rfl⟩ dX2_planOrders_32 (fun _ => ?_)
      refine a_istore (pc := 35) X [(5, .int y1), (0, .ref (ad0 0)), (1, .ref (ad1 0)), (2, .int l2), (3, .int l3), (4, .int l4)] dX2_planOrders_35 (by decide) rfl ?_
      refine a_aload_n (pc := 37) X 1 dX2_planOrders_37 rfl rfl ?_
      refine a_getR (pc := 38) X 0 7 7 fl_RX2_26 rfl rfl rfl rfl rfl dX2_planOrders_38 ?_
      refine a_iload_n (pc := 41) X 4 dX2_planOrders_41 rfl rfl ?_
      refine a_bipush (pc := 42) X dX2_planOrders_42 q_bp_8 ?_
      refine a_imul (pc := 44) X dX2_planOrders_44 ?_
      refine a_iload (pc := 45) X 5 dX2_planOrders_45 rfl ?_
      refine a_iadd (pc := 47) X dX2_planOrders_47 ?_
      refine a_aload_n (pc := 48) X 1 dX2_planOrders_48 rfl rfl ?_
      refine a_aload_n (pc := 49) X 2 dX2_planOrders_49 rfl rfl ?_
      refine a_iload_n (pc := 50) X 4 dX2_planOrders_50 rfl rfl ?_
      refine a_iload (pc := 51) X 5 dX2_planOrders_51 rfl ?_
      refine a_iload (pc := 53) X 0 dX2_planOrders_53 rfl ?_
      obtain ⟨y2, e_y2, h⟩ := x_lt_elim h
      refine a_callV (pc := 55) (st2 := [.int y2, .int ((l3 * (8 : Int32)) + l4), .ref (ad0 7)]) (vs2 := [w0, v1]) X [(0, 0, 15), (1, 0, 16)] [none, none] 0 0 2 [.ref (ad1 0), .int l3, .int l4, .int y1] [.int ((l3 * (8 : Int32)) + l4), .ref (ad0 7)] cv_RX2_169 (c_X2_hoursByFirst (ad0 := ad0) (ad1 := ad1)  e_y2) rfl rfl rfl rfl rfl rfl rfl rfl rfl rfl rfl rfl rfl rfl rfl (Nat.le_of_ble_eq_true rfl) ⟨Nat.le_of_ble_eq_true rfl, Nat.le_of_ble_eq_true rfl⟩ dX2_planOrders_55 (fun _ => ?_)
      obtain ⟨y3, e_y3, h⟩ := x_lt_elim h
      refine a_callV (pc := 58) (st2 := []) (vs2 := [x_put w0 7 2 y3, v1]) X [(0, 7, 2)] [some y3] 0 7 3 [.int ((l3 * (8 : Int32)) + l4), .int y2] [] cv_RX2_52 (ct_put (ad0 := (fun i => ad0 (i + 7))) (by decide) e_y3) rfl rfl rfl rfl rfl rfl rfl rfl rfl rfl rfl rfl rfl rfl rfl (Nat.le_of_ble_eq_true rfl) ⟨Nat.le_of_ble_eq_true rfl, Nat.le_of_ble_eq_true rfl⟩ dX2_planOrders_58 (fun _ => ?_)
      obtain ⟨m4, e_m4, h⟩ := x_lt_elim h
      refine a_nm (vs2 := [m4, v1]) (congrArg (fun q : XM => [q, v1]) e_m4) ?_
      refine a_iinc (pc := 61) X 5 [(4, .int (l4 + 1)), (5, .int y1), (0, .ref (ad0 0)), (1, .ref (ad1 0)), (2, .int l2), (3, .int l3)] dX2_planOrders_61 rfl (congrArg (HAdd.hAdd l4) q_ic_1) (by decide) rfl ?_
      refine a_goto (pc := 64) X 18 dX2_planOrders_64 rfl ?_
      refine a_sub [2, 3, 4, 5, 0] rfl ?_
      exact hk18 _ _ _ _ h
set_option maxRecDepth 100000 in
set_option maxHeartbeats 4000000 in
theorem w_X2_planOrders_2 {p : Program} {l : Launch} {e : Env} {s : State} {m : MethodId} {args : Array Value} {below : List Frame} {meth : Method} {c : Code} {D : va_G} {tc : Nat → ClassId} {aK aV : Nat → Nat} {A : Nat → Prop} {ad0 : Nat → Nat} {ad1 : Nat → Nat} {v1 : XM} (X : Cx p s m args meth c cX2_planOrders 6 none RX2 D tc aK aV A [(shRoads, ad0), (shValley, ad1)])  {o : XM}  : ∀ (n : Nat), ∀ (w0 : XM) (l2 : Int32) (l3 : Int32), x_lp (φ := XM → Int32 → Int32 → Option (XM)) (fun _ _ _ => none) (f_X2_planOrders_2 v1 ) n w0 l2 l3 = some o → aW p l e (x_Rm 4) s m args below meth c D tc A 6 [(shRoads, ad0), (shValley, ad1)] none True [o, v1] 2 [(0, .ref (ad0 0)), (1, .ref (ad1 0)), (2, .int l2), (3, .int l3)] [] [w0, v1] := by
  intro n
  induction n with
  | zero => intro w0 l2 l3 h; exact absurd h (fun q => by cases q)
  | succ n ih =>
    intro w0 l2 l3 h
    have h : f_X2_planOrders_2 v1  (x_lp (φ := XM → Int32 → Int32 → Option (XM)) (fun _ _ _ => none) (f_X2_planOrders_2 v1 ) n) w0 l2 l3 = some o := h
    generalize x_lp (φ := XM → Int32 → Int32 → Option (XM)) (fun _ _ _ => none) (f_X2_planOrders_2 v1 ) n = k2 at h ih
    have hk2 := ih
    unfold f_X2_planOrders_2 at h
    refine a_iload_n (pc := 2) X 3 dX2_planOrders_2 rfl rfl ?_
    refine a_iload_n (pc := 3) X 2 dX2_planOrders_3 rfl rfl ?_
    refine a_icmp_gt (pc := 4) X 73 dX2_planOrders_4 rfl (fun c_4 => ?_) (fun c_4 => ?_)
    · have h := x_ifp c_4 h
      have h := Option.some.inj h; subst h
      exact a_vret (pc := 73) X trivial dX2_planOrders_73
    · have h := x_ifn c_4 h
      refine a_iload_n (pc := 7) X 3 dX2_planOrders_7 rfl rfl ?_
      refine a_iload_n (pc := 8) X 2 dX2_planOrders_8 rfl rfl ?_
      refine a_iconst (pc := 9) X dX2_planOrders_9 q_ic_m1 ?_
      refine a_ixor (pc := 10) X dX2_planOrders_10 ?_
      refine a_iand (pc := 11) X dX2_planOrders_11 ?_
      refine a_if_ne (pc := 12) X 67 dX2_planOrders_12 rfl (fun c_12 => ?_) (fun c_12 => ?_)
      · have h := x_ifn c_12 h
        exact w_X2_planOrders_67 X   hk2  h
      · have h := x_ifp c_12 h
        refine a_iconst (pc := 15) X dX2_planOrders_15 q_ic_0 ?_
        refine a_istore (pc := 16) X [(4, .int (0 : Int32)), (0, .ref (ad0 0)), (1, .ref (ad1 0)), (2, .int l2), (3, .int l3)] dX2_planOrders_16 (by decide) rfl ?_
        refine a_sub [1, 2, 3, 4, 0] rfl ?_
        exact w_X2_planOrders_18 X   hk2 x_NN _ _ _ _ h
set_option maxRecDepth 100000 in
set_option maxHeartbeats 4000000 in
theorem c_X2_planOrders {l : Launch}  {ad0 : Nat → Nat} {ad1 : Nat → Nat} {v0 v1 : XM} {x1 : Int32}  {o : XM} (h : f_X2_planOrders v0 v1 x1 = some o) : CT l yX2_planOrders cX2_planOrders 6 none 4 [(shRoads, ad0), (shValley, ad1)] [v0, v1] (fun aK => [.ref (ad0 0), .ref (ad1 0), .int x1]) none True [o, v1] := by
  refine CT_of (by decide) (fun _ => Nat.le_of_ble_eq_true rfl) ?_
  intro p e s m args below meth c D tc aK aV A X
  have X : Cx p s m args meth c cX2_planOrders 6 none RX2 D tc aK aV A [(shRoads, ad0), (shValley, ad1)] := X
  show aW p l e (x_Rm 4) s m args below meth c D tc A 6 [(shRoads, ad0), (shValley, ad1)] none True [o, v1] 0 [(0, .ref (ad0 0)), (1, .ref (ad1 0)), (2, .int x1)] [] [v0, v1]
  unfold f_X2_planOrders at h
  refine a_iconst (pc := 0) X dX2_planOrders_0 q_ic_1 ?_
  refine a_istore_n (pc := 1) X [(3, .int (1 : Int32)), (0, .ref (ad0 0)), (1, .ref (ad1 0)), (2, .int x1)] dX2_planOrders_1 rfl (by decide) rfl ?_
  refine a_sub [1, 2, 3, 0] rfl ?_
  exact w_X2_planOrders_2 X    x_NN _ _ _ h
theorem dX2_findOrder_0 : decode cX2_findOrder 0 = .ok (.aload_n 1, 1) := by decide +kernel
theorem dX2_findOrder_1 : decode cX2_findOrder 1 = .ok (.getfield 56, 3) := by decide +kernel
theorem dX2_findOrder_4 : decode cX2_findOrder 4 = .ok (.astore_n 3, 1) := by decide +kernel
theorem dX2_findOrder_5 : decode cX2_findOrder 5 = .ok (.iconst 1, 1) := by decide +kernel
theorem dX2_findOrder_6 : decode cX2_findOrder 6 = .ok (.aload_n 3, 1) := by decide +kernel
theorem dX2_findOrder_7 : decode cX2_findOrder 7 = .ok (.getfield 145, 3) := by decide +kernel
theorem dX2_findOrder_10 : decode cX2_findOrder 10 = .ok (.ishl, 1) := by decide +kernel
theorem dX2_findOrder_11 : decode cX2_findOrder 11 = .ok (.iconst 1, 1) := by decide +kernel
theorem dX2_findOrder_12 : decode cX2_findOrder 12 = .ok (.isub, 1) := by decide +kernel
theorem dX2_findOrder_13 : decode cX2_findOrder 13 = .ok (.aload_n 1, 1) := by decide +kernel
theorem dX2_findOrder_14 : decode cX2_findOrder 14 = .ok (.getfield 70, 3) := by decide +kernel
theorem dX2_findOrder_17 : decode cX2_findOrder 17 = .ok (.getfield 148, 3) := by decide +kernel
theorem dX2_findOrder_20 : decode cX2_findOrder 20 = .ok (.iload_n 2, 1) := by decide +kernel
theorem dX2_findOrder_21 : decode cX2_findOrder 21 = .ok (.invokevirtual 79, 3) := by decide +kernel
theorem dX2_findOrder_24 : decode cX2_findOrder 24 = .ok (.iconst (-1), 1) := by decide +kernel
theorem dX2_findOrder_25 : decode cX2_findOrder 25 = .ok (.ixor, 1) := by decide +kernel
theorem dX2_findOrder_26 : decode cX2_findOrder 26 = .ok (.iand, 1) := by decide +kernel
theorem dX2_findOrder_27 : decode cX2_findOrder 27 = .ok (.istore 4, 2) := by decide +kernel
theorem dX2_findOrder_29 : decode cX2_findOrder 29 = .ok (.aload_n 1, 1) := by decide +kernel
theorem dX2_findOrder_30 : decode cX2_findOrder 30 = .ok (.getfield 70, 3) := by decide +kernel
theorem dX2_findOrder_33 : decode cX2_findOrder 33 = .ok (.getfield 109, 3) := by decide +kernel
theorem dX2_findOrder_36 : decode cX2_findOrder 36 = .ok (.iload_n 2, 1) := by decide +kernel
theorem dX2_findOrder_37 : decode cX2_findOrder 37 = .ok (.invokevirtual 79, 3) := by decide +kernel
theorem dX2_findOrder_40 : decode cX2_findOrder 40 = .ok (.istore 5, 2) := by decide +kernel
theorem dX2_findOrder_42 : decode cX2_findOrder 42 = .ok (.aload_n 0, 1) := by decide +kernel
theorem dX2_findOrder_43 : decode cX2_findOrder 43 = .ok (.aload_n 1, 1) := by decide +kernel
theorem dX2_findOrder_44 : decode cX2_findOrder 44 = .ok (.aload_n 3, 1) := by decide +kernel
theorem dX2_findOrder_45 : decode cX2_findOrder 45 = .ok (.getfield 112, 3) := by decide +kernel
theorem dX2_findOrder_48 : decode cX2_findOrder 48 = .ok (.iload_n 2, 1) := by decide +kernel
theorem dX2_findOrder_49 : decode cX2_findOrder 49 = .ok (.invokevirtual 79, 3) := by decide +kernel
theorem dX2_findOrder_52 : decode cX2_findOrder 52 = .ok (.invokevirtual 151, 3) := by decide +kernel
theorem dX2_findOrder_55 : decode cX2_findOrder 55 = .ok (.aload_n 0, 1) := by decide +kernel
theorem dX2_findOrder_56 : decode cX2_findOrder 56 = .ok (.aload_n 3, 1) := by decide +kernel
theorem dX2_findOrder_57 : decode cX2_findOrder 57 = .ok (.iload 4, 2) := by decide +kernel
theorem dX2_findOrder_59 : decode cX2_findOrder 59 = .ok (.invokevirtual 155, 3) := by decide +kernel
theorem dX2_findOrder_62 : decode cX2_findOrder 62 = .ok (.aload_n 0, 1) := by decide +kernel
theorem dX2_findOrder_63 : decode cX2_findOrder 63 = .ok (.getfield 26, 3) := by decide +kernel
theorem dX2_findOrder_66 : decode cX2_findOrder 66 = .ok (.iload 4, 2) := by decide +kernel
theorem dX2_findOrder_68 : decode cX2_findOrder 68 = .ok (.bipush 8, 2) := by decide +kernel
theorem dX2_findOrder_70 : decode cX2_findOrder 70 = .ok (.imul, 1) := by decide +kernel
theorem dX2_findOrder_71 : decode cX2_findOrder 71 = .ok (.iload 5, 2) := by decide +kernel
theorem dX2_findOrder_73 : decode cX2_findOrder 73 = .ok (.iadd, 1) := by decide +kernel
theorem dX2_findOrder_74 : decode cX2_findOrder 74 = .ok (.invokevirtual 79, 3) := by decide +kernel
theorem dX2_findOrder_77 : decode cX2_findOrder 77 = .ok (.istore 6, 2) := by decide +kernel
theorem dX2_findOrder_79 : decode cX2_findOrder 79 = .ok (.iload 6, 2) := by decide +kernel
theorem dX2_findOrder_81 : decode cX2_findOrder 81 = .ok (.ldc 135, 2) := by decide +kernel
theorem dX2_findOrder_83 : decode cX2_findOrder 83 = .ok (.if_icmp .lt 5, 3) := by decide +kernel
theorem dX2_findOrder_86 : decode cX2_findOrder 86 = .ok (.iconst (-1), 1) := by decide +kernel
theorem dX2_findOrder_87 : decode cX2_findOrder 87 = .ok (.ireturn, 1) := by decide +kernel
theorem dX2_findOrder_88 : decode cX2_findOrder 88 = .ok (.aload_n 0, 1) := by decide +kernel
theorem dX2_findOrder_89 : decode cX2_findOrder 89 = .ok (.iconst 0, 1) := by decide +kernel
theorem dX2_findOrder_90 : decode cX2_findOrder 90 = .ok (.putfield 159, 3) := by decide +kernel
theorem dX2_findOrder_93 : decode cX2_findOrder 93 = .ok (.aload_n 0, 1) := by decide +kernel
theorem dX2_findOrder_94 : decode cX2_findOrder 94 = .ok (.getfield 159, 3) := by decide +kernel
theorem dX2_findOrder_97 : decode cX2_findOrder 97 = .ok (.bipush 6, 2) := by decide +kernel
theorem dX2_findOrder_99 : decode cX2_findOrder 99 = .ok (.if_icmp .ge 67, 3) := by decide +kernel
theorem dX2_findOrder_102 : decode cX2_findOrder 102 = .ok (.iload 4, 2) := by decide +kernel
theorem dX2_findOrder_104 : decode cX2_findOrder 104 = .ok (.ifCond .eq 62, 3) := by decide +kernel
theorem dX2_findOrder_107 : decode cX2_findOrder 107 = .ok (.aload_n 0, 1) := by decide +kernel
theorem dX2_findOrder_108 : decode cX2_findOrder 108 = .ok (.aload_n 3, 1) := by decide +kernel
theorem dX2_findOrder_109 : decode cX2_findOrder 109 = .ok (.iload 4, 2) := by decide +kernel
theorem dX2_findOrder_111 : decode cX2_findOrder 111 = .ok (.iload 5, 2) := by decide +kernel
theorem dX2_findOrder_113 : decode cX2_findOrder 113 = .ok (.invokevirtual 162, 3) := by decide +kernel
theorem dX2_findOrder_116 : decode cX2_findOrder 116 = .ok (.istore 7, 2) := by decide +kernel
theorem dX2_findOrder_118 : decode cX2_findOrder 118 = .ok (.aload_n 0, 1) := by decide +kernel
theorem dX2_findOrder_119 : decode cX2_findOrder 119 = .ok (.getfield 35, 3) := by decide +kernel
theorem dX2_findOrder_122 : decode cX2_findOrder 122 = .ok (.aload_n 0, 1) := by decide +kernel
theorem dX2_findOrder_123 : decode cX2_findOrder 123 = .ok (.getfield 159, 3) := by decide +kernel
theorem dX2_findOrder_126 : decode cX2_findOrder 126 = .ok (.iload 7, 2) := by decide +kernel
theorem dX2_findOrder_128 : decode cX2_findOrder 128 = .ok (.invokevirtual 52, 3) := by decide +kernel
theorem dX2_findOrder_131 : decode cX2_findOrder 131 = .ok (.aload_n 0, 1) := by decide +kernel
theorem dX2_findOrder_132 : decode cX2_findOrder 132 = .ok (.dup, 1) := by decide +kernel
theorem dX2_findOrder_133 : decode cX2_findOrder 133 = .ok (.getfield 159, 3) := by decide +kernel
theorem dX2_findOrder_136 : decode cX2_findOrder 136 = .ok (.iconst 1, 1) := by decide +kernel
theorem dX2_findOrder_137 : decode cX2_findOrder 137 = .ok (.iadd, 1) := by decide +kernel
theorem dX2_findOrder_138 : decode cX2_findOrder 138 = .ok (.putfield 159, 3) := by decide +kernel
theorem dX2_findOrder_141 : decode cX2_findOrder 141 = .ok (.iload 4, 2) := by decide +kernel
theorem dX2_findOrder_143 : decode cX2_findOrder 143 = .ok (.iconst 1, 1) := by decide +kernel
theorem dX2_findOrder_144 : decode cX2_findOrder 144 = .ok (.iload 7, 2) := by decide +kernel
theorem dX2_findOrder_146 : decode cX2_findOrder 146 = .ok (.ishl, 1) := by decide +kernel
theorem dX2_findOrder_147 : decode cX2_findOrder 147 = .ok (.iconst (-1), 1) := by decide +kernel
theorem dX2_findOrder_148 : decode cX2_findOrder 148 = .ok (.ixor, 1) := by decide +kernel
theorem dX2_findOrder_149 : decode cX2_findOrder 149 = .ok (.iand, 1) := by decide +kernel
theorem dX2_findOrder_150 : decode cX2_findOrder 150 = .ok (.istore 4, 2) := by decide +kernel
theorem dX2_findOrder_152 : decode cX2_findOrder 152 = .ok (.aload_n 3, 1) := by decide +kernel
theorem dX2_findOrder_153 : decode cX2_findOrder 153 = .ok (.getfield 166, 3) := by decide +kernel
theorem dX2_findOrder_156 : decode cX2_findOrder 156 = .ok (.iload 7, 2) := by decide +kernel
theorem dX2_findOrder_158 : decode cX2_findOrder 158 = .ok (.invokevirtual 79, 3) := by decide +kernel
theorem dX2_findOrder_161 : decode cX2_findOrder 161 = .ok (.istore 5, 2) := by decide +kernel
theorem dX2_findOrder_163 : decode cX2_findOrder 163 = .ok (.goto (-70), 3) := by decide +kernel
theorem dX2_findOrder_166 : decode cX2_findOrder 166 = .ok (.iload 6, 2) := by decide +kernel
theorem dX2_findOrder_168 : decode cX2_findOrder 168 = .ok (.ireturn, 1) := by decide +kernel
def f_X2_findOrder_93 (v1 : XM) (k93 : XM → Int32 → Int32 → Int32 → Option (Int32 × XM)) (w0 : XM) (l4 : Int32) (l5 : Int32) (l6 : Int32) : Option (Int32 × XM) :=
  if ((6 : Int32) : Int32) ≤ (w0.1 0 8) then
  (some (l6, w0))
  else (if l4 = (0 : Int32) then
  (some (l6, w0))
  else (x_bo (f_X2_firstOf w0 (x_sub v1 1) l4 l5) (fun y1 =>
  x_lt (r_put 6 (x_sub w0 13) (w0.1 0 8) y1) (fun y2 =>
  x_lt (x_put w0 13 2 y2) (fun m3 =>
  x_lt (x_si m3 0 8 ((m3.1 0 8) + (1 : Int32))) (fun m4 =>
  x_lt (((1 : Int32) <<< (y1 &&& 31)) ^^^ (-1 : Int32)) (fun y5 =>
  x_lt (r_get 6 (x_sub v1 10) y1) (fun y6 =>
  k93 m4 (l4 &&& y5) y6 l6))))))))
def f_X2_findOrder (v0 : XM) (v1 : XM) (x1 : Int32) : Option (Int32 × XM) :=
  x_lt (((1 : Int32) <<< ((v1.1 1 2) &&& 31)) - (1 : Int32)) (fun y7 =>
  x_lt (r_get 5 (x_sub v1 26) x1) (fun y8 =>
  x_lt (y7 &&& (y8 ^^^ (-1 : Int32))) (fun y9 =>
  x_lt (r_get 5 (x_sub v1 18) x1) (fun y10 =>
  x_lt (r_get 5 (x_sub v1 14) x1) (fun y11 =>
  x_bo (f_X2_spreadAll v0 v1 y11) (fun y12 =>
  x_bo (f_X2_planOrders y12 (x_sub v1 1) y9) (fun y13 =>
  x_lt (r_get 512 (x_sub y13 7) ((y9 * (8 : Int32)) + y10)) (fun y14 =>
  if (y14 : Int32) < (65536 : Int32) then
  (x_lt (x_si y13 0 8 (0 : Int32)) (fun m15 =>
  x_lp (φ := XM → Int32 → Int32 → Int32 → Option (Int32 × XM)) (fun _ _ _ _ => none) (f_X2_findOrder_93 v1 ) x_NN m15 y9 y10 y14))
  else (some ((-1 : Int32), y13))))))))))
set_option maxRecDepth 100000 in
set_option maxHeartbeats 4000000 in
theorem w_X2_findOrder_93 {p : Program} {l : Launch} {e : Env} {s : State} {m : MethodId} {args : Array Value} {below : List Frame} {meth : Method} {c : Code} {D : va_G} {tc : Nat → ClassId} {aK aV : Nat → Nat} {A : Nat → Prop} {ad0 : Nat → Nat} {ad1 : Nat → Nat} {v1 : XM} (X : Cx p s m args meth c cX2_findOrder 8 (some .int) RX2 D tc aK aV A [(shRoads, ad0), (shWorld, ad1)])  {o : Int32 × XM}  : ∀ (n : Nat), ∀ (w0 : XM) (l4 : Int32) (l5 : Int32) (l6 : Int32), x_lp (φ := XM → Int32 → Int32 → Int32 → Option (Int32 × XM)) (fun _ _ _ _ => none) (f_X2_findOrder_93 v1 ) n w0 l4 l5 l6 = some o → aW p l e (x_Rm 6) s m args below meth c D tc A 8 [(shRoads, ad0), (shWorld, ad1)] (some (.int o.1)) True [o.2, v1] 93 [(0, .ref (ad0 0)), (3, .ref (ad1 1)), (4, .int l4), (5, .int l5), (6, .int l6)] [] [w0, v1] := by
  intro n
  induction n with
  | zero => intro w0 l4 l5 l6 h; exact absurd h (fun q => by cases q)
  | succ n ih =>
    intro w0 l4 l5 l6 h
    have h : f_X2_findOrder_93 v1  (x_lp (φ := XM → Int32 → Int32 → Int32 → Option (Int32 × XM)) (fun _ _ _ _ => none) (f_X2_findOrder_93 v1 ) n) w0 l4 l5 l6 = some o := h
    generalize x_lp (φ := XM → Int32 → Int32 → Int32 → Option (Int32 × XM)) (fun _ _ _ _ => none) (f_X2_findOrder_93 v1 ) n = k93 at h ih
    have hk93 := ih
    unfold f_X2_findOrder_93 at h
    refine a_aload_n (pc := 93) X 0 dX2_findOrder_93 rfl rfl ?_
    refine a_getI (pc := 94) X 0 fl_RX2_159 rfl rfl rfl rfl dX2_findOrder_94 ?_
    refine a_bipush (pc := 97) X dX2_findOrder_97 q_bp_6 ?_
    refine a_icmp_ge (pc := 99) X 166 dX2_findOrder_99 rfl (fun c_99 => ?_) (fun c_99 => ?_)
    · have h := x_ifp c_99 h
      refine a_iload (pc := 166) X 4 dX2_findOrder_166 rfl ?_
      have h := Option.some.inj h; subst h
      exact a_iret (pc := 168) X trivial dX2_findOrder_168
    · have h := x_ifn c_99 h
      refine a_iload (pc := 102) X 2 dX2_findOrder_102 rfl ?_
      refine a_if_eq (pc := 104) X 166 dX2_findOrder_104 rfl (fun c_104 => ?_) (fun c_104 => ?_)
      · have h := x_ifp c_104 h
        refine a_iload (pc := 166) X 4 dX2_findOrder_166 rfl ?_
        have h := Option.some.inj h; subst h
        exact a_iret (pc := 168) X trivial dX2_findOrder_168
      · have h := x_ifn c_104 h
        refine a_aload_n (pc := 107) X 0 dX2_findOrder_107 rfl rfl ?_
        refine a_aload_n (pc := 108) X 1 dX2_findOrder_108 rfl rfl ?_
        refine a_iload (pc := 109) X 2 dX2_findOrder_109 rfl ?_
        refine a_iload (pc := 111) X 3 dX2_findOrder_111 rfl ?_
        obtain ⟨y1, e_y1, h⟩ := x_bo_elim h
        refine a_callV (pc := 113) (st2 := [.int y1]) (vs2 := [w0, v1]) X [(0, 0, 15), (1, 1, 16)] [none, none] 0 0 2 [.ref (ad1 1), .int l4, .int l5] [] cv_RX2_162 (c_X2_firstOf (ad0 := ad0) (ad1 := (fun i => ad1 (i + 1)))  e_y1) rfl rfl rfl rfl rfl rfl rfl rfl rfl rfl rfl rfl rfl rfl rfl (Nat.le_of_ble_eq_true rfl) ⟨Nat.le_of_ble_eq_true rfl, Nat.le_of_ble_eq_true rfl⟩ dX2_findOrder_113 (fun _ => ?_)
        refine a_istore (pc := 116) X [(7, .int y1), (0, .ref (ad0 0)), (3, .ref (ad1 1)), (4, .int l4), (5, .int l5), (6, .int l6)] dX2_findOrder_116 (by decide) rfl ?_
        refine a_aload_n (pc := 118) X 1 dX2_findOrder_118 rfl rfl ?_
        refine a_getR (pc := 119) X 0 13 13 fl_RX2_35 rfl rfl rfl rfl rfl dX2_findOrder_119 ?_
        refine a_aload_n (pc := 122) X 1 dX2_findOrder_122 rfl rfl ?_
        refine a_getI (pc := 123) X 0 fl_RX2_159 rfl rfl rfl rfl dX2_findOrder_123 ?_
        refine a_iload (pc := 126) X 0 dX2_findOrder_126 rfl ?_
        obtain ⟨y2, e_y2, h⟩ := x_lt_elim h
        refine a_callV (pc := 128) (st2 := []) (vs2 := [x_put w0 13 2 y2, v1]) X [(0, 13, 2)] [some y2] 0 13 3 [.int (w0.1 0 8), .int y1] [] cv_RX2_52 (ct_put (ad0 := (fun i => ad0 (i + 13))) (by decide) e_y2) rfl rfl rfl rfl rfl rfl rfl rfl rfl rfl rfl rfl rfl rfl rfl (Nat.le_of_ble_eq_true rfl) ⟨Nat.le_of_ble_eq_true rfl, Nat.le_of_ble_eq_true rfl⟩ dX2_findOrder_128 (fun _ => ?_)
        obtain ⟨m3, e_m3, h⟩ := x_lt_elim h
        refine a_nm (vs2 := [m3, v1]) (congrArg (fun q : XM => [q, v1]) e_m3) ?_
        refine a_aload_n (pc := 131) X 1 dX2_findOrder_131 rfl rfl ?_
        refine a_dup (pc := 132) X dX2_findOrder_132 rfl ?_
        refine a_getI (pc := 133) X 0 fl_RX2_159 rfl rfl rfl rfl dX2_findOrder_133 ?_
        refine a_iconst (pc := 136) X dX2_findOrder_136 q_ic_1 ?_
        refine a_iadd (pc := 137) X dX2_findOrder_137 ?_
        refine a_putI (pc := 138) X 0 fl_RX2_159 rfl rfl rfl rfl dX2_findOrder_138 ?_
        obtain ⟨m4, e_m4, h⟩ := x_lt_elim h
        refine a_nm (vs2 := [m4, v1]) (congrArg (fun q : XM => [q, v1]) e_m4) ?_
        refine a_iload (pc := 141) X 3 dX2_findOrder_141 rfl ?_
        refine a_iconst (pc := 143) X dX2_findOrder_143 q_ic_1 ?_
        refine a_iload (pc := 144) X 0 dX2_findOrder_144 rfl ?_
        refine a_ishl (pc := 146) X dX2_findOrder_146 ?_
        refine a_iconst (pc := 147) X dX2_findOrder_147 q_ic_m1 ?_
        refine a_ixor (pc := 148) X dX2_findOrder_148 ?_
        obtain ⟨y5, e_y5, h⟩ := x_lt_elim h
        refine a_ni e_y5 ?_
        refine a_iand (pc := 149) X dX2_findOrder_149 ?_
        refine a_istore (pc := 150) X [(4, .int (l4 &&& y5)), (7, .int y1), (0, .ref (ad0 0)), (3, .ref (ad1 1)), (5, .int l5), (6, .int l6)] dX2_findOrder_150 (by decide) rfl ?_
        refine a_aload_n (pc := 152) X 3 dX2_findOrder_152 rfl rfl ?_
        refine a_getR (pc := 153) X 1 9 10 fl_RX2_166 rfl rfl rfl rfl rfl dX2_findOrder_153 ?_
        refine a_iload (pc := 156) X 1 dX2_findOrder_156 rfl ?_
        obtain ⟨y6, e_y6, h⟩ := x_lt_elim h
        refine a_callV (pc := 158) (st2 := [.int y6]) (vs2 := [m4, v1]) X [(1, 10, 2)] [none] 1 10 3 [.int y1] [] cv_RX2_79 (ct_get (ad0 := (fun i => ad1 (i + 10))) (by decide) e_y6) rfl rfl rfl rfl rfl rfl rfl rfl rfl rfl rfl rfl rfl rfl rfl (Nat.le_of_ble_eq_true rfl) ⟨Nat.le_of_ble_eq_true rfl, Nat.le_of_ble_eq_true rfl⟩ dX2_findOrder_158 (fun _ => ?_)
        refine a_istore (pc := 161) X [(5, .int y6), (4, .int (l4 &&& y5)), (7, .int y1), (0, .ref (ad0 0)), (3, .ref (ad1 1)), (6, .int l6)] dX2_findOrder_161 (by decide) rfl ?_
        refine a_goto (pc := 163) X 93 dX2_findOrder_163 rfl ?_
        refine a_sub [3, 4, 1, 0, 5] rfl ?_
        exact hk93 _ _ _ _ h
set_option maxRecDepth 100000 in
set_option maxHeartbeats 4000000 in
theorem c_X2_findOrder {l : Launch}  {ad0 : Nat → Nat} {ad1 : Nat → Nat} {v0 v1 : XM} {x1 : Int32}  {o : Int32 × XM} (h : f_X2_findOrder v0 v1 x1 = some o) : CT l yX2_findOrder cX2_findOrder 8 (some .int) 6 [(shRoads, ad0), (shWorld, ad1)] [v0, v1] (fun aK => [.ref (ad0 0), .ref (ad1 0), .int x1]) (some (.int o.1)) True [o.2, v1] := by
  refine CT_of (by decide) (fun _ => Nat.le_of_ble_eq_true rfl) ?_
  intro p e s m args below meth c D tc aK aV A X
  have X : Cx p s m args meth c cX2_findOrder 8 (some .int) RX2 D tc aK aV A [(shRoads, ad0), (shWorld, ad1)] := X
  show aW p l e (x_Rm 6) s m args below meth c D tc A 8 [(shRoads, ad0), (shWorld, ad1)] (some (.int o.1)) True [o.2, v1] 0 [(0, .ref (ad0 0)), (1, .ref (ad1 0)), (2, .int x1)] [] [v0, v1]
  unfold f_X2_findOrder at h
  refine a_aload_n (pc := 0) X 1 dX2_findOrder_0 rfl rfl ?_
  refine a_getR (pc := 1) X 1 1 1 fl_RX2_56 rfl rfl rfl rfl rfl dX2_findOrder_1 ?_
  refine a_astore_n (pc := 4) X [(3, .ref (ad1 1)), (0, .ref (ad0 0)), (1, .ref (ad1 0)), (2, .int x1)] dX2_findOrder_4 rfl (by decide) rfl ?_
  refine a_iconst (pc := 5) X dX2_findOrder_5 q_ic_1 ?_
  refine a_aload_n (pc := 6) X 0 dX2_findOrder_6 rfl rfl ?_
  refine a_getI (pc := 7) X 1 fl_RX2_145 rfl rfl rfl rfl dX2_findOrder_7 ?_
  refine a_ishl (pc := 10) X dX2_findOrder_10 ?_
  refine a_iconst (pc := 11) X dX2_findOrder_11 q_ic_1 ?_
  refine a_isub (pc := 12) X dX2_findOrder_12 ?_
  obtain ⟨y7, e_y7, h⟩ := x_lt_elim h
  refine a_ni e_y7 ?_
  refine a_aload_n (pc := 13) X 2 dX2_findOrder_13 rfl rfl ?_
  refine a_getR (pc := 14) X 1 17 17 fl_RX2_70 rfl rfl rfl rfl rfl dX2_findOrder_14 ?_
  refine a_getR (pc := 17) X 1 9 26 fl_RX2_148 rfl rfl rfl rfl rfl dX2_findOrder_17 ?_
  refine a_iload_n (pc := 20) X 3 dX2_findOrder_20 rfl rfl ?_
  obtain ⟨y8, e_y8, h⟩ := x_lt_elim h
  refine a_callV (pc := 21) (st2 := [.int y8, .int y7]) (vs2 := [v0, v1]) X [(1, 26, 2)] [none] 1 26 3 [.int x1] [.int y7] cv_RX2_79 (ct_get (ad0 := (fun i => ad1 (i + 26))) (by decide) e_y8) rfl rfl rfl rfl rfl rfl rfl rfl rfl rfl rfl rfl rfl rfl rfl (Nat.le_of_ble_eq_true rfl) ⟨Nat.le_of_ble_eq_true rfl, Nat.le_of_ble_eq_true rfl⟩ dX2_findOrder_21 (fun _ => ?_)
  refine a_iconst (pc := 24) X dX2_findOrder_24 q_ic_m1 ?_
  refine a_ixor (pc := 25) X dX2_findOrder_25 ?_
  refine a_iand (pc := 26) X dX2_findOrder_26 ?_
  obtain ⟨y9, e_y9, h⟩ := x_lt_elim h
  refine a_ni e_y9 ?_
  refine a_istore (pc := 27) X [(4, .int y9), (3, .ref (ad1 1)), (0, .ref (ad0 0)), (1, .ref (ad1 0)), (2, .int x1)] dX2_findOrder_27 (by decide) rfl ?_
  refine a_aload_n (pc := 29) X 3 dX2_findOrder_29 rfl rfl ?_
  refine a_getR (pc := 30) X 1 17 17 fl_RX2_70 rfl rfl rfl rfl rfl dX2_findOrder_30 ?_
  refine a_getR (pc := 33) X 1 1 18 fl_RX2_109 rfl rfl rfl rfl rfl dX2_findOrder_33 ?_
  refine a_iload_n (pc := 36) X 4 dX2_findOrder_36 rfl rfl ?_
  obtain ⟨y10, e_y10, h⟩ := x_lt_elim h
  refine a_callV (pc := 37) (st2 := [.int y10]) (vs2 := [v0, v1]) X [(1, 18, 2)] [none] 1 18 3 [.int x1] [] cv_RX2_79 (ct_get (ad0 := (fun i => ad1 (i + 18))) (by decide) e_y10) rfl rfl rfl rfl rfl rfl rfl rfl rfl rfl rfl rfl rfl rfl rfl (Nat.le_of_ble_eq_true rfl) ⟨Nat.le_of_ble_eq_true rfl, Nat.le_of_ble_eq_true rfl⟩ dX2_findOrder_37 (fun _ => ?_)
  refine a_istore (pc := 40) X [(5, .int y10), (4, .int y9), (3, .ref (ad1 1)), (0, .ref (ad0 0)), (1, .ref (ad1 0)), (2, .int x1)] dX2_findOrder_40 (by decide) rfl ?_
  refine a_aload_n (pc := 42) X 3 dX2_findOrder_42 rfl rfl ?_
  refine a_aload_n (pc := 43) X 4 dX2_findOrder_43 rfl rfl ?_
  refine a_aload_n (pc := 44) X 2 dX2_findOrder_44 rfl rfl ?_
  refine a_getR (pc := 45) X 1 13 14 fl_RX2_112 rfl rfl rfl rfl rfl dX2_findOrder_45 ?_
  refine a_iload_n (pc := 48) X 5 dX2_findOrder_48 rfl rfl ?_
  obtain ⟨y11, e_y11, h⟩ := x_lt_elim h
  refine a_callV (pc := 49) (st2 := [.int y11, .ref (ad1 0), .ref (ad0 0)]) (vs2 := [v0, v1]) X [(1, 14, 2)] [none] 1 14 3 [.int x1] [.ref (ad1 0), .ref (ad0 0)] cv_RX2_79 (ct_get (ad0 := (fun i => ad1 (i + 14))) (by decide) e_y11) rfl rfl rfl rfl rfl rfl rfl rfl rfl rfl rfl rfl rfl rfl rfl (Nat.le_of_ble_eq_true rfl) ⟨Nat.le_of_ble_eq_true rfl, Nat.le_of_ble_eq_true rfl⟩ dX2_findOrder_49 (fun _ => ?_)
  obtain ⟨y12, e_y12, h⟩ := x_bo_elim h
  refine a_callV (pc := 52) (st2 := []) (vs2 := [y12, v1]) X [(0, 0, 15), (1, 0, 32)] [some y12, none] 0 0 2 [.ref (ad1 0), .int y11] [] cv_RX2_151 (c_X2_spreadAll (ad0 := ad0) (ad1 := ad1)  e_y12) rfl rfl rfl rfl rfl rfl rfl rfl rfl rfl rfl rfl rfl rfl rfl (Nat.le_of_ble_eq_true rfl) ⟨Nat.le_of_ble_eq_true rfl, Nat.le_of_ble_eq_true rfl⟩ dX2_findOrder_52 (fun _ => ?_)
  refine a_aload_n (pc := 55) X 3 dX2_findOrder_55 rfl rfl ?_
  refine a_aload_n (pc := 56) X 2 dX2_findOrder_56 rfl rfl ?_
  refine a_iload (pc := 57) X 1 dX2_findOrder_57 rfl ?_
  obtain ⟨y13, e_y13, h⟩ := x_bo_elim h
  refine a_callV (pc := 59) (st2 := []) (vs2 := [y13, v1]) X [(0, 0, 15), (1, 1, 16)] [some y13, none] 0 0 2 [.ref (ad1 1), .int y9] [] cv_RX2_155 (c_X2_planOrders (ad0 := ad0) (ad1 := (fun i => ad1 (i + 1)))  e_y13) rfl rfl rfl rfl rfl rfl rfl rfl rfl rfl rfl rfl rfl rfl rfl (Nat.le_of_ble_eq_true rfl) ⟨Nat.le_of_ble_eq_true rfl, Nat.le_of_ble_eq_true rfl⟩ dX2_findOrder_59 (fun _ => ?_)
  refine a_aload_n (pc := 62) X 3 dX2_findOrder_62 rfl rfl ?_
  refine a_getR (pc := 63) X 0 7 7 fl_RX2_26 rfl rfl rfl rfl rfl dX2_findOrder_63 ?_
  refine a_iload (pc := 66) X 1 dX2_findOrder_66 rfl ?_
  refine a_bipush (pc := 68) X dX2_findOrder_68 q_bp_8 ?_
  refine a_imul (pc := 70) X dX2_findOrder_70 ?_
  refine a_iload (pc := 71) X 0 dX2_findOrder_71 rfl ?_
  refine a_iadd (pc := 73) X dX2_findOrder_73 ?_
  obtain ⟨y14, e_y14, h⟩ := x_lt_elim h
  refine a_callV (pc := 74) (st2 := [.int y14]) (vs2 := [y13, v1]) X [(0, 7, 2)] [none] 0 7 3 [.int ((y9 * (8 : Int32)) + y10)] [] cv_RX2_79 (ct_get (ad0 := (fun i => ad0 (i + 7))) (by decide) e_y14) rfl rfl rfl rfl rfl rfl rfl rfl rfl rfl rfl rfl rfl rfl rfl (Nat.le_of_ble_eq_true rfl) ⟨Nat.le_of_ble_eq_true rfl, Nat.le_of_ble_eq_true rfl⟩ dX2_findOrder_74 (fun _ => ?_)
  refine a_istore (pc := 77) X [(6, .int y14), (5, .int y10), (4, .int y9), (3, .ref (ad1 1)), (0, .ref (ad0 0)), (1, .ref (ad1 0)), (2, .int x1)] dX2_findOrder_77 (by decide) rfl ?_
  refine a_iload (pc := 79) X 0 dX2_findOrder_79 rfl ?_
  refine a_ldc (pc := 81) X kc_RX2_135 dX2_findOrder_81 ?_
  refine a_icmp_lt (pc := 83) X 88 dX2_findOrder_83 rfl (fun c_83 => ?_) (fun c_83 => ?_)
  · have h := x_ifp c_83 h
    refine a_aload_n (pc := 88) X 4 dX2_findOrder_88 rfl rfl ?_
    refine a_iconst (pc := 89) X dX2_findOrder_89 q_ic_0 ?_
    refine a_putI (pc := 90) X 0 fl_RX2_159 rfl rfl rfl rfl dX2_findOrder_90 ?_
    obtain ⟨m15, e_m15, h⟩ := x_lt_elim h
    refine a_nm (vs2 := [m15, v1]) (congrArg (fun q : XM => [q, v1]) e_m15) ?_
    refine a_sub [4, 3, 2, 1, 0] rfl ?_
    exact w_X2_findOrder_93 X    x_NN _ _ _ _ h
  · have h := x_ifn c_83 h
    refine a_iconst (pc := 86) X dX2_findOrder_86 q_ic_m1 ?_
    have h := Option.some.inj h; subst h
    exact a_iret (pc := 87) X trivial dX2_findOrder_87
theorem dX2_findMeeting_0 : decode cX2_findMeeting 0 = .ok (.aload_n 0, 1) := by decide +kernel
theorem dX2_findMeeting_1 : decode cX2_findMeeting 1 = .ok (.aload_n 1, 1) := by decide +kernel
theorem dX2_findMeeting_2 : decode cX2_findMeeting 2 = .ok (.aload_n 1, 1) := by decide +kernel
theorem dX2_findMeeting_3 : decode cX2_findMeeting 3 = .ok (.getfield 70, 3) := by decide +kernel
theorem dX2_findMeeting_6 : decode cX2_findMeeting 6 = .ok (.getfield 109, 3) := by decide +kernel
theorem dX2_findMeeting_9 : decode cX2_findMeeting 9 = .ok (.iload_n 2, 1) := by decide +kernel
theorem dX2_findMeeting_10 : decode cX2_findMeeting 10 = .ok (.invokevirtual 79, 3) := by decide +kernel
theorem dX2_findMeeting_13 : decode cX2_findMeeting 13 = .ok (.aload_n 1, 1) := by decide +kernel
theorem dX2_findMeeting_14 : decode cX2_findMeeting 14 = .ok (.getfield 56, 3) := by decide +kernel
theorem dX2_findMeeting_17 : decode cX2_findMeeting 17 = .ok (.getfield 112, 3) := by decide +kernel
theorem dX2_findMeeting_20 : decode cX2_findMeeting 20 = .ok (.iload_n 2, 1) := by decide +kernel
theorem dX2_findMeeting_21 : decode cX2_findMeeting 21 = .ok (.invokevirtual 79, 3) := by decide +kernel
theorem dX2_findMeeting_24 : decode cX2_findMeeting 24 = .ok (.aload_n 0, 1) := by decide +kernel
theorem dX2_findMeeting_25 : decode cX2_findMeeting 25 = .ok (.getfield 14, 3) := by decide +kernel
theorem dX2_findMeeting_28 : decode cX2_findMeeting 28 = .ok (.invokevirtual 101, 3) := by decide +kernel
theorem dX2_findMeeting_31 : decode cX2_findMeeting 31 = .ok (.aload_n 0, 1) := by decide +kernel
theorem dX2_findMeeting_32 : decode cX2_findMeeting 32 = .ok (.aload_n 1, 1) := by decide +kernel
theorem dX2_findMeeting_33 : decode cX2_findMeeting 33 = .ok (.aload_n 1, 1) := by decide +kernel
theorem dX2_findMeeting_34 : decode cX2_findMeeting 34 = .ok (.getfield 70, 3) := by decide +kernel
theorem dX2_findMeeting_37 : decode cX2_findMeeting 37 = .ok (.getfield 109, 3) := by decide +kernel
theorem dX2_findMeeting_40 : decode cX2_findMeeting 40 = .ok (.iload_n 3, 1) := by decide +kernel
theorem dX2_findMeeting_41 : decode cX2_findMeeting 41 = .ok (.invokevirtual 79, 3) := by decide +kernel
theorem dX2_findMeeting_44 : decode cX2_findMeeting 44 = .ok (.aload_n 1, 1) := by decide +kernel
theorem dX2_findMeeting_45 : decode cX2_findMeeting 45 = .ok (.getfield 56, 3) := by decide +kernel
theorem dX2_findMeeting_48 : decode cX2_findMeeting 48 = .ok (.getfield 112, 3) := by decide +kernel
theorem dX2_findMeeting_51 : decode cX2_findMeeting 51 = .ok (.iload_n 3, 1) := by decide +kernel
theorem dX2_findMeeting_52 : decode cX2_findMeeting 52 = .ok (.invokevirtual 79, 3) := by decide +kernel
theorem dX2_findMeeting_55 : decode cX2_findMeeting 55 = .ok (.aload_n 0, 1) := by decide +kernel
theorem dX2_findMeeting_56 : decode cX2_findMeeting 56 = .ok (.getfield 20, 3) := by decide +kernel
theorem dX2_findMeeting_59 : decode cX2_findMeeting 59 = .ok (.invokevirtual 101, 3) := by decide +kernel
theorem dX2_findMeeting_62 : decode cX2_findMeeting 62 = .ok (.ldc 135, 2) := by decide +kernel
theorem dX2_findMeeting_64 : decode cX2_findMeeting 64 = .ok (.istore 4, 2) := by decide +kernel
theorem dX2_findMeeting_66 : decode cX2_findMeeting 66 = .ok (.iconst 0, 1) := by decide +kernel
theorem dX2_findMeeting_67 : decode cX2_findMeeting 67 = .ok (.istore 5, 2) := by decide +kernel
theorem dX2_findMeeting_69 : decode cX2_findMeeting 69 = .ok (.iload 5, 2) := by decide +kernel
theorem dX2_findMeeting_71 : decode cX2_findMeeting 71 = .ok (.aload_n 1, 1) := by decide +kernel
theorem dX2_findMeeting_72 : decode cX2_findMeeting 72 = .ok (.getfield 56, 3) := by decide +kernel
theorem dX2_findMeeting_75 : decode cX2_findMeeting 75 = .ok (.getfield 62, 3) := by decide +kernel
theorem dX2_findMeeting_78 : decode cX2_findMeeting 78 = .ok (.if_icmp .ge 49, 3) := by decide +kernel
theorem dX2_findMeeting_81 : decode cX2_findMeeting 81 = .ok (.aload_n 0, 1) := by decide +kernel
theorem dX2_findMeeting_82 : decode cX2_findMeeting 82 = .ok (.getfield 14, 3) := by decide +kernel
theorem dX2_findMeeting_85 : decode cX2_findMeeting 85 = .ok (.iload 5, 2) := by decide +kernel
theorem dX2_findMeeting_87 : decode cX2_findMeeting 87 = .ok (.invokestatic 105, 3) := by decide +kernel
theorem dX2_findMeeting_90 : decode cX2_findMeeting 90 = .ok (.aload_n 0, 1) := by decide +kernel
theorem dX2_findMeeting_91 : decode cX2_findMeeting 91 = .ok (.getfield 20, 3) := by decide +kernel
theorem dX2_findMeeting_94 : decode cX2_findMeeting 94 = .ok (.iload 5, 2) := by decide +kernel
theorem dX2_findMeeting_96 : decode cX2_findMeeting 96 = .ok (.invokestatic 105, 3) := by decide +kernel
theorem dX2_findMeeting_99 : decode cX2_findMeeting 99 = .ok (.invokestatic 177, 3) := by decide +kernel
theorem dX2_findMeeting_102 : decode cX2_findMeeting 102 = .ok (.istore 6, 2) := by decide +kernel
theorem dX2_findMeeting_104 : decode cX2_findMeeting 104 = .ok (.iload 6, 2) := by decide +kernel
theorem dX2_findMeeting_106 : decode cX2_findMeeting 106 = .ok (.iload 4, 2) := by decide +kernel
theorem dX2_findMeeting_108 : decode cX2_findMeeting 108 = .ok (.if_icmp .ge 13, 3) := by decide +kernel
theorem dX2_findMeeting_111 : decode cX2_findMeeting 111 = .ok (.iload 6, 2) := by decide +kernel
theorem dX2_findMeeting_113 : decode cX2_findMeeting 113 = .ok (.istore 4, 2) := by decide +kernel
theorem dX2_findMeeting_115 : decode cX2_findMeeting 115 = .ok (.aload_n 0, 1) := by decide +kernel
theorem dX2_findMeeting_116 : decode cX2_findMeeting 116 = .ok (.iload 5, 2) := by decide +kernel
theorem dX2_findMeeting_118 : decode cX2_findMeeting 118 = .ok (.putfield 38, 3) := by decide +kernel
theorem dX2_findMeeting_121 : decode cX2_findMeeting 121 = .ok (.iinc 5 1, 3) := by decide +kernel
theorem dX2_findMeeting_124 : decode cX2_findMeeting 124 = .ok (.goto (-55), 3) := by decide +kernel
theorem dX2_findMeeting_127 : decode cX2_findMeeting 127 = .ok (.iload 4, 2) := by decide +kernel
theorem dX2_findMeeting_129 : decode cX2_findMeeting 129 = .ok (.ldc 135, 2) := by decide +kernel
theorem dX2_findMeeting_131 : decode cX2_findMeeting 131 = .ok (.if_icmp .ge 8, 3) := by decide +kernel
theorem dX2_findMeeting_134 : decode cX2_findMeeting 134 = .ok (.iload 4, 2) := by decide +kernel
theorem dX2_findMeeting_136 : decode cX2_findMeeting 136 = .ok (.goto 4, 3) := by decide +kernel
theorem dX2_findMeeting_139 : decode cX2_findMeeting 139 = .ok (.iconst (-1), 1) := by decide +kernel
theorem dX2_findMeeting_140 : decode cX2_findMeeting 140 = .ok (.ireturn, 1) := by decide +kernel
def f_X2_findMeeting_121 (v1 : XM) (k69 : XM → Int32 → Int32 → Option (Int32 × XM)) (w0 : XM) (l4 : Int32) (l5 : Int32) : Option (Int32 × XM) :=
  k69 w0 l4 (l5 + 1)
def f_X2_findMeeting_69 (v1 : XM) (k69 : XM → Int32 → Int32 → Option (Int32 × XM)) (w0 : XM) (l4 : Int32) (l5 : Int32) : Option (Int32 × XM) :=
  if ((v1.1 1 0) : Int32) ≤ l5 then
  (if ((65536 : Int32) : Int32) ≤ l4 then
  (some ((-1 : Int32), w0))
  else (some (l4, w0)))
  else (x_lt (f_X2_hoursTo (x_sub w0 1) l5) (fun y1 =>
  x_lt (f_X2_hoursTo (x_sub w0 3) l5) (fun y2 =>
  x_lt (if y1 < y2 then y2 else y1) (fun y3 =>
  if (l4 : Int32) ≤ y3 then
  (f_X2_findMeeting_121 v1 k69 w0 l4 l5)
  else (x_lt (x_si w0 0 9 l5) (fun m4 =>
  f_X2_findMeeting_121 v1 k69 m4 y3 l5))))))
def f_X2_findMeeting (v0 : XM) (v1 : XM) (x1 : Int32) (x2 : Int32) : Option (Int32 × XM) :=
  x_lt (r_get 5 (x_sub v1 18) x1) (fun y5 =>
  x_lt (r_get 5 (x_sub v1 14) x1) (fun y6 =>
  x_bo (f_X2_spread (x_sub v0 0) v1 (x_sub v0 1) y5 y6) (fun y7 =>
  x_lt (x_put v0 1 2 y7) (fun m8 =>
  x_lt (r_get 5 (x_sub v1 18) x2) (fun y9 =>
  x_lt (r_get 5 (x_sub v1 14) x2) (fun y10 =>
  x_bo (f_X2_spread (x_sub m8 0) v1 (x_sub m8 3) y9 y10) (fun y11 =>
  x_lt (x_put m8 3 2 y11) (fun m12 =>
  x_lp (φ := XM → Int32 → Int32 → Option (Int32 × XM)) (fun _ _ _ => none) (f_X2_findMeeting_69 v1 ) x_NN m12 (65536 : Int32) (0 : Int32)))))))))
set_option maxRecDepth 100000 in
set_option maxHeartbeats 4000000 in
theorem w_X2_findMeeting_121 {p : Program} {l : Launch} {e : Env} {s : State} {m : MethodId} {args : Array Value} {below : List Frame} {meth : Method} {c : Code} {D : va_G} {tc : Nat → ClassId} {aK aV : Nat → Nat} {A : Nat → Prop} {ad0 : Nat → Nat} {ad1 : Nat → Nat} {v1 : XM} (X : Cx p s m args meth c cX2_findMeeting 7 (some .int) RX2 D tc aK aV A [(shRoads, ad0), (shWorld, ad1)])  {o : Int32 × XM} {k69 : XM → Int32 → Int32 → Option (Int32 × XM)} (hk69 : ∀ (w0 : XM) (l4 : Int32) (l5 : Int32), k69 w0 l4 l5 = some o → aW p l e (x_Rm 5) s m args below meth c D tc A 7 [(shRoads, ad0), (shWorld, ad1)] (some (.int o.1)) True [o.2, v1] 69 [(0, .ref (ad0 0)), (1, .ref (ad1 0)), (4, .int l4), (5, .int l5)] [] [w0, v1]) {w0 : XM} {l4 : Int32} {l5 : Int32}  (h : f_X2_findMeeting_121 v1 k69 w0 l4 l5 = some o) : aW p l e (x_Rm 5) s m args below meth c D tc A 7 [(shRoads, ad0), (shWorld, ad1)] (some (.int o.1)) True [o.2, v1] 121 [(0, .ref (ad0 0)), (1, .ref (ad1 0)), (4, .int l4), (5, .int l5)] [] [w0, v1] := by
  unfold f_X2_findMeeting_121 at h
  refine a_iinc (pc := 121) X 3 [(5, .int (l5 + 1)), (0, .ref (ad0 0)), (1, .ref (ad1 0)), (4, .int l4)] dX2_findMeeting_121 rfl (congrArg (HAdd.hAdd l5) q_ic_1) (by decide) rfl ?_
  refine a_goto (pc := 124) X 69 dX2_findMeeting_124 rfl ?_
  refine a_sub [1, 2, 3, 0] rfl ?_
  exact hk69 _ _ _ h
set_option maxRecDepth 100000 in
set_option maxHeartbeats 4000000 in
theorem w_X2_findMeeting_69 {p : Program} {l : Launch} {e : Env} {s : State} {m : MethodId} {args : Array Value} {below : List Frame} {meth : Method} {c : Code} {D : va_G} {tc : Nat → ClassId} {aK aV : Nat → Nat} {A : Nat → Prop} {ad0 : Nat → Nat} {ad1 : Nat → Nat} {v1 : XM} (X : Cx p s m args meth c cX2_findMeeting 7 (some .int) RX2 D tc aK aV A [(shRoads, ad0), (shWorld, ad1)])  {o : Int32 × XM}  : ∀ (n : Nat), ∀ (w0 : XM) (l4 : Int32) (l5 : Int32), x_lp (φ := XM → Int32 → Int32 → Option (Int32 × XM)) (fun _ _ _ => none) (f_X2_findMeeting_69 v1 ) n w0 l4 l5 = some o → aW p l e (x_Rm 5) s m args below meth c D tc A 7 [(shRoads, ad0), (shWorld, ad1)] (some (.int o.1)) True [o.2, v1] 69 [(0, .ref (ad0 0)), (1, .ref (ad1 0)), (4, .int l4), (5, .int l5)] [] [w0, v1] := by
  intro n
  induction n with
  | zero => intro w0 l4 l5 h; exact absurd h (fun q => by cases q)
  | succ n ih =>
    intro w0 l4 l5 h
    have h : f_X2_findMeeting_69 v1  (x_lp (φ := XM → Int32 → Int32 → Option (Int32 × XM)) (fun _ _ _ => none) (f_X2_findMeeting_69 v1 ) n) w0 l4 l5 = some o := h
    generalize x_lp (φ := XM → Int32 → Int32 → Option (Int32 × XM)) (fun _ _ _ => none) (f_X2_findMeeting_69 v1 ) n = k69 at h ih
    have hk69 := ih
    unfold f_X2_findMeeting_69 at h
    refine a_iload (pc := 69) X 3 dX2_findMeeting_69 rfl ?_
    refine a_aload_n (pc := 71) X 1 dX2_findMeeting_71 rfl rfl ?_
    refine a_getR (pc := 72) X 1 1 1 fl_RX2_56 rfl rfl rfl rfl rfl dX2_findMeeting_72 ?_
    refine a_getI (pc := 75) X 1 fl_RX2_62 rfl rfl rfl rfl dX2_findMeeting_75 ?_
    refine a_icmp_ge (pc := 78) X 127 dX2_findMeeting_78 rfl (fun c_78 => ?_) (fun c_78 => ?_)
    · have h := x_ifp c_78 h
      refine a_iload (pc := 127) X 2 dX2_findMeeting_127 rfl ?_
      refine a_ldc (pc := 129) X kc_RX2_135 dX2_findMeeting_129 ?_
      refine a_icmp_ge (pc := 131) X 139 dX2_findMeeting_131 rfl (fun c_131 => ?_) (fun c_131 => ?_)
      · have h := x_ifp c_131 h
        refine a_iconst (pc := 139) X dX2_findMeeting_139 q_ic_m1 ?_
        have h := Option.some.inj h; subst h
        exact a_iret (pc := 140) X trivial dX2_findMeeting_140
      · have h := x_ifn c_131 h
        refine a_iload (pc := 134) X 2 dX2_findMeeting_134 rfl ?_
        refine a_goto (pc := 136) X 140 dX2_findMeeting_136 rfl ?_
        have h := Option.some.inj h; subst h
        exact a_iret (pc := 140) X trivial dX2_findMeeting_140
    · have h := x_ifn c_78 h
      refine a_aload_n (pc := 81) X 0 dX2_findMeeting_81 rfl rfl ?_
      refine a_getR (pc := 82) X 0 1 1 fl_RX2_14 rfl rfl rfl rfl rfl dX2_findMeeting_82 ?_
      refine a_iload (pc := 85) X 3 dX2_findMeeting_85 rfl ?_
      obtain ⟨y1, e_y1, h⟩ := x_lt_elim h
      refine a_callS (pc := 87) (st2 := [.int y1]) (vs2 := [w0, v1]) X [(0, 1, 2)] [none] [.ref (ad0 1), .int l5] [] cv_RX2_105 (c_X2_hoursTo (ad0 := (fun i => ad0 (i + 1)))  e_y1) rfl rfl rfl rfl rfl rfl rfl rfl rfl rfl rfl (Nat.le_of_ble_eq_true rfl) ⟨Nat.le_of_ble_eq_true rfl, Nat.le_of_ble_eq_true rfl⟩ dX2_findMeeting_87 (fun _ => ?_)
      refine a_aload_n (pc := 90) X 0 dX2_findMeeting_90 rfl rfl ?_
      refine a_getR (pc := 91) X 0 3 3 fl_RX2_20 rfl rfl rfl rfl rfl dX2_findMeeting_91 ?_
      refine a_iload (pc := 94) X 3 dX2_findMeeting_94 rfl ?_
      obtain ⟨y2, e_y2, h⟩ := x_lt_elim h
      refine a_callS (pc := 96) (st2 := [.int y2, .int y1]) (vs2 := [w0, v1]) X [(0, 3, 2)] [none] [.ref (ad0 3), .int l5] [.int y1] cv_RX2_105 (c_X2_hoursTo (ad0 := (fun i => ad0 (i + 3)))  e_y2) rfl rfl rfl rfl rfl rfl rfl rfl rfl rfl rfl (Nat.le_of_ble_eq_true rfl) ⟨Nat.le_of_ble_eq_true rfl, Nat.le_of_ble_eq_true rfl⟩ dX2_findMeeting_96 (fun _ => ?_)
      refine a_max (pc := 99) X kmax dX2_findMeeting_99 (by decide) (Nat.le_of_ble_eq_true rfl) ?_
      obtain ⟨y3, e_y3, h⟩ := x_lt_elim h
      refine a_ni e_y3 ?_
      refine a_istore (pc := 102) X [(6, .int y3), (0, .ref (ad0 0)), (1, .ref (ad1 0)), (4, .int l4), (5, .int l5)] dX2_findMeeting_102 (by decide) rfl ?_
      refine a_iload (pc := 104) X 0 dX2_findMeeting_104 rfl ?_
      refine a_iload (pc := 106) X 3 dX2_findMeeting_106 rfl ?_
      refine a_icmp_ge (pc := 108) X 121 dX2_findMeeting_108 rfl (fun c_108 => ?_) (fun c_108 => ?_)
      · have h := x_ifp c_108 h
        refine a_sub [1, 2, 3, 4] rfl ?_
        exact w_X2_findMeeting_121 X   hk69  h
      · have h := x_ifn c_108 h
        refine a_iload (pc := 111) X 0 dX2_findMeeting_111 rfl ?_
        refine a_istore (pc := 113) X [(4, .int y3), (6, .int y3), (0, .ref (ad0 0)), (1, .ref (ad1 0)), (5, .int l5)] dX2_findMeeting_113 (by decide) rfl ?_
        refine a_aload_n (pc := 115) X 2 dX2_findMeeting_115 rfl rfl ?_
        refine a_iload (pc := 116) X 4 dX2_findMeeting_116 rfl ?_
        refine a_putI (pc := 118) X 0 fl_RX2_38 rfl rfl rfl rfl dX2_findMeeting_118 ?_
        obtain ⟨m4, e_m4, h⟩ := x_lt_elim h
        refine a_nm (vs2 := [m4, v1]) (congrArg (fun q : XM => [q, v1]) e_m4) ?_
        refine a_sub [2, 3, 0, 4] rfl ?_
        exact w_X2_findMeeting_121 X   hk69  h
set_option maxRecDepth 100000 in
set_option maxHeartbeats 4000000 in
theorem c_X2_findMeeting {l : Launch}  {ad0 : Nat → Nat} {ad1 : Nat → Nat} {v0 v1 : XM} {x1 : Int32} {x2 : Int32}  {o : Int32 × XM} (h : f_X2_findMeeting v0 v1 x1 x2 = some o) : CT l yX2_findMeeting cX2_findMeeting 7 (some .int) 5 [(shRoads, ad0), (shWorld, ad1)] [v0, v1] (fun aK => [.ref (ad0 0), .ref (ad1 0), .int x1, .int x2]) (some (.int o.1)) True [o.2, v1] := by
  refine CT_of (by decide) (fun _ => Nat.le_of_ble_eq_true rfl) ?_
  intro p e s m args below meth c D tc aK aV A X
  have X : Cx p s m args meth c cX2_findMeeting 7 (some .int) RX2 D tc aK aV A [(shRoads, ad0), (shWorld, ad1)] := X
  show aW p l e (x_Rm 5) s m args below meth c D tc A 7 [(shRoads, ad0), (shWorld, ad1)] (some (.int o.1)) True [o.2, v1] 0 [(0, .ref (ad0 0)), (1, .ref (ad1 0)), (2, .int x1), (3, .int x2)] [] [v0, v1]
  unfold f_X2_findMeeting at h
  refine a_aload_n (pc := 0) X 0 dX2_findMeeting_0 rfl rfl ?_
  refine a_aload_n (pc := 1) X 1 dX2_findMeeting_1 rfl rfl ?_
  refine a_aload_n (pc := 2) X 1 dX2_findMeeting_2 rfl rfl ?_
  refine a_getR (pc := 3) X 1 17 17 fl_RX2_70 rfl rfl rfl rfl rfl dX2_findMeeting_3 ?_
  refine a_getR (pc := 6) X 1 1 18 fl_RX2_109 rfl rfl rfl rfl rfl dX2_findMeeting_6 ?_
  refine a_iload_n (pc := 9) X 2 dX2_findMeeting_9 rfl rfl ?_
  obtain ⟨y5, e_y5, h⟩ := x_lt_elim h
  refine a_callV (pc := 10) (st2 := [.int y5, .ref (ad1 0), .ref (ad0 0)]) (vs2 := [v0, v1]) X [(1, 18, 2)] [none] 1 18 3 [.int x1] [.ref (ad1 0), .ref (ad0 0)] cv_RX2_79 (ct_get (ad0 := (fun i => ad1 (i + 18))) (by decide) e_y5) rfl rfl rfl rfl rfl rfl rfl rfl rfl rfl rfl rfl rfl rfl rfl (Nat.le_of_ble_eq_true rfl) ⟨Nat.le_of_ble_eq_true rfl, Nat.le_of_ble_eq_true rfl⟩ dX2_findMeeting_10 (fun _ => ?_)
  refine a_aload_n (pc := 13) X 1 dX2_findMeeting_13 rfl rfl ?_
  refine a_getR (pc := 14) X 1 1 1 fl_RX2_56 rfl rfl rfl rfl rfl dX2_findMeeting_14 ?_
  refine a_getR (pc := 17) X 1 13 14 fl_RX2_112 rfl rfl rfl rfl rfl dX2_findMeeting_17 ?_
  refine a_iload_n (pc := 20) X 2 dX2_findMeeting_20 rfl rfl ?_
  obtain ⟨y6, e_y6, h⟩ := x_lt_elim h
  refine a_callV (pc := 21) (st2 := [.int y6, .int y5, .ref (ad1 0), .ref (ad0 0)]) (vs2 := [v0, v1]) X [(1, 14, 2)] [none] 1 14 3 [.int x1] [.int y5, .ref (ad1 0), .ref (ad0 0)] cv_RX2_79 (ct_get (ad0 := (fun i => ad1 (i + 14))) (by decide) e_y6) rfl rfl rfl rfl rfl rfl rfl rfl rfl rfl rfl rfl rfl rfl rfl (Nat.le_of_ble_eq_true rfl) ⟨Nat.le_of_ble_eq_true rfl, Nat.le_of_ble_eq_true rfl⟩ dX2_findMeeting_21 (fun _ => ?_)
  refine a_aload_n (pc := 24) X 0 dX2_findMeeting_24 rfl rfl ?_
  refine a_getR (pc := 25) X 0 1 1 fl_RX2_14 rfl rfl rfl rfl rfl dX2_findMeeting_25 ?_
  obtain ⟨y7, e_y7, h⟩ := x_bo_elim h
  refine a_callV (pc := 28) (st2 := []) (vs2 := [x_put v0 1 2 y7, v1]) X [(0, 0, 0), (1, 0, 32), (0, 1, 2)] [none, none, some y7] 0 0 2 [.ref (ad1 0), .int y5, .int y6, .ref (ad0 1)] [] cv_RX2_101 (c_X2_spread (ad0 := (fun i => ad0 (i + 0))) (ad1 := ad1) (ad2 := (fun i => ad0 (i + 1)))  e_y7) rfl rfl rfl rfl rfl rfl rfl rfl rfl rfl rfl rfl rfl rfl rfl (Nat.le_of_ble_eq_true rfl) ⟨Nat.le_of_ble_eq_true rfl, Nat.le_of_ble_eq_true rfl⟩ dX2_findMeeting_28 (fun _ => ?_)
  obtain ⟨m8, e_m8, h⟩ := x_lt_elim h
  refine a_nm (vs2 := [m8, v1]) (congrArg (fun q : XM => [q, v1]) e_m8) ?_
  refine a_aload_n (pc := 31) X 0 dX2_findMeeting_31 rfl rfl ?_
  refine a_aload_n (pc := 32) X 1 dX2_findMeeting_32 rfl rfl ?_
  refine a_aload_n (pc := 33) X 1 dX2_findMeeting_33 rfl rfl ?_
  refine a_getR (pc := 34) X 1 17 17 fl_RX2_70 rfl rfl rfl rfl rfl dX2_findMeeting_34 ?_
  refine a_getR (pc := 37) X 1 1 18 fl_RX2_109 rfl rfl rfl rfl rfl dX2_findMeeting_37 ?_
  refine a_iload_n (pc := 40) X 3 dX2_findMeeting_40 rfl rfl ?_
  obtain ⟨y9, e_y9, h⟩ := x_lt_elim h
  refine a_callV (pc := 41) (st2 := [.int y9, .ref (ad1 0), .ref (ad0 0)]) (vs2 := [m8, v1]) X [(1, 18, 2)] [none] 1 18 3 [.int x2] [.ref (ad1 0), .ref (ad0 0)] cv_RX2_79 (ct_get (ad0 := (fun i => ad1 (i + 18))) (by decide) e_y9) rfl rfl rfl rfl rfl rfl rfl rfl rfl rfl rfl rfl rfl rfl rfl (Nat.le_of_ble_eq_true rfl) ⟨Nat.le_of_ble_eq_true rfl, Nat.le_of_ble_eq_true rfl⟩ dX2_findMeeting_41 (fun _ => ?_)
  refine a_aload_n (pc := 44) X 1 dX2_findMeeting_44 rfl rfl ?_
  refine a_getR (pc := 45) X 1 1 1 fl_RX2_56 rfl rfl rfl rfl rfl dX2_findMeeting_45 ?_
  refine a_getR (pc := 48) X 1 13 14 fl_RX2_112 rfl rfl rfl rfl rfl dX2_findMeeting_48 ?_
  refine a_iload_n (pc := 51) X 3 dX2_findMeeting_51 rfl rfl ?_
  obtain ⟨y10, e_y10, h⟩ := x_lt_elim h
  refine a_callV (pc := 52) (st2 := [.int y10, .int y9, .ref (ad1 0), .ref (ad0 0)]) (vs2 := [m8, v1]) X [(1, 14, 2)] [none] 1 14 3 [.int x2] [.int y9, .ref (ad1 0), .ref (ad0 0)] cv_RX2_79 (ct_get (ad0 := (fun i => ad1 (i + 14))) (by decide) e_y10) rfl rfl rfl rfl rfl rfl rfl rfl rfl rfl rfl rfl rfl rfl rfl (Nat.le_of_ble_eq_true rfl) ⟨Nat.le_of_ble_eq_true rfl, Nat.le_of_ble_eq_true rfl⟩ dX2_findMeeting_52 (fun _ => ?_)
  refine a_aload_n (pc := 55) X 0 dX2_findMeeting_55 rfl rfl ?_
  refine a_getR (pc := 56) X 0 3 3 fl_RX2_20 rfl rfl rfl rfl rfl dX2_findMeeting_56 ?_
  obtain ⟨y11, e_y11, h⟩ := x_bo_elim h
  refine a_callV (pc := 59) (st2 := []) (vs2 := [x_put m8 3 2 y11, v1]) X [(0, 0, 0), (1, 0, 32), (0, 3, 2)] [none, none, some y11] 0 0 2 [.ref (ad1 0), .int y9, .int y10, .ref (ad0 3)] [] cv_RX2_101 (c_X2_spread (ad0 := (fun i => ad0 (i + 0))) (ad1 := ad1) (ad2 := (fun i => ad0 (i + 3)))  e_y11) rfl rfl rfl rfl rfl rfl rfl rfl rfl rfl rfl rfl rfl rfl rfl (Nat.le_of_ble_eq_true rfl) ⟨Nat.le_of_ble_eq_true rfl, Nat.le_of_ble_eq_true rfl⟩ dX2_findMeeting_59 (fun _ => ?_)
  obtain ⟨m12, e_m12, h⟩ := x_lt_elim h
  refine a_nm (vs2 := [m12, v1]) (congrArg (fun q : XM => [q, v1]) e_m12) ?_
  refine a_ldc (pc := 62) X kc_RX2_135 dX2_findMeeting_62 ?_
  refine a_istore (pc := 64) X [(4, .int (65536 : Int32)), (0, .ref (ad0 0)), (1, .ref (ad1 0)), (2, .int x1), (3, .int x2)] dX2_findMeeting_64 (by decide) rfl ?_
  refine a_iconst (pc := 66) X dX2_findMeeting_66 q_ic_0 ?_
  refine a_istore (pc := 67) X [(5, .int (0 : Int32)), (4, .int (65536 : Int32)), (0, .ref (ad0 0)), (1, .ref (ad1 0)), (2, .int x1), (3, .int x2)] dX2_findMeeting_67 (by decide) rfl ?_
  refine a_sub [2, 3, 1, 0] rfl ?_
  exact w_X2_findMeeting_69 X    x_NN _ _ _ h
theorem dX2_spotsWithin_0 : decode cX2_spotsWithin 0 = .ok (.iconst 0, 1) := by decide +kernel
theorem dX2_spotsWithin_1 : decode cX2_spotsWithin 1 = .ok (.istore 4, 2) := by decide +kernel
theorem dX2_spotsWithin_3 : decode cX2_spotsWithin 3 = .ok (.iconst 0, 1) := by decide +kernel
theorem dX2_spotsWithin_4 : decode cX2_spotsWithin 4 = .ok (.istore 5, 2) := by decide +kernel
theorem dX2_spotsWithin_6 : decode cX2_spotsWithin 6 = .ok (.iload 5, 2) := by decide +kernel
theorem dX2_spotsWithin_8 : decode cX2_spotsWithin 8 = .ok (.aload_n 1, 1) := by decide +kernel
theorem dX2_spotsWithin_9 : decode cX2_spotsWithin 9 = .ok (.getfield 62, 3) := by decide +kernel
theorem dX2_spotsWithin_12 : decode cX2_spotsWithin 12 = .ok (.if_icmp .ge 29, 3) := by decide +kernel
theorem dX2_spotsWithin_15 : decode cX2_spotsWithin 15 = .ok (.aload_n 0, 1) := by decide +kernel
theorem dX2_spotsWithin_16 : decode cX2_spotsWithin 16 = .ok (.iload_n 2, 1) := by decide +kernel
theorem dX2_spotsWithin_17 : decode cX2_spotsWithin 17 = .ok (.iload 5, 2) := by decide +kernel
theorem dX2_spotsWithin_19 : decode cX2_spotsWithin 19 = .ok (.invokevirtual 174, 3) := by decide +kernel
theorem dX2_spotsWithin_22 : decode cX2_spotsWithin 22 = .ok (.iload_n 3, 1) := by decide +kernel
theorem dX2_spotsWithin_23 : decode cX2_spotsWithin 23 = .ok (.if_icmp .gt 12, 3) := by decide +kernel
theorem dX2_spotsWithin_26 : decode cX2_spotsWithin 26 = .ok (.iload 4, 2) := by decide +kernel
theorem dX2_spotsWithin_28 : decode cX2_spotsWithin 28 = .ok (.iconst 1, 1) := by decide +kernel
theorem dX2_spotsWithin_29 : decode cX2_spotsWithin 29 = .ok (.iload 5, 2) := by decide +kernel
theorem dX2_spotsWithin_31 : decode cX2_spotsWithin 31 = .ok (.ishl, 1) := by decide +kernel
theorem dX2_spotsWithin_32 : decode cX2_spotsWithin 32 = .ok (.ior, 1) := by decide +kernel
theorem dX2_spotsWithin_33 : decode cX2_spotsWithin 33 = .ok (.istore 4, 2) := by decide +kernel
theorem dX2_spotsWithin_35 : decode cX2_spotsWithin 35 = .ok (.iinc 5 1, 3) := by decide +kernel
theorem dX2_spotsWithin_38 : decode cX2_spotsWithin 38 = .ok (.goto (-32), 3) := by decide +kernel
theorem dX2_spotsWithin_41 : decode cX2_spotsWithin 41 = .ok (.iload 4, 2) := by decide +kernel
theorem dX2_spotsWithin_43 : decode cX2_spotsWithin 43 = .ok (.ireturn, 1) := by decide +kernel
def f_X2_spotsWithin_35 (v0 : XM) (v1 : XM) (k6 : Int32 → Int32 → Int32 → Int32 → Option (Int32)) (l2 : Int32) (l3 : Int32) (l4 : Int32) (l5 : Int32) : Option (Int32) :=
  k6 l2 l3 l4 (l5 + 1)
def f_X2_spotsWithin_6 (v0 : XM) (v1 : XM) (k6 : Int32 → Int32 → Int32 → Int32 → Option (Int32)) (l2 : Int32) (l3 : Int32) (l4 : Int32) (l5 : Int32) : Option (Int32) :=
  if ((v1.1 0 0) : Int32) ≤ l5 then
  (some (l4 : Int32))
  else (x_lt (f_X2_farFrom v0 l2 l5) (fun y1 =>
  if (l3 : Int32) < y1 then
  (f_X2_spotsWithin_35 v0 v1 k6 l2 l3 l4 l5)
  else (x_lt (l4 ||| ((1 : Int32) <<< (l5 &&& 31))) (fun y2 =>
  f_X2_spotsWithin_35 v0 v1 k6 l2 l3 y2 l5))))
def f_X2_spotsWithin (v0 : XM) (v1 : XM) (x1 : Int32) (x2 : Int32) : Option (Int32) :=
  x_lp (φ := Int32 → Int32 → Int32 → Int32 → Option (Int32)) (fun _ _ _ _ => none) (f_X2_spotsWithin_6 v0 v1 ) x_NN x1 x2 (0 : Int32) (0 : Int32)
set_option maxRecDepth 100000 in
set_option maxHeartbeats 4000000 in
theorem w_X2_spotsWithin_35 {p : Program} {l : Launch} {e : Env} {s : State} {m : MethodId} {args : Array Value} {below : List Frame} {meth : Method} {c : Code} {D : va_G} {tc : Nat → ClassId} {aK aV : Nat → Nat} {A : Nat → Prop} {ad0 : Nat → Nat} {ad1 : Nat → Nat} {v0 : XM} {v1 : XM} (X : Cx p s m args meth c cX2_spotsWithin 6 (some .int) RX2 D tc aK aV A [(shRoads, ad0), (shValley, ad1)])  {o : Int32} {k6 : Int32 → Int32 → Int32 → Int32 → Option (Int32)} (hk6 : ∀ (l2 : Int32) (l3 : Int32) (l4 : Int32) (l5 : Int32), k6 l2 l3 l4 l5 = some o → aW p l e (x_Rm 2) s m args below meth c D tc A 6 [(shRoads, ad0), (shValley, ad1)] (some (.int o)) True [v0, v1] 6 [(0, .ref (ad0 0)), (1, .ref (ad1 0)), (2, .int l2), (3, .int l3), (4, .int l4), (5, .int l5)] [] [v0, v1]) {l2 : Int32} {l3 : Int32} {l4 : Int32} {l5 : Int32}  (h : f_X2_spotsWithin_35 v0 v1 k6 l2 l3 l4 l5 = some o) : aW p l e (x_Rm 2) s m args below meth c D tc A 6 [(shRoads, ad0), (shValley, ad1)] (some (.int o)) True [v0, v1] 35 [(0, .ref (ad0 0)), (1, .ref (ad1 0)), (2, .int l2), (3, .int l3), (4, .int l4), (5, .int l5)] [] [v0, v1] := by
  unfold f_X2_spotsWithin_35 at h
  refine a_iinc (pc := 35) X 5 [(5, .int (l5 + 1)), (0, .ref (ad0 0)), (1, .ref (ad1 0)), (2, .int l2), (3, .int l3), (4, .int l4)] dX2_spotsWithin_35 rfl (congrArg (HAdd.hAdd l5) q_ic_1) (by decide) rfl ?_
  refine a_goto (pc := 38) X 6 dX2_spotsWithin_38 rfl ?_
  refine a_sub [1, 2, 3, 4, 5, 0] rfl ?_
  exact hk6 _ _ _ _ h
set_option maxRecDepth 100000 in
set_option maxHeartbeats 4000000 in
theorem w_X2_spotsWithin_6 {p : Program} {l : Launch} {e : Env} {s : State} {m : MethodId} {args : Array Value} {below : List Frame} {meth : Method} {c : Code} {D : va_G} {tc : Nat → ClassId} {aK aV : Nat → Nat} {A : Nat → Prop} {ad0 : Nat → Nat} {ad1 : Nat → Nat} {v0 : XM} {v1 : XM} (X : Cx p s m args meth c cX2_spotsWithin 6 (some .int) RX2 D tc aK aV A [(shRoads, ad0), (shValley, ad1)])  {o : Int32}  : ∀ (n : Nat), ∀ (l2 : Int32) (l3 : Int32) (l4 : Int32) (l5 : Int32), x_lp (φ := Int32 → Int32 → Int32 → Int32 → Option (Int32)) (fun _ _ _ _ => none) (f_X2_spotsWithin_6 v0 v1 ) n l2 l3 l4 l5 = some o → aW p l e (x_Rm 2) s m args below meth c D tc A 6 [(shRoads, ad0), (shValley, ad1)] (some (.int o)) True [v0, v1] 6 [(0, .ref (ad0 0)), (1, .ref (ad1 0)), (2, .int l2), (3, .int l3), (4, .int l4), (5, .int l5)] [] [v0, v1] := by
  intro n
  induction n with
  | zero => intro l2 l3 l4 l5 h; exact absurd h (fun q => by cases q)
  | succ n ih =>
    intro l2 l3 l4 l5 h
    have h : f_X2_spotsWithin_6 v0 v1  (x_lp (φ := Int32 → Int32 → Int32 → Int32 → Option (Int32)) (fun _ _ _ _ => none) (f_X2_spotsWithin_6 v0 v1 ) n) l2 l3 l4 l5 = some o := h
    generalize x_lp (φ := Int32 → Int32 → Int32 → Int32 → Option (Int32)) (fun _ _ _ _ => none) (f_X2_spotsWithin_6 v0 v1 ) n = k6 at h ih
    have hk6 := ih
    unfold f_X2_spotsWithin_6 at h
    refine a_iload (pc := 6) X 5 dX2_spotsWithin_6 rfl ?_
    refine a_aload_n (pc := 8) X 1 dX2_spotsWithin_8 rfl rfl ?_
    refine a_getI (pc := 9) X 1 fl_RX2_62 rfl rfl rfl rfl dX2_spotsWithin_9 ?_
    refine a_icmp_ge (pc := 12) X 41 dX2_spotsWithin_12 rfl (fun c_12 => ?_) (fun c_12 => ?_)
    · have h := x_ifp c_12 h
      refine a_iload (pc := 41) X 4 dX2_spotsWithin_41 rfl ?_
      have h := Option.some.inj h; subst h
      exact a_iret (pc := 43) X trivial dX2_spotsWithin_43
    · have h := x_ifn c_12 h
      refine a_aload_n (pc := 15) X 0 dX2_spotsWithin_15 rfl rfl ?_
      refine a_iload_n (pc := 16) X 2 dX2_spotsWithin_16 rfl rfl ?_
      refine a_iload (pc := 17) X 5 dX2_spotsWithin_17 rfl ?_
      obtain ⟨y1, e_y1, h⟩ := x_lt_elim h
      refine a_callV (pc := 19) (st2 := [.int y1]) (vs2 := [v0, v1]) X [(0, 0, 15)] [none] 0 0 2 [.int l2, .int l5] [] cv_RX2_174 (c_X2_farFrom (ad0 := ad0)  e_y1) rfl rfl rfl rfl rfl rfl rfl rfl rfl rfl rfl rfl rfl rfl rfl (Nat.le_of_ble_eq_true rfl) ⟨Nat.le_of_ble_eq_true rfl, Nat.le_of_ble_eq_true rfl⟩ dX2_spotsWithin_19 (fun _ => ?_)
      refine a_iload_n (pc := 22) X 3 dX2_spotsWithin_22 rfl rfl ?_
      refine a_icmp_gt (pc := 23) X 35 dX2_spotsWithin_23 rfl (fun c_23 => ?_) (fun c_23 => ?_)
      · have h := x_ifp c_23 h
        exact w_X2_spotsWithin_35 X   hk6  h
      · have h := x_ifn c_23 h
        refine a_iload (pc := 26) X 4 dX2_spotsWithin_26 rfl ?_
        refine a_iconst (pc := 28) X dX2_spotsWithin_28 q_ic_1 ?_
        refine a_iload (pc := 29) X 5 dX2_spotsWithin_29 rfl ?_
        refine a_ishl (pc := 31) X dX2_spotsWithin_31 ?_
        refine a_ior (pc := 32) X dX2_spotsWithin_32 ?_
        obtain ⟨y2, e_y2, h⟩ := x_lt_elim h
        refine a_ni e_y2 ?_
        refine a_istore (pc := 33) X [(4, .int y2), (0, .ref (ad0 0)), (1, .ref (ad1 0)), (2, .int l2), (3, .int l3), (5, .int l5)] dX2_spotsWithin_33 (by decide) rfl ?_
        refine a_sub [1, 2, 3, 4, 0, 5] rfl ?_
        exact w_X2_spotsWithin_35 X   hk6  h
set_option maxRecDepth 100000 in
set_option maxHeartbeats 4000000 in
theorem c_X2_spotsWithin {l : Launch}  {ad0 : Nat → Nat} {ad1 : Nat → Nat} {v0 v1 : XM} {x1 : Int32} {x2 : Int32}  {o : Int32} (h : f_X2_spotsWithin v0 v1 x1 x2 = some o) : CT l yX2_spotsWithin cX2_spotsWithin 6 (some .int) 2 [(shRoads, ad0), (shValley, ad1)] [v0, v1] (fun aK => [.ref (ad0 0), .ref (ad1 0), .int x1, .int x2]) (some (.int o)) True [v0, v1] := by
  refine CT_of (by decide) (fun _ => Nat.le_of_ble_eq_true rfl) ?_
  intro p e s m args below meth c D tc aK aV A X
  have X : Cx p s m args meth c cX2_spotsWithin 6 (some .int) RX2 D tc aK aV A [(shRoads, ad0), (shValley, ad1)] := X
  show aW p l e (x_Rm 2) s m args below meth c D tc A 6 [(shRoads, ad0), (shValley, ad1)] (some (.int o)) True [v0, v1] 0 [(0, .ref (ad0 0)), (1, .ref (ad1 0)), (2, .int x1), (3, .int x2)] [] [v0, v1]
  unfold f_X2_spotsWithin at h
  refine a_iconst (pc := 0) X dX2_spotsWithin_0 q_ic_0 ?_
  refine a_istore (pc := 1) X [(4, .int (0 : Int32)), (0, .ref (ad0 0)), (1, .ref (ad1 0)), (2, .int x1), (3, .int x2)] dX2_spotsWithin_1 (by decide) rfl ?_
  refine a_iconst (pc := 3) X dX2_spotsWithin_3 q_ic_0 ?_
  refine a_istore (pc := 4) X [(5, .int (0 : Int32)), (4, .int (0 : Int32)), (0, .ref (ad0 0)), (1, .ref (ad1 0)), (2, .int x1), (3, .int x2)] dX2_spotsWithin_4 (by decide) rfl ?_
  refine a_sub [2, 3, 4, 5, 1, 0] rfl ?_
  exact w_X2_spotsWithin_6 X    x_NN _ _ _ _ h
theorem dJ6_bitCount_0f7a4_0 : decode cJ6_bitCount_0f7a4 0 = .ok (.iload_n 0, 1) := by decide +kernel
theorem dJ6_bitCount_0f7a4_1 : decode cJ6_bitCount_0f7a4 1 = .ok (.iload_n 0, 1) := by decide +kernel
theorem dJ6_bitCount_0f7a4_2 : decode cJ6_bitCount_0f7a4 2 = .ok (.iconst 1, 1) := by decide +kernel
theorem dJ6_bitCount_0f7a4_3 : decode cJ6_bitCount_0f7a4 3 = .ok (.iushr, 1) := by decide +kernel
theorem dJ6_bitCount_0f7a4_4 : decode cJ6_bitCount_0f7a4 4 = .ok (.ldc_w 265, 3) := by decide +kernel
theorem dJ6_bitCount_0f7a4_7 : decode cJ6_bitCount_0f7a4 7 = .ok (.iand, 1) := by decide +kernel
theorem dJ6_bitCount_0f7a4_8 : decode cJ6_bitCount_0f7a4 8 = .ok (.isub, 1) := by decide +kernel
theorem dJ6_bitCount_0f7a4_9 : decode cJ6_bitCount_0f7a4 9 = .ok (.istore_n 0, 1) := by decide +kernel
theorem dJ6_bitCount_0f7a4_10 : decode cJ6_bitCount_0f7a4 10 = .ok (.iload_n 0, 1) := by decide +kernel
theorem dJ6_bitCount_0f7a4_11 : decode cJ6_bitCount_0f7a4 11 = .ok (.ldc_w 266, 3) := by decide +kernel
theorem dJ6_bitCount_0f7a4_14 : decode cJ6_bitCount_0f7a4 14 = .ok (.iand, 1) := by decide +kernel
theorem dJ6_bitCount_0f7a4_15 : decode cJ6_bitCount_0f7a4 15 = .ok (.iload_n 0, 1) := by decide +kernel
theorem dJ6_bitCount_0f7a4_16 : decode cJ6_bitCount_0f7a4 16 = .ok (.iconst 2, 1) := by decide +kernel
theorem dJ6_bitCount_0f7a4_17 : decode cJ6_bitCount_0f7a4 17 = .ok (.iushr, 1) := by decide +kernel
theorem dJ6_bitCount_0f7a4_18 : decode cJ6_bitCount_0f7a4 18 = .ok (.ldc_w 266, 3) := by decide +kernel
theorem dJ6_bitCount_0f7a4_21 : decode cJ6_bitCount_0f7a4 21 = .ok (.iand, 1) := by decide +kernel
theorem dJ6_bitCount_0f7a4_22 : decode cJ6_bitCount_0f7a4 22 = .ok (.iadd, 1) := by decide +kernel
theorem dJ6_bitCount_0f7a4_23 : decode cJ6_bitCount_0f7a4 23 = .ok (.istore_n 0, 1) := by decide +kernel
theorem dJ6_bitCount_0f7a4_24 : decode cJ6_bitCount_0f7a4 24 = .ok (.iload_n 0, 1) := by decide +kernel
theorem dJ6_bitCount_0f7a4_25 : decode cJ6_bitCount_0f7a4 25 = .ok (.iload_n 0, 1) := by decide +kernel
theorem dJ6_bitCount_0f7a4_26 : decode cJ6_bitCount_0f7a4 26 = .ok (.iconst 4, 1) := by decide +kernel
theorem dJ6_bitCount_0f7a4_27 : decode cJ6_bitCount_0f7a4 27 = .ok (.iushr, 1) := by decide +kernel
theorem dJ6_bitCount_0f7a4_28 : decode cJ6_bitCount_0f7a4 28 = .ok (.iadd, 1) := by decide +kernel
theorem dJ6_bitCount_0f7a4_29 : decode cJ6_bitCount_0f7a4 29 = .ok (.ldc_w 267, 3) := by decide +kernel
theorem dJ6_bitCount_0f7a4_32 : decode cJ6_bitCount_0f7a4 32 = .ok (.iand, 1) := by decide +kernel
theorem dJ6_bitCount_0f7a4_33 : decode cJ6_bitCount_0f7a4 33 = .ok (.istore_n 0, 1) := by decide +kernel
theorem dJ6_bitCount_0f7a4_34 : decode cJ6_bitCount_0f7a4 34 = .ok (.iload_n 0, 1) := by decide +kernel
theorem dJ6_bitCount_0f7a4_35 : decode cJ6_bitCount_0f7a4 35 = .ok (.iload_n 0, 1) := by decide +kernel
theorem dJ6_bitCount_0f7a4_36 : decode cJ6_bitCount_0f7a4 36 = .ok (.bipush 8, 2) := by decide +kernel
theorem dJ6_bitCount_0f7a4_38 : decode cJ6_bitCount_0f7a4 38 = .ok (.iushr, 1) := by decide +kernel
theorem dJ6_bitCount_0f7a4_39 : decode cJ6_bitCount_0f7a4 39 = .ok (.iadd, 1) := by decide +kernel
theorem dJ6_bitCount_0f7a4_40 : decode cJ6_bitCount_0f7a4 40 = .ok (.istore_n 0, 1) := by decide +kernel
theorem dJ6_bitCount_0f7a4_41 : decode cJ6_bitCount_0f7a4 41 = .ok (.iload_n 0, 1) := by decide +kernel
theorem dJ6_bitCount_0f7a4_42 : decode cJ6_bitCount_0f7a4 42 = .ok (.iload_n 0, 1) := by decide +kernel
theorem dJ6_bitCount_0f7a4_43 : decode cJ6_bitCount_0f7a4 43 = .ok (.bipush 16, 2) := by decide +kernel
theorem dJ6_bitCount_0f7a4_45 : decode cJ6_bitCount_0f7a4 45 = .ok (.iushr, 1) := by decide +kernel
theorem dJ6_bitCount_0f7a4_46 : decode cJ6_bitCount_0f7a4 46 = .ok (.iadd, 1) := by decide +kernel
theorem dJ6_bitCount_0f7a4_47 : decode cJ6_bitCount_0f7a4 47 = .ok (.istore_n 0, 1) := by decide +kernel
theorem dJ6_bitCount_0f7a4_48 : decode cJ6_bitCount_0f7a4 48 = .ok (.iload_n 0, 1) := by decide +kernel
theorem dJ6_bitCount_0f7a4_49 : decode cJ6_bitCount_0f7a4 49 = .ok (.bipush 63, 2) := by decide +kernel
theorem dJ6_bitCount_0f7a4_51 : decode cJ6_bitCount_0f7a4 51 = .ok (.iand, 1) := by decide +kernel
theorem dJ6_bitCount_0f7a4_52 : decode cJ6_bitCount_0f7a4 52 = .ok (.ireturn, 1) := by decide +kernel
def f_J6_bitCount_0f7a4 (x0 : Int32) : Int32 :=
  x_lt (((x0 : Int32).toUInt32 >>> (((1 : Int32) : Int32).toUInt32 &&& Int32.toUInt32 31)).toInt32) (fun y1 =>
  x_lt (x0 - (y1 &&& (1431655765 : Int32))) (fun y2 =>
  x_lt (((y2 : Int32).toUInt32 >>> (((2 : Int32) : Int32).toUInt32 &&& Int32.toUInt32 31)).toInt32) (fun y3 =>
  x_lt ((y2 &&& (858993459 : Int32)) + (y3 &&& (858993459 : Int32))) (fun y4 =>
  x_lt (((y4 : Int32).toUInt32 >>> (((4 : Int32) : Int32).toUInt32 &&& Int32.toUInt32 31)).toInt32) (fun y5 =>
  x_lt ((y4 + y5) &&& (252645135 : Int32)) (fun y6 =>
  x_lt (((y6 : Int32).toUInt32 >>> (((8 : Int32) : Int32).toUInt32 &&& Int32.toUInt32 31)).toInt32) (fun y7 =>
  x_lt ((((y6 + y7) : Int32).toUInt32 >>> (((16 : Int32) : Int32).toUInt32 &&& Int32.toUInt32 31)).toInt32) (fun y8 =>
  (((y6 + y7) + y8) &&& (63 : Int32) : Int32)))))))))
set_option maxRecDepth 100000 in
set_option maxHeartbeats 4000000 in
theorem c_J6_bitCount_0f7a4 {l : Launch}   {x0 : Int32}  {o : Int32} (h : f_J6_bitCount_0f7a4 x0 = o) : CT l yJ6_bitCount_0f7a4 cJ6_bitCount_0f7a4 1 (some .int) 0 [] [] (fun aK => [.int x0]) (some (.int o)) True [] := by
  refine CT_of (by decide) (fun _ => Nat.le_of_ble_eq_true rfl) ?_
  intro p e s m args below meth c D tc aK aV A X
  have X : Cx p s m args meth c cJ6_bitCount_0f7a4 1 (some .int) RJ6 D tc aK aV A [] := X
  show aW p l e (x_Rm 0) s m args below meth c D tc A 1 [] (some (.int o)) True [] 0 [(0, .int x0)] [] []
  unfold f_J6_bitCount_0f7a4 at h
  refine a_iload_n (pc := 0) X 0 dJ6_bitCount_0f7a4_0 rfl rfl ?_
  refine a_iload_n (pc := 1) X 0 dJ6_bitCount_0f7a4_1 rfl rfl ?_
  refine a_iconst (pc := 2) X dJ6_bitCount_0f7a4_2 q_ic_1 ?_
  refine a_iushr (pc := 3) X dJ6_bitCount_0f7a4_3 ?_
  obtain ⟨y1, e_y1, h⟩ := x_lt_elim h
  refine a_ni e_y1 ?_
  refine a_ldcw (pc := 4) X kc_RJ6_265 dJ6_bitCount_0f7a4_4 ?_
  refine a_iand (pc := 7) X dJ6_bitCount_0f7a4_7 ?_
  refine a_isub (pc := 8) X dJ6_bitCount_0f7a4_8 ?_
  obtain ⟨y2, e_y2, h⟩ := x_lt_elim h
  refine a_ni e_y2 ?_
  refine a_istore_n (pc := 9) X [(0, .int y2)] dJ6_bitCount_0f7a4_9 rfl (by decide) rfl ?_
  refine a_iload_n (pc := 10) X 0 dJ6_bitCount_0f7a4_10 rfl rfl ?_
  refine a_ldcw (pc := 11) X kc_RJ6_266 dJ6_bitCount_0f7a4_11 ?_
  refine a_iand (pc := 14) X dJ6_bitCount_0f7a4_14 ?_
  refine a_iload_n (pc := 15) X 0 dJ6_bitCount_0f7a4_15 rfl rfl ?_
  refine a_iconst (pc := 16) X dJ6_bitCount_0f7a4_16 q_ic_2 ?_
  refine a_iushr (pc := 17) X dJ6_bitCount_0f7a4_17 ?_
  obtain ⟨y3, e_y3, h⟩ := x_lt_elim h
  refine a_ni e_y3 ?_
  refine a_ldcw (pc := 18) X kc_RJ6_266 dJ6_bitCount_0f7a4_18 ?_
  refine a_iand (pc := 21) X dJ6_bitCount_0f7a4_21 ?_
  refine a_iadd (pc := 22) X dJ6_bitCount_0f7a4_22 ?_
  obtain ⟨y4, e_y4, h⟩ := x_lt_elim h
  refine a_ni e_y4 ?_
  refine a_istore_n (pc := 23) X [(0, .int y4)] dJ6_bitCount_0f7a4_23 rfl (by decide) rfl ?_
  refine a_iload_n (pc := 24) X 0 dJ6_bitCount_0f7a4_24 rfl rfl ?_
  refine a_iload_n (pc := 25) X 0 dJ6_bitCount_0f7a4_25 rfl rfl ?_
  refine a_iconst (pc := 26) X dJ6_bitCount_0f7a4_26 q_ic_4 ?_
  refine a_iushr (pc := 27) X dJ6_bitCount_0f7a4_27 ?_
  obtain ⟨y5, e_y5, h⟩ := x_lt_elim h
  refine a_ni e_y5 ?_
  refine a_iadd (pc := 28) X dJ6_bitCount_0f7a4_28 ?_
  refine a_ldcw (pc := 29) X kc_RJ6_267 dJ6_bitCount_0f7a4_29 ?_
  refine a_iand (pc := 32) X dJ6_bitCount_0f7a4_32 ?_
  obtain ⟨y6, e_y6, h⟩ := x_lt_elim h
  refine a_ni e_y6 ?_
  refine a_istore_n (pc := 33) X [(0, .int y6)] dJ6_bitCount_0f7a4_33 rfl (by decide) rfl ?_
  refine a_iload_n (pc := 34) X 0 dJ6_bitCount_0f7a4_34 rfl rfl ?_
  refine a_iload_n (pc := 35) X 0 dJ6_bitCount_0f7a4_35 rfl rfl ?_
  refine a_bipush (pc := 36) X dJ6_bitCount_0f7a4_36 q_bp_8 ?_
  refine a_iushr (pc := 38) X dJ6_bitCount_0f7a4_38 ?_
  obtain ⟨y7, e_y7, h⟩ := x_lt_elim h
  refine a_ni e_y7 ?_
  refine a_iadd (pc := 39) X dJ6_bitCount_0f7a4_39 ?_
  refine a_istore_n (pc := 40) X [(0, .int (y6 + y7))] dJ6_bitCount_0f7a4_40 rfl (by decide) rfl ?_
  refine a_iload_n (pc := 41) X 0 dJ6_bitCount_0f7a4_41 rfl rfl ?_
  refine a_iload_n (pc := 42) X 0 dJ6_bitCount_0f7a4_42 rfl rfl ?_
  refine a_bipush (pc := 43) X dJ6_bitCount_0f7a4_43 q_bp_16 ?_
  refine a_iushr (pc := 45) X dJ6_bitCount_0f7a4_45 ?_
  obtain ⟨y8, e_y8, h⟩ := x_lt_elim h
  refine a_ni e_y8 ?_
  refine a_iadd (pc := 46) X dJ6_bitCount_0f7a4_46 ?_
  refine a_istore_n (pc := 47) X [(0, .int ((y6 + y7) + y8))] dJ6_bitCount_0f7a4_47 rfl (by decide) rfl ?_
  refine a_iload_n (pc := 48) X 0 dJ6_bitCount_0f7a4_48 rfl rfl ?_
  refine a_bipush (pc := 49) X dJ6_bitCount_0f7a4_49 q_bp_63 ?_
  refine a_iand (pc := 51) X dJ6_bitCount_0f7a4_51 ?_
  subst h
  exact a_iret (pc := 52) X trivial dJ6_bitCount_0f7a4_52
theorem dX2_isEnough_0 : decode cX2_isEnough 0 = .ok (.iconst 0, 1) := by decide +kernel
theorem dX2_isEnough_1 : decode cX2_isEnough 1 = .ok (.istore_n 3, 1) := by decide +kernel
theorem dX2_isEnough_2 : decode cX2_isEnough 2 = .ok (.iload_n 3, 1) := by decide +kernel
theorem dX2_isEnough_3 : decode cX2_isEnough 3 = .ok (.aload_n 1, 1) := by decide +kernel
theorem dX2_isEnough_4 : decode cX2_isEnough 4 = .ok (.getfield 62, 3) := by decide +kernel
theorem dX2_isEnough_7 : decode cX2_isEnough 7 = .ok (.if_icmp .ge 24, 3) := by decide +kernel
theorem dX2_isEnough_10 : decode cX2_isEnough 10 = .ok (.aload_n 0, 1) := by decide +kernel
theorem dX2_isEnough_11 : decode cX2_isEnough 11 = .ok (.getfield 29, 3) := by decide +kernel
theorem dX2_isEnough_14 : decode cX2_isEnough 14 = .ok (.iload_n 3, 1) := by decide +kernel
theorem dX2_isEnough_15 : decode cX2_isEnough 15 = .ok (.invokevirtual 79, 3) := by decide +kernel
theorem dX2_isEnough_18 : decode cX2_isEnough 18 = .ok (.iload_n 2, 1) := by decide +kernel
theorem dX2_isEnough_19 : decode cX2_isEnough 19 = .ok (.iand, 1) := by decide +kernel
theorem dX2_isEnough_20 : decode cX2_isEnough 20 = .ok (.ifCond .ne 5, 3) := by decide +kernel
theorem dX2_isEnough_23 : decode cX2_isEnough 23 = .ok (.iconst 0, 1) := by decide +kernel
theorem dX2_isEnough_24 : decode cX2_isEnough 24 = .ok (.ireturn, 1) := by decide +kernel
theorem dX2_isEnough_25 : decode cX2_isEnough 25 = .ok (.iinc 3 1, 3) := by decide +kernel
theorem dX2_isEnough_28 : decode cX2_isEnough 28 = .ok (.goto (-26), 3) := by decide +kernel
theorem dX2_isEnough_31 : decode cX2_isEnough 31 = .ok (.iconst 1, 1) := by decide +kernel
theorem dX2_isEnough_32 : decode cX2_isEnough 32 = .ok (.ireturn, 1) := by decide +kernel
def f_X2_isEnough_2 (v0 : XM) (v1 : XM) (k2 : Int32 → Int32 → Option (Int32)) (l2 : Int32) (l3 : Int32) : Option (Int32) :=
  if ((v1.1 0 0) : Int32) ≤ l3 then
  (some ((1 : Int32) : Int32))
  else (x_lt (r_get 8 (x_sub v0 9) l3) (fun y1 =>
  if (y1 &&& l2) = (0 : Int32) then
  (some ((0 : Int32) : Int32))
  else (k2 l2 (l3 + 1))))
def f_X2_isEnough (v0 : XM) (v1 : XM) (x1 : Int32) : Option (Int32) :=
  x_lp (φ := Int32 → Int32 → Option (Int32)) (fun _ _ => none) (f_X2_isEnough_2 v0 v1 ) x_NN x1 (0 : Int32)
set_option maxRecDepth 100000 in
set_option maxHeartbeats 4000000 in
theorem w_X2_isEnough_2 {p : Program} {l : Launch} {e : Env} {s : State} {m : MethodId} {args : Array Value} {below : List Frame} {meth : Method} {c : Code} {D : va_G} {tc : Nat → ClassId} {aK aV : Nat → Nat} {A : Nat → Prop} {ad0 : Nat → Nat} {ad1 : Nat → Nat} {v0 : XM} {v1 : XM} (X : Cx p s m args meth c cX2_isEnough 4 (some .boolean) RX2 D tc aK aV A [(shRoads, ad0), (shValley, ad1)])  {o : Int32}  : ∀ (n : Nat), ∀ (l2 : Int32) (l3 : Int32), x_lp (φ := Int32 → Int32 → Option (Int32)) (fun _ _ => none) (f_X2_isEnough_2 v0 v1 ) n l2 l3 = some o → aW p l e (x_Rm 1) s m args below meth c D tc A 4 [(shRoads, ad0), (shValley, ad1)] (some (.int o)) (x_Z o) [v0, v1] 2 [(0, .ref (ad0 0)), (1, .ref (ad1 0)), (2, .int l2), (3, .int l3)] [] [v0, v1] := by
  intro n
  induction n with
  | zero => intro l2 l3 h; exact absurd h (fun q => by cases q)
  | succ n ih =>
    intro l2 l3 h
    have h : f_X2_isEnough_2 v0 v1  (x_lp (φ := Int32 → Int32 → Option (Int32)) (fun _ _ => none) (f_X2_isEnough_2 v0 v1 ) n) l2 l3 = some o := h
    generalize x_lp (φ := Int32 → Int32 → Option (Int32)) (fun _ _ => none) (f_X2_isEnough_2 v0 v1 ) n = k2 at h ih
    have hk2 := ih
    unfold f_X2_isEnough_2 at h
    refine a_iload_n (pc := 2) X 3 dX2_isEnough_2 rfl rfl ?_
    refine a_aload_n (pc := 3) X 1 dX2_isEnough_3 rfl rfl ?_
    refine a_getI (pc := 4) X 1 fl_RX2_62 rfl rfl rfl rfl dX2_isEnough_4 ?_
    refine a_icmp_ge (pc := 7) X 31 dX2_isEnough_7 rfl (fun c_7 => ?_) (fun c_7 => ?_)
    · have h := x_ifp c_7 h
      refine a_iconst (pc := 31) X dX2_isEnough_31 q_ic_1 ?_
      have h := Option.some.inj h; subst h
      exact a_zret (pc := 32) X x_Z1 x_Z1 dX2_isEnough_32
    · have h := x_ifn c_7 h
      refine a_aload_n (pc := 10) X 0 dX2_isEnough_10 rfl rfl ?_
      refine a_getR (pc := 11) X 0 9 9 fl_RX2_29 rfl rfl rfl rfl rfl dX2_isEnough_11 ?_
      refine a_iload_n (pc := 14) X 3 dX2_isEnough_14 rfl rfl ?_
      obtain ⟨y1, e_y1, h⟩ := x_lt_elim h
      refine a_callV (pc := 15) (st2 := [.int y1]) (vs2 := [v0, v1]) X [(0, 9, 2)] [none] 0 9 3 [.int l3] [] cv_RX2_79 (ct_get (ad0 := (fun i => ad0 (i + 9))) (by decide) e_y1) rfl rfl rfl rfl rfl rfl rfl rfl rfl rfl rfl rfl rfl rfl rfl (Nat.le_of_ble_eq_true rfl) ⟨Nat.le_of_ble_eq_true rfl, Nat.le_of_ble_eq_true rfl⟩ dX2_isEnough_15 (fun _ => ?_)
      refine a_iload_n (pc := 18) X 2 dX2_isEnough_18 rfl rfl ?_
      refine a_iand (pc := 19) X dX2_isEnough_19 ?_
      refine a_if_ne (pc := 20) X 25 dX2_isEnough_20 rfl (fun c_20 => ?_) (fun c_20 => ?_)
      · have h := x_ifn c_20 h
        refine a_iinc (pc := 25) X 3 [(3, .int (l3 + 1)), (0, .ref (ad0 0)), (1, .ref (ad1 0)), (2, .int l2)] dX2_isEnough_25 rfl (congrArg (HAdd.hAdd l3) q_ic_1) (by decide) rfl ?_
        refine a_goto (pc := 28) X 2 dX2_isEnough_28 rfl ?_
        refine a_sub [1, 2, 3, 0] rfl ?_
        exact hk2 _ _ h
      · have h := x_ifp c_20 h
        refine a_iconst (pc := 23) X dX2_isEnough_23 q_ic_0 ?_
        have h := Option.some.inj h; subst h
        exact a_zret (pc := 24) X x_Z0 x_Z0 dX2_isEnough_24
set_option maxRecDepth 100000 in
set_option maxHeartbeats 4000000 in
theorem c_X2_isEnough {l : Launch}  {ad0 : Nat → Nat} {ad1 : Nat → Nat} {v0 v1 : XM} {x1 : Int32}  {o : Int32} (h : f_X2_isEnough v0 v1 x1 = some o) : CT l yX2_isEnough cX2_isEnough 4 (some .boolean) 1 [(shRoads, ad0), (shValley, ad1)] [v0, v1] (fun aK => [.ref (ad0 0), .ref (ad1 0), .int x1]) (some (.int o)) (x_Z o) [v0, v1] := by
  refine CT_of (by decide) (fun _ => Nat.le_of_ble_eq_true rfl) ?_
  intro p e s m args below meth c D tc aK aV A X
  have X : Cx p s m args meth c cX2_isEnough 4 (some .boolean) RX2 D tc aK aV A [(shRoads, ad0), (shValley, ad1)] := X
  show aW p l e (x_Rm 1) s m args below meth c D tc A 4 [(shRoads, ad0), (shValley, ad1)] (some (.int o)) (x_Z o) [v0, v1] 0 [(0, .ref (ad0 0)), (1, .ref (ad1 0)), (2, .int x1)] [] [v0, v1]
  unfold f_X2_isEnough at h
  refine a_iconst (pc := 0) X dX2_isEnough_0 q_ic_0 ?_
  refine a_istore_n (pc := 1) X [(3, .int (0 : Int32)), (0, .ref (ad0 0)), (1, .ref (ad1 0)), (2, .int x1)] dX2_isEnough_1 rfl (by decide) rfl ?_
  refine a_sub [1, 2, 3, 0] rfl ?_
  exact w_X2_isEnough_2 X    x_NN _ _ h
theorem dX2_findInns_0 : decode cX2_findInns 0 = .ok (.aload_n 1, 1) := by decide +kernel
theorem dX2_findInns_1 : decode cX2_findInns 1 = .ok (.getfield 56, 3) := by decide +kernel
theorem dX2_findInns_4 : decode cX2_findInns 4 = .ok (.astore_n 3, 1) := by decide +kernel
theorem dX2_findInns_5 : decode cX2_findInns 5 = .ok (.aload_n 0, 1) := by decide +kernel
theorem dX2_findInns_6 : decode cX2_findInns 6 = .ok (.aload_n 1, 1) := by decide +kernel
theorem dX2_findInns_7 : decode cX2_findInns 7 = .ok (.iconst 1, 1) := by decide +kernel
theorem dX2_findInns_8 : decode cX2_findInns 8 = .ok (.invokevirtual 151, 3) := by decide +kernel
theorem dX2_findInns_11 : decode cX2_findInns 11 = .ok (.iconst 0, 1) := by decide +kernel
theorem dX2_findInns_12 : decode cX2_findInns 12 = .ok (.istore 4, 2) := by decide +kernel
theorem dX2_findInns_14 : decode cX2_findInns 14 = .ok (.iload 4, 2) := by decide +kernel
theorem dX2_findInns_16 : decode cX2_findInns 16 = .ok (.aload_n 3, 1) := by decide +kernel
theorem dX2_findInns_17 : decode cX2_findInns 17 = .ok (.getfield 62, 3) := by decide +kernel
theorem dX2_findInns_20 : decode cX2_findInns 20 = .ok (.if_icmp .ge 26, 3) := by decide +kernel
theorem dX2_findInns_23 : decode cX2_findInns 23 = .ok (.aload_n 0, 1) := by decide +kernel
theorem dX2_findInns_24 : decode cX2_findInns 24 = .ok (.getfield 29, 3) := by decide +kernel
theorem dX2_findInns_27 : decode cX2_findInns 27 = .ok (.iload 4, 2) := by decide +kernel
theorem dX2_findInns_29 : decode cX2_findInns 29 = .ok (.aload_n 0, 1) := by decide +kernel
theorem dX2_findInns_30 : decode cX2_findInns 30 = .ok (.aload_n 3, 1) := by decide +kernel
theorem dX2_findInns_31 : decode cX2_findInns 31 = .ok (.iload 4, 2) := by decide +kernel
theorem dX2_findInns_33 : decode cX2_findInns 33 = .ok (.iload_n 2, 1) := by decide +kernel
theorem dX2_findInns_34 : decode cX2_findInns 34 = .ok (.invokevirtual 182, 3) := by decide +kernel
theorem dX2_findInns_37 : decode cX2_findInns 37 = .ok (.invokevirtual 52, 3) := by decide +kernel
theorem dX2_findInns_40 : decode cX2_findInns 40 = .ok (.iinc 4 1, 3) := by decide +kernel
theorem dX2_findInns_43 : decode cX2_findInns 43 = .ok (.goto (-29), 3) := by decide +kernel
theorem dX2_findInns_46 : decode cX2_findInns 46 = .ok (.bipush 9, 2) := by decide +kernel
theorem dX2_findInns_48 : decode cX2_findInns 48 = .ok (.istore 4, 2) := by decide +kernel
theorem dX2_findInns_50 : decode cX2_findInns 50 = .ok (.iconst 0, 1) := by decide +kernel
theorem dX2_findInns_51 : decode cX2_findInns 51 = .ok (.istore 5, 2) := by decide +kernel
theorem dX2_findInns_53 : decode cX2_findInns 53 = .ok (.iload 5, 2) := by decide +kernel
theorem dX2_findInns_55 : decode cX2_findInns 55 = .ok (.iconst 1, 1) := by decide +kernel
theorem dX2_findInns_56 : decode cX2_findInns 56 = .ok (.aload_n 3, 1) := by decide +kernel
theorem dX2_findInns_57 : decode cX2_findInns 57 = .ok (.getfield 62, 3) := by decide +kernel
theorem dX2_findInns_60 : decode cX2_findInns 60 = .ok (.ishl, 1) := by decide +kernel
theorem dX2_findInns_61 : decode cX2_findInns 61 = .ok (.if_icmp .ge 48, 3) := by decide +kernel
theorem dX2_findInns_64 : decode cX2_findInns 64 = .ok (.iload 5, 2) := by decide +kernel
theorem dX2_findInns_66 : decode cX2_findInns 66 = .ok (.invokestatic 185, 3) := by decide +kernel
theorem dX2_findInns_69 : decode cX2_findInns 69 = .ok (.istore 6, 2) := by decide +kernel
theorem dX2_findInns_71 : decode cX2_findInns 71 = .ok (.iload 6, 2) := by decide +kernel
theorem dX2_findInns_73 : decode cX2_findInns 73 = .ok (.iload 4, 2) := by decide +kernel
theorem dX2_findInns_75 : decode cX2_findInns 75 = .ok (.if_icmp .ge 28, 3) := by decide +kernel
theorem dX2_findInns_78 : decode cX2_findInns 78 = .ok (.aload_n 0, 1) := by decide +kernel
theorem dX2_findInns_79 : decode cX2_findInns 79 = .ok (.aload_n 3, 1) := by decide +kernel
theorem dX2_findInns_80 : decode cX2_findInns 80 = .ok (.iload 5, 2) := by decide +kernel
theorem dX2_findInns_82 : decode cX2_findInns 82 = .ok (.aload_n 3, 1) := by decide +kernel
theorem dX2_findInns_83 : decode cX2_findInns 83 = .ok (.getfield 132, 3) := by decide +kernel
theorem dX2_findInns_86 : decode cX2_findInns 86 = .ok (.ior, 1) := by decide +kernel
theorem dX2_findInns_87 : decode cX2_findInns 87 = .ok (.invokevirtual 190, 3) := by decide +kernel
theorem dX2_findInns_90 : decode cX2_findInns 90 = .ok (.ifCond .eq 13, 3) := by decide +kernel
theorem dX2_findInns_93 : decode cX2_findInns 93 = .ok (.iload 6, 2) := by decide +kernel
theorem dX2_findInns_95 : decode cX2_findInns 95 = .ok (.istore 4, 2) := by decide +kernel
theorem dX2_findInns_97 : decode cX2_findInns 97 = .ok (.aload_n 0, 1) := by decide +kernel
theorem dX2_findInns_98 : decode cX2_findInns 98 = .ok (.iload 5, 2) := by decide +kernel
theorem dX2_findInns_100 : decode cX2_findInns 100 = .ok (.putfield 42, 3) := by decide +kernel
theorem dX2_findInns_103 : decode cX2_findInns 103 = .ok (.iinc 5 1, 3) := by decide +kernel
theorem dX2_findInns_106 : decode cX2_findInns 106 = .ok (.goto (-53), 3) := by decide +kernel
theorem dX2_findInns_109 : decode cX2_findInns 109 = .ok (.iload 4, 2) := by decide +kernel
theorem dX2_findInns_111 : decode cX2_findInns 111 = .ok (.ireturn, 1) := by decide +kernel
def f_X2_findInns_103 (v1 : XM) (k53 : XM → Int32 → Int32 → Option (Int32 × XM)) (w0 : XM) (l4 : Int32) (l5 : Int32) : Option (Int32 × XM) :=
  k53 w0 l4 (l5 + 1)
def f_X2_findInns_53 (v1 : XM) (k53 : XM → Int32 → Int32 → Option (Int32 × XM)) (w0 : XM) (l4 : Int32) (l5 : Int32) : Option (Int32 × XM) :=
  if (((1 : Int32) <<< ((v1.1 1 0) &&& 31)) : Int32) ≤ l5 then
  (some (l4, w0))
  else (x_lt (f_J6_bitCount_0f7a4 l5) (fun y1 =>
  if (l4 : Int32) ≤ y1 then
  (f_X2_findInns_103 v1 k53 w0 l4 l5)
  else (x_bo (f_X2_isEnough w0 (x_sub v1 1) (l5 ||| (v1.1 1 5))) (fun y2 =>
  if y2 = (0 : Int32) then
  (f_X2_findInns_103 v1 k53 w0 l4 l5)
  else (x_lt (x_si w0 0 10 l5) (fun m3 =>
  f_X2_findInns_103 v1 k53 m3 y1 l5))))))
def f_X2_findInns_14 (v1 : XM) (k14 : XM → Int32 → Int32 → Option (Int32 × XM)) (w0 : XM) (l2 : Int32) (l4 : Int32) : Option (Int32 × XM) :=
  if ((v1.1 1 0) : Int32) ≤ l4 then
  (x_lp (φ := XM → Int32 → Int32 → Option (Int32 × XM)) (fun _ _ _ => none) (f_X2_findInns_53 v1 ) x_NN w0 (9 : Int32) (0 : Int32))
  else (x_bo (f_X2_spotsWithin w0 (x_sub v1 1) l4 l2) (fun y4 =>
  x_lt (r_put 8 (x_sub w0 9) l4 y4) (fun y5 =>
  x_lt (x_put w0 9 2 y5) (fun m6 =>
  k14 m6 l2 (l4 + 1)))))
def f_X2_findInns (v0 : XM) (v1 : XM) (x1 : Int32) : Option (Int32 × XM) :=
  x_bo (f_X2_spreadAll v0 v1 (1 : Int32)) (fun y7 =>
  x_lp (φ := XM → Int32 → Int32 → Option (Int32 × XM)) (fun _ _ _ => none) (f_X2_findInns_14 v1 ) x_NN y7 x1 (0 : Int32))
set_option maxRecDepth 100000 in
set_option maxHeartbeats 4000000 in
theorem w_X2_findInns_103 {p : Program} {l : Launch} {e : Env} {s : State} {m : MethodId} {args : Array Value} {below : List Frame} {meth : Method} {c : Code} {D : va_G} {tc : Nat → ClassId} {aK aV : Nat → Nat} {A : Nat → Prop} {ad0 : Nat → Nat} {ad1 : Nat → Nat} {v1 : XM} (X : Cx p s m args meth c cX2_findInns 7 (some .int) RX2 D tc aK aV A [(shRoads, ad0), (shWorld, ad1)])  {o : Int32 × XM} {k53 : XM → Int32 → Int32 → Option (Int32 × XM)} (hk53 : ∀ (w0 : XM) (l4 : Int32) (l5 : Int32), k53 w0 l4 l5 = some o → aW p l e (x_Rm 6) s m args below meth c D tc A 7 [(shRoads, ad0), (shWorld, ad1)] (some (.int o.1)) True [o.2, v1] 53 [(0, .ref (ad0 0)), (3, .ref (ad1 1)), (4, .int l4), (5, .int l5)] [] [w0, v1]) {w0 : XM} {l4 : Int32} {l5 : Int32}  (h : f_X2_findInns_103 v1 k53 w0 l4 l5 = some o) : aW p l e (x_Rm 6) s m args below meth c D tc A 7 [(shRoads, ad0), (shWorld, ad1)] (some (.int o.1)) True [o.2, v1] 103 [(0, .ref (ad0 0)), (3, .ref (ad1 1)), (4, .int l4), (5, .int l5)] [] [w0, v1] := by
  unfold f_X2_findInns_103 at h
  refine a_iinc (pc := 103) X 3 [(5, .int (l5 + 1)), (0, .ref (ad0 0)), (3, .ref (ad1 1)), (4, .int l4)] dX2_findInns_103 rfl (congrArg (HAdd.hAdd l5) q_ic_1) (by decide) rfl ?_
  refine a_goto (pc := 106) X 53 dX2_findInns_106 rfl ?_
  refine a_sub [1, 2, 3, 0] rfl ?_
  exact hk53 _ _ _ h
set_option maxRecDepth 100000 in
set_option maxHeartbeats 4000000 in
theorem w_X2_findInns_53 {p : Program} {l : Launch} {e : Env} {s : State} {m : MethodId} {args : Array Value} {below : List Frame} {meth : Method} {c : Code} {D : va_G} {tc : Nat → ClassId} {aK aV : Nat → Nat} {A : Nat → Prop} {ad0 : Nat → Nat} {ad1 : Nat → Nat} {v1 : XM} (X : Cx p s m args meth c cX2_findInns 7 (some .int) RX2 D tc aK aV A [(shRoads, ad0), (shWorld, ad1)])  {o : Int32 × XM}  : ∀ (n : Nat), ∀ (w0 : XM) (l4 : Int32) (l5 : Int32), x_lp (φ := XM → Int32 → Int32 → Option (Int32 × XM)) (fun _ _ _ => none) (f_X2_findInns_53 v1 ) n w0 l4 l5 = some o → aW p l e (x_Rm 6) s m args below meth c D tc A 7 [(shRoads, ad0), (shWorld, ad1)] (some (.int o.1)) True [o.2, v1] 53 [(0, .ref (ad0 0)), (3, .ref (ad1 1)), (4, .int l4), (5, .int l5)] [] [w0, v1] := by
  intro n
  induction n with
  | zero => intro w0 l4 l5 h; exact absurd h (fun q => by cases q)
  | succ n ih =>
    intro w0 l4 l5 h
    have h : f_X2_findInns_53 v1  (x_lp (φ := XM → Int32 → Int32 → Option (Int32 × XM)) (fun _ _ _ => none) (f_X2_findInns_53 v1 ) n) w0 l4 l5 = some o := h
    generalize x_lp (φ := XM → Int32 → Int32 → Option (Int32 × XM)) (fun _ _ _ => none) (f_X2_findInns_53 v1 ) n = k53 at h ih
    have hk53 := ih
    unfold f_X2_findInns_53 at h
    refine a_iload (pc := 53) X 3 dX2_findInns_53 rfl ?_
    refine a_iconst (pc := 55) X dX2_findInns_55 q_ic_1 ?_
    refine a_aload_n (pc := 56) X 1 dX2_findInns_56 rfl rfl ?_
    refine a_getI (pc := 57) X 1 fl_RX2_62 rfl rfl rfl rfl dX2_findInns_57 ?_
    refine a_ishl (pc := 60) X dX2_findInns_60 ?_
    refine a_icmp_ge (pc := 61) X 109 dX2_findInns_61 rfl (fun c_61 => ?_) (fun c_61 => ?_)
    · have h := x_ifp c_61 h
      refine a_iload (pc := 109) X 2 dX2_findInns_109 rfl ?_
      have h := Option.some.inj h; subst h
      exact a_iret (pc := 111) X trivial dX2_findInns_111
    · have h := x_ifn c_61 h
      refine a_iload (pc := 64) X 3 dX2_findInns_64 rfl ?_
      obtain ⟨y1, e_y1, h⟩ := x_lt_elim h
      refine a_callS (pc := 66) (st2 := [.int y1]) (vs2 := [w0, v1]) X [] [] [.int l5] [] cv_RX2_185 (c_J6_bitCount_0f7a4   e_y1) rfl rfl rfl rfl rfl rfl rfl rfl rfl rfl rfl (Nat.le_of_ble_eq_true rfl) ⟨Nat.le_of_ble_eq_true rfl, Nat.le_of_ble_eq_true rfl⟩ dX2_findInns_66 (fun _ => ?_)
      refine a_istore (pc := 69) X [(6, .int y1), (0, .ref (ad0 0)), (3, .ref (ad1 1)), (4, .int l4), (5, .int l5)] dX2_findInns_69 (by decide) rfl ?_
      refine a_iload (pc := 71) X 0 dX2_findInns_71 rfl ?_
      refine a_iload (pc := 73) X 3 dX2_findInns_73 rfl ?_
      refine a_icmp_ge (pc := 75) X 103 dX2_findInns_75 rfl (fun c_75 => ?_) (fun c_75 => ?_)
      · have h := x_ifp c_75 h
        refine a_sub [1, 2, 3, 4] rfl ?_
        exact w_X2_findInns_103 X   hk53  h
      · have h := x_ifn c_75 h
        refine a_aload_n (pc := 78) X 1 dX2_findInns_78 rfl rfl ?_
        refine a_aload_n (pc := 79) X 2 dX2_findInns_79 rfl rfl ?_
        refine a_iload (pc := 80) X 4 dX2_findInns_80 rfl ?_
        refine a_aload_n (pc := 82) X 2 dX2_findInns_82 rfl rfl ?_
        refine a_getI (pc := 83) X 1 fl_RX2_132 rfl rfl rfl rfl dX2_findInns_83 ?_
        refine a_ior (pc := 86) X dX2_findInns_86 ?_
        obtain ⟨y2, e_y2, h⟩ := x_bo_elim h
        refine a_callV (pc := 87) (st2 := [.int y2]) (vs2 := [w0, v1]) X [(0, 0, 15), (1, 1, 16)] [none, none] 0 0 2 [.ref (ad1 1), .int (l5 ||| (v1.1 1 5))] [] cv_RX2_190 (c_X2_isEnough (ad0 := ad0) (ad1 := (fun i => ad1 (i + 1)))  e_y2) rfl rfl rfl rfl rfl rfl rfl rfl rfl rfl rfl rfl rfl rfl rfl (Nat.le_of_ble_eq_true rfl) ⟨Nat.le_of_ble_eq_true rfl, Nat.le_of_ble_eq_true rfl⟩ dX2_findInns_87 (fun z_87 => ?_)
        refine a_if_eq (pc := 90) X 103 dX2_findInns_90 rfl (fun c_90 => ?_) (fun c_90 => ?_)
        · have h := x_ifp c_90 h
          refine a_sub [1, 2, 3, 4] rfl ?_
          exact w_X2_findInns_103 X   hk53  h
        · have h := x_ifn c_90 h
          refine a_iload (pc := 93) X 0 dX2_findInns_93 rfl ?_
          refine a_istore (pc := 95) X [(4, .int y1), (6, .int y1), (0, .ref (ad0 0)), (3, .ref (ad1 1)), (5, .int l5)] dX2_findInns_95 (by decide) rfl ?_
          refine a_aload_n (pc := 97) X 2 dX2_findInns_97 rfl rfl ?_
          refine a_iload (pc := 98) X 4 dX2_findInns_98 rfl ?_
          refine a_putI (pc := 100) X 0 fl_RX2_42 rfl rfl rfl rfl dX2_findInns_100 ?_
          obtain ⟨m3, e_m3, h⟩ := x_lt_elim h
          refine a_nm (vs2 := [m3, v1]) (congrArg (fun q : XM => [q, v1]) e_m3) ?_
          refine a_sub [2, 3, 0, 4] rfl ?_
          exact w_X2_findInns_103 X   hk53  h
set_option maxRecDepth 100000 in
set_option maxHeartbeats 4000000 in
theorem w_X2_findInns_14 {p : Program} {l : Launch} {e : Env} {s : State} {m : MethodId} {args : Array Value} {below : List Frame} {meth : Method} {c : Code} {D : va_G} {tc : Nat → ClassId} {aK aV : Nat → Nat} {A : Nat → Prop} {ad0 : Nat → Nat} {ad1 : Nat → Nat} {v1 : XM} (X : Cx p s m args meth c cX2_findInns 7 (some .int) RX2 D tc aK aV A [(shRoads, ad0), (shWorld, ad1)])  {o : Int32 × XM}  : ∀ (n : Nat), ∀ (w0 : XM) (l2 : Int32) (l4 : Int32), x_lp (φ := XM → Int32 → Int32 → Option (Int32 × XM)) (fun _ _ _ => none) (f_X2_findInns_14 v1 ) n w0 l2 l4 = some o → aW p l e (x_Rm 6) s m args below meth c D tc A 7 [(shRoads, ad0), (shWorld, ad1)] (some (.int o.1)) True [o.2, v1] 14 [(0, .ref (ad0 0)), (2, .int l2), (3, .ref (ad1 1)), (4, .int l4)] [] [w0, v1] := by
  intro n
  induction n with
  | zero => intro w0 l2 l4 h; exact absurd h (fun q => by cases q)
  | succ n ih =>
    intro w0 l2 l4 h
    have h : f_X2_findInns_14 v1  (x_lp (φ := XM → Int32 → Int32 → Option (Int32 × XM)) (fun _ _ _ => none) (f_X2_findInns_14 v1 ) n) w0 l2 l4 = some o := h
    generalize x_lp (φ := XM → Int32 → Int32 → Option (Int32 × XM)) (fun _ _ _ => none) (f_X2_findInns_14 v1 ) n = k14 at h ih
    have hk14 := ih
    unfold f_X2_findInns_14 at h
    refine a_iload (pc := 14) X 3 dX2_findInns_14 rfl ?_
    refine a_aload_n (pc := 16) X 2 dX2_findInns_16 rfl rfl ?_
    refine a_getI (pc := 17) X 1 fl_RX2_62 rfl rfl rfl rfl dX2_findInns_17 ?_
    refine a_icmp_ge (pc := 20) X 46 dX2_findInns_20 rfl (fun c_20 => ?_) (fun c_20 => ?_)
    · have h := x_ifp c_20 h
      refine a_bipush (pc := 46) X dX2_findInns_46 q_bp_9 ?_
      refine a_istore (pc := 48) X [(4, .int (9 : Int32)), (0, .ref (ad0 0)), (2, .int l2), (3, .ref (ad1 1))] dX2_findInns_48 (by decide) rfl ?_
      refine a_iconst (pc := 50) X dX2_findInns_50 q_ic_0 ?_
      refine a_istore (pc := 51) X [(5, .int (0 : Int32)), (4, .int (9 : Int32)), (0, .ref (ad0 0)), (2, .int l2), (3, .ref (ad1 1))] dX2_findInns_51 (by decide) rfl ?_
      refine a_sub [2, 4, 1, 0] rfl ?_
      exact w_X2_findInns_53 X    x_NN _ _ _ h
    · have h := x_ifn c_20 h
      refine a_aload_n (pc := 23) X 0 dX2_findInns_23 rfl rfl ?_
      refine a_getR (pc := 24) X 0 9 9 fl_RX2_29 rfl rfl rfl rfl rfl dX2_findInns_24 ?_
      refine a_iload (pc := 27) X 3 dX2_findInns_27 rfl ?_
      refine a_aload_n (pc := 29) X 0 dX2_findInns_29 rfl rfl ?_
      refine a_aload_n (pc := 30) X 2 dX2_findInns_30 rfl rfl ?_
      refine a_iload (pc := 31) X 3 dX2_findInns_31 rfl ?_
      refine a_iload_n (pc := 33) X 1 dX2_findInns_33 rfl rfl ?_
      obtain ⟨y4, e_y4, h⟩ := x_bo_elim h
      refine a_callV (pc := 34) (st2 := [.int y4, .int l4, .ref (ad0 9)]) (vs2 := [w0, v1]) X [(0, 0, 15), (1, 1, 16)] [none, none] 0 0 2 [.ref (ad1 1), .int l4, .int l2] [.int l4, .ref (ad0 9)] cv_RX2_182 (c_X2_spotsWithin (ad0 := ad0) (ad1 := (fun i => ad1 (i + 1)))  e_y4) rfl rfl rfl rfl rfl rfl rfl rfl rfl rfl rfl rfl rfl rfl rfl (Nat.le_of_ble_eq_true rfl) ⟨Nat.le_of_ble_eq_true rfl, Nat.le_of_ble_eq_true rfl⟩ dX2_findInns_34 (fun _ => ?_)
      obtain ⟨y5, e_y5, h⟩ := x_lt_elim h
      refine a_callV (pc := 37) (st2 := []) (vs2 := [x_put w0 9 2 y5, v1]) X [(0, 9, 2)] [some y5] 0 9 3 [.int l4, .int y4] [] cv_RX2_52 (ct_put (ad0 := (fun i => ad0 (i + 9))) (by decide) e_y5) rfl rfl rfl rfl rfl rfl rfl rfl rfl rfl rfl rfl rfl rfl rfl (Nat.le_of_ble_eq_true rfl) ⟨Nat.le_of_ble_eq_true rfl, Nat.le_of_ble_eq_true rfl⟩ dX2_findInns_37 (fun _ => ?_)
      obtain ⟨m6, e_m6, h⟩ := x_lt_elim h
      refine a_nm (vs2 := [m6, v1]) (congrArg (fun q : XM => [q, v1]) e_m6) ?_
      refine a_iinc (pc := 40) X 3 [(4, .int (l4 + 1)), (0, .ref (ad0 0)), (2, .int l2), (3, .ref (ad1 1))] dX2_findInns_40 rfl (congrArg (HAdd.hAdd l4) q_ic_1) (by decide) rfl ?_
      refine a_goto (pc := 43) X 14 dX2_findInns_43 rfl ?_
      refine a_sub [1, 2, 3, 0] rfl ?_
      exact hk14 _ _ _ h
set_option maxRecDepth 100000 in
set_option maxHeartbeats 4000000 in
theorem c_X2_findInns {l : Launch}  {ad0 : Nat → Nat} {ad1 : Nat → Nat} {v0 v1 : XM} {x1 : Int32}  {o : Int32 × XM} (h : f_X2_findInns v0 v1 x1 = some o) : CT l yX2_findInns cX2_findInns 7 (some .int) 6 [(shRoads, ad0), (shWorld, ad1)] [v0, v1] (fun aK => [.ref (ad0 0), .ref (ad1 0), .int x1]) (some (.int o.1)) True [o.2, v1] := by
  refine CT_of (by decide) (fun _ => Nat.le_of_ble_eq_true rfl) ?_
  intro p e s m args below meth c D tc aK aV A X
  have X : Cx p s m args meth c cX2_findInns 7 (some .int) RX2 D tc aK aV A [(shRoads, ad0), (shWorld, ad1)] := X
  show aW p l e (x_Rm 6) s m args below meth c D tc A 7 [(shRoads, ad0), (shWorld, ad1)] (some (.int o.1)) True [o.2, v1] 0 [(0, .ref (ad0 0)), (1, .ref (ad1 0)), (2, .int x1)] [] [v0, v1]
  unfold f_X2_findInns at h
  refine a_aload_n (pc := 0) X 1 dX2_findInns_0 rfl rfl ?_
  refine a_getR (pc := 1) X 1 1 1 fl_RX2_56 rfl rfl rfl rfl rfl dX2_findInns_1 ?_
  refine a_astore_n (pc := 4) X [(3, .ref (ad1 1)), (0, .ref (ad0 0)), (1, .ref (ad1 0)), (2, .int x1)] dX2_findInns_4 rfl (by decide) rfl ?_
  refine a_aload_n (pc := 5) X 1 dX2_findInns_5 rfl rfl ?_
  refine a_aload_n (pc := 6) X 2 dX2_findInns_6 rfl rfl ?_
  refine a_iconst (pc := 7) X dX2_findInns_7 q_ic_1 ?_
  obtain ⟨y7, e_y7, h⟩ := x_bo_elim h
  refine a_callV (pc := 8) (st2 := []) (vs2 := [y7, v1]) X [(0, 0, 15), (1, 0, 32)] [some y7, none] 0 0 2 [.ref (ad1 0), .int (1 : Int32)] [] cv_RX2_151 (c_X2_spreadAll (ad0 := ad0) (ad1 := ad1)  e_y7) rfl rfl rfl rfl rfl rfl rfl rfl rfl rfl rfl rfl rfl rfl rfl (Nat.le_of_ble_eq_true rfl) ⟨Nat.le_of_ble_eq_true rfl, Nat.le_of_ble_eq_true rfl⟩ dX2_findInns_8 (fun _ => ?_)
  refine a_iconst (pc := 11) X dX2_findInns_11 q_ic_0 ?_
  refine a_istore (pc := 12) X [(4, .int (0 : Int32)), (3, .ref (ad1 1)), (0, .ref (ad0 0)), (1, .ref (ad1 0)), (2, .int x1)] dX2_findInns_12 (by decide) rfl ?_
  refine a_sub [2, 4, 1, 0] rfl ?_
  exact w_X2_findInns_14 X    x_NN _ _ _ h
theorem dX8_at_0 : decode cX8_at 0 = .ok (.aload_n 0, 1) := by decide +kernel
theorem dX8_at_1 : decode cX8_at 1 = .ok (.getfield 14, 3) := by decide +kernel
theorem dX8_at_4 : decode cX8_at 4 = .ok (.iload_n 1, 1) := by decide +kernel
theorem dX8_at_5 : decode cX8_at 5 = .ok (.invokevirtual 38, 3) := by decide +kernel
theorem dX8_at_8 : decode cX8_at 8 = .ok (.ireturn, 1) := by decide +kernel
def f_X8_at (v0 : XM) (x0 : Int32) : Int32 :=
  x_lt (r_get 940 (x_sub v0 1) x0) (fun y1 =>
  (y1 : Int32))
set_option maxRecDepth 100000 in
set_option maxHeartbeats 4000000 in
theorem c_X8_at {l : Launch}  {ad0 : Nat → Nat} {v0 : XM} {x0 : Int32}  {o : Int32} (h : f_X8_at v0 x0 = o) : CT l yX8_at cX8_at 2 (some .int) 1 [(shTape, ad0)] [v0] (fun aK => [.ref (ad0 0), .int x0]) (some (.int o)) True [v0] := by
  refine CT_of (by decide) (fun _ => Nat.le_of_ble_eq_true rfl) ?_
  intro p e s m args below meth c D tc aK aV A X
  have X : Cx p s m args meth c cX8_at 2 (some .int) RX8 D tc aK aV A [(shTape, ad0)] := X
  show aW p l e (x_Rm 1) s m args below meth c D tc A 2 [(shTape, ad0)] (some (.int o)) True [v0] 0 [(0, .ref (ad0 0)), (1, .int x0)] [] [v0]
  unfold f_X8_at at h
  refine a_aload_n (pc := 0) X 0 dX8_at_0 rfl rfl ?_
  refine a_getR (pc := 1) X 0 1 1 fl_RX8_14 rfl rfl rfl rfl rfl dX8_at_1 ?_
  refine a_iload_n (pc := 4) X 1 dX8_at_4 rfl rfl ?_
  obtain ⟨y1, e_y1, h⟩ := x_lt_elim h
  refine a_callV (pc := 5) (st2 := [.int y1]) (vs2 := [v0]) X [(0, 1, 2)] [none] 0 1 3 [.int x0] [] cv_RX8_38 (ct_get (ad0 := (fun i => ad0 (i + 1))) (by decide) e_y1) rfl rfl rfl rfl rfl rfl rfl rfl rfl rfl rfl rfl rfl rfl rfl (Nat.le_of_ble_eq_true rfl) ⟨Nat.le_of_ble_eq_true rfl, Nat.le_of_ble_eq_true rfl⟩ dX8_at_5 (fun _ => ?_)
  subst h
  exact a_iret (pc := 8) X trivial dX8_at_8
theorem dX9_hasSpot_0 : decode cX9_hasSpot 0 = .ok (.iload_n 1, 1) := by decide +kernel
theorem dX9_hasSpot_1 : decode cX9_hasSpot 1 = .ok (.ifCond .lt 15, 3) := by decide +kernel
theorem dX9_hasSpot_4 : decode cX9_hasSpot 4 = .ok (.iload_n 1, 1) := by decide +kernel
theorem dX9_hasSpot_5 : decode cX9_hasSpot 5 = .ok (.aload_n 0, 1) := by decide +kernel
theorem dX9_hasSpot_6 : decode cX9_hasSpot 6 = .ok (.getfield 46, 3) := by decide +kernel
theorem dX9_hasSpot_9 : decode cX9_hasSpot 9 = .ok (.if_icmp .ge 7, 3) := by decide +kernel
theorem dX9_hasSpot_12 : decode cX9_hasSpot 12 = .ok (.iconst 1, 1) := by decide +kernel
theorem dX9_hasSpot_13 : decode cX9_hasSpot 13 = .ok (.goto 4, 3) := by decide +kernel
theorem dX9_hasSpot_16 : decode cX9_hasSpot 16 = .ok (.iconst 0, 1) := by decide +kernel
theorem dX9_hasSpot_17 : decode cX9_hasSpot 17 = .ok (.ireturn, 1) := by decide +kernel
def f_X9_hasSpot (v0 : XM) (x0 : Int32) : Int32 :=
  if x0 < (0 : Int32) then
  (((0 : Int32) : Int32))
  else (if ((v0.1 0 0) : Int32) ≤ x0 then
  (((0 : Int32) : Int32))
  else (((1 : Int32) : Int32)))
set_option maxRecDepth 100000 in
set_option maxHeartbeats 4000000 in
theorem c_X9_hasSpot {l : Launch}  {ad0 : Nat → Nat} {v0 : XM} {x0 : Int32}  {o : Int32} (h : f_X9_hasSpot v0 x0 = o) : CT l yX9_hasSpot cX9_hasSpot 2 (some .boolean) 0 [(shValley, ad0)] [v0] (fun aK => [.ref (ad0 0), .int x0]) (some (.int o)) (x_Z o) [v0] := by
  refine CT_of (by decide) (fun _ => Nat.le_of_ble_eq_true rfl) ?_
  intro p e s m args below meth c D tc aK aV A X
  have X : Cx p s m args meth c cX9_hasSpot 2 (some .boolean) RX9 D tc aK aV A [(shValley, ad0)] := X
  show aW p l e (x_Rm 0) s m args below meth c D tc A 2 [(shValley, ad0)] (some (.int o)) (x_Z o) [v0] 0 [(0, .ref (ad0 0)), (1, .int x0)] [] [v0]
  unfold f_X9_hasSpot at h
  refine a_iload_n (pc := 0) X 1 dX9_hasSpot_0 rfl rfl ?_
  refine a_if_lt (pc := 1) X 16 dX9_hasSpot_1 rfl (fun c_1 => ?_) (fun c_1 => ?_)
  · have h := x_ifp c_1 h
    refine a_iconst (pc := 16) X dX9_hasSpot_16 q_ic_0 ?_
    subst h
    exact a_zret (pc := 17) X x_Z0 x_Z0 dX9_hasSpot_17
  · have h := x_ifn c_1 h
    refine a_iload_n (pc := 4) X 1 dX9_hasSpot_4 rfl rfl ?_
    refine a_aload_n (pc := 5) X 0 dX9_hasSpot_5 rfl rfl ?_
    refine a_getI (pc := 6) X 0 fl_RX9_46 rfl rfl rfl rfl dX9_hasSpot_6 ?_
    refine a_icmp_ge (pc := 9) X 16 dX9_hasSpot_9 rfl (fun c_9 => ?_) (fun c_9 => ?_)
    · have h := x_ifp c_9 h
      refine a_iconst (pc := 16) X dX9_hasSpot_16 q_ic_0 ?_
      subst h
      exact a_zret (pc := 17) X x_Z0 x_Z0 dX9_hasSpot_17
    · have h := x_ifn c_9 h
      refine a_iconst (pc := 12) X dX9_hasSpot_12 q_ic_1 ?_
      refine a_goto (pc := 13) X 17 dX9_hasSpot_13 rfl ?_
      subst h
      exact a_zret (pc := 17) X x_Z1 x_Z1 dX9_hasSpot_17
theorem dX2_isOrigin_0 : decode cX2_isOrigin 0 = .ok (.iconst 0, 1) := by decide +kernel
theorem dX2_isOrigin_1 : decode cX2_isOrigin 1 = .ok (.istore 4, 2) := by decide +kernel
theorem dX2_isOrigin_3 : decode cX2_isOrigin 3 = .ok (.iload 4, 2) := by decide +kernel
theorem dX2_isOrigin_5 : decode cX2_isOrigin 5 = .ok (.iload_n 2, 1) := by decide +kernel
theorem dX2_isOrigin_6 : decode cX2_isOrigin 6 = .ok (.if_icmp .ge 37, 3) := by decide +kernel
theorem dX2_isOrigin_9 : decode cX2_isOrigin 9 = .ok (.aload_n 0, 1) := by decide +kernel
theorem dX2_isOrigin_10 : decode cX2_isOrigin 10 = .ok (.iload_n 3, 1) := by decide +kernel
theorem dX2_isOrigin_11 : decode cX2_isOrigin 11 = .ok (.aload_n 1, 1) := by decide +kernel
theorem dX2_isOrigin_12 : decode cX2_isOrigin 12 = .ok (.iconst 2, 1) := by decide +kernel
theorem dX2_isOrigin_13 : decode cX2_isOrigin 13 = .ok (.iload 4, 2) := by decide +kernel
theorem dX2_isOrigin_15 : decode cX2_isOrigin 15 = .ok (.imul, 1) := by decide +kernel
theorem dX2_isOrigin_16 : decode cX2_isOrigin 16 = .ok (.invokevirtual 199, 3) := by decide +kernel
theorem dX2_isOrigin_19 : decode cX2_isOrigin 19 = .ok (.invokevirtual 174, 3) := by decide +kernel
theorem dX2_isOrigin_22 : decode cX2_isOrigin 22 = .ok (.aload_n 1, 1) := by decide +kernel
theorem dX2_isOrigin_23 : decode cX2_isOrigin 23 = .ok (.iconst 2, 1) := by decide +kernel
theorem dX2_isOrigin_24 : decode cX2_isOrigin 24 = .ok (.iload 4, 2) := by decide +kernel
theorem dX2_isOrigin_26 : decode cX2_isOrigin 26 = .ok (.imul, 1) := by decide +kernel
theorem dX2_isOrigin_27 : decode cX2_isOrigin 27 = .ok (.iconst 1, 1) := by decide +kernel
theorem dX2_isOrigin_28 : decode cX2_isOrigin 28 = .ok (.iadd, 1) := by decide +kernel
theorem dX2_isOrigin_29 : decode cX2_isOrigin 29 = .ok (.invokevirtual 199, 3) := by decide +kernel
theorem dX2_isOrigin_32 : decode cX2_isOrigin 32 = .ok (.if_icmp .eq 5, 3) := by decide +kernel
theorem dX2_isOrigin_35 : decode cX2_isOrigin 35 = .ok (.iconst 0, 1) := by decide +kernel
theorem dX2_isOrigin_36 : decode cX2_isOrigin 36 = .ok (.ireturn, 1) := by decide +kernel
theorem dX2_isOrigin_37 : decode cX2_isOrigin 37 = .ok (.iinc 4 1, 3) := by decide +kernel
theorem dX2_isOrigin_40 : decode cX2_isOrigin 40 = .ok (.goto (-37), 3) := by decide +kernel
theorem dX2_isOrigin_43 : decode cX2_isOrigin 43 = .ok (.iconst 1, 1) := by decide +kernel
theorem dX2_isOrigin_44 : decode cX2_isOrigin 44 = .ok (.ireturn, 1) := by decide +kernel
def f_X2_isOrigin_3 (v0 : XM) (v1 : XM) (k3 : Int32 → Int32 → Int32 → Option (Int32)) (l2 : Int32) (l3 : Int32) (l4 : Int32) : Option (Int32) :=
  if (l2 : Int32) ≤ l4 then
  (some ((1 : Int32) : Int32))
  else (x_lt (f_X8_at v1 ((2 : Int32) * l4)) (fun y1 =>
  x_lt (f_X2_farFrom v0 l3 y1) (fun y2 =>
  x_lt (f_X8_at v1 (((2 : Int32) * l4) + (1 : Int32))) (fun y3 =>
  if (y2 : Int32) = y3 then
  (k3 l2 l3 (l4 + 1))
  else (some ((0 : Int32) : Int32))))))
def f_X2_isOrigin (v0 : XM) (v1 : XM) (x1 : Int32) (x2 : Int32) : Option (Int32) :=
  x_lp (φ := Int32 → Int32 → Int32 → Option (Int32)) (fun _ _ _ => none) (f_X2_isOrigin_3 v0 v1 ) x_NN x1 x2 (0 : Int32)
set_option maxRecDepth 100000 in
set_option maxHeartbeats 4000000 in
theorem w_X2_isOrigin_3 {p : Program} {l : Launch} {e : Env} {s : State} {m : MethodId} {args : Array Value} {below : List Frame} {meth : Method} {c : Code} {D : va_G} {tc : Nat → ClassId} {aK aV : Nat → Nat} {A : Nat → Prop} {ad0 : Nat → Nat} {ad1 : Nat → Nat} {v0 : XM} {v1 : XM} (X : Cx p s m args meth c cX2_isOrigin 5 (some .boolean) RX2 D tc aK aV A [(shRoads, ad0), (shTape, ad1)])  {o : Int32}  : ∀ (n : Nat), ∀ (l2 : Int32) (l3 : Int32) (l4 : Int32), x_lp (φ := Int32 → Int32 → Int32 → Option (Int32)) (fun _ _ _ => none) (f_X2_isOrigin_3 v0 v1 ) n l2 l3 l4 = some o → aW p l e (x_Rm 2) s m args below meth c D tc A 5 [(shRoads, ad0), (shTape, ad1)] (some (.int o)) (x_Z o) [v0, v1] 3 [(0, .ref (ad0 0)), (1, .ref (ad1 0)), (2, .int l2), (3, .int l3), (4, .int l4)] [] [v0, v1] := by
  intro n
  induction n with
  | zero => intro l2 l3 l4 h; exact absurd h (fun q => by cases q)
  | succ n ih =>
    intro l2 l3 l4 h
    have h : f_X2_isOrigin_3 v0 v1  (x_lp (φ := Int32 → Int32 → Int32 → Option (Int32)) (fun _ _ _ => none) (f_X2_isOrigin_3 v0 v1 ) n) l2 l3 l4 = some o := h
    generalize x_lp (φ := Int32 → Int32 → Int32 → Option (Int32)) (fun _ _ _ => none) (f_X2_isOrigin_3 v0 v1 ) n = k3 at h ih
    have hk3 := ih
    unfold f_X2_isOrigin_3 at h
    refine a_iload (pc := 3) X 4 dX2_isOrigin_3 rfl ?_
    refine a_iload_n (pc := 5) X 2 dX2_isOrigin_5 rfl rfl ?_
    refine a_icmp_ge (pc := 6) X 43 dX2_isOrigin_6 rfl (fun c_6 => ?_) (fun c_6 => ?_)
    · have h := x_ifp c_6 h
      refine a_iconst (pc := 43) X dX2_isOrigin_43 q_ic_1 ?_
      have h := Option.some.inj h; subst h
      exact a_zret (pc := 44) X x_Z1 x_Z1 dX2_isOrigin_44
    · have h := x_ifn c_6 h
      refine a_aload_n (pc := 9) X 0 dX2_isOrigin_9 rfl rfl ?_
      refine a_iload_n (pc := 10) X 3 dX2_isOrigin_10 rfl rfl ?_
      refine a_aload_n (pc := 11) X 1 dX2_isOrigin_11 rfl rfl ?_
      refine a_iconst (pc := 12) X dX2_isOrigin_12 q_ic_2 ?_
      refine a_iload (pc := 13) X 4 dX2_isOrigin_13 rfl ?_
      refine a_imul (pc := 15) X dX2_isOrigin_15 ?_
      obtain ⟨y1, e_y1, h⟩ := x_lt_elim h
      refine a_callV (pc := 16) (st2 := [.int y1, .int l3, .ref (ad0 0)]) (vs2 := [v0, v1]) X [(1, 0, 4)] [none] 1 0 8 [.int ((2 : Int32) * l4)] [.int l3, .ref (ad0 0)] cv_RX2_199 (c_X8_at (ad0 := ad1)  e_y1) rfl rfl rfl rfl rfl rfl rfl rfl rfl rfl rfl rfl rfl rfl rfl (Nat.le_of_ble_eq_true rfl) ⟨Nat.le_of_ble_eq_true rfl, Nat.le_of_ble_eq_true rfl⟩ dX2_isOrigin_16 (fun _ => ?_)
      obtain ⟨y2, e_y2, h⟩ := x_lt_elim h
      refine a_callV (pc := 19) (st2 := [.int y2]) (vs2 := [v0, v1]) X [(0, 0, 15)] [none] 0 0 2 [.int l3, .int y1] [] cv_RX2_174 (c_X2_farFrom (ad0 := ad0)  e_y2) rfl rfl rfl rfl rfl rfl rfl rfl rfl rfl rfl rfl rfl rfl rfl (Nat.le_of_ble_eq_true rfl) ⟨Nat.le_of_ble_eq_true rfl, Nat.le_of_ble_eq_true rfl⟩ dX2_isOrigin_19 (fun _ => ?_)
      refine a_aload_n (pc := 22) X 1 dX2_isOrigin_22 rfl rfl ?_
      refine a_iconst (pc := 23) X dX2_isOrigin_23 q_ic_2 ?_
      refine a_iload (pc := 24) X 4 dX2_isOrigin_24 rfl ?_
      refine a_imul (pc := 26) X dX2_isOrigin_26 ?_
      refine a_iconst (pc := 27) X dX2_isOrigin_27 q_ic_1 ?_
      refine a_iadd (pc := 28) X dX2_isOrigin_28 ?_
      obtain ⟨y3, e_y3, h⟩ := x_lt_elim h
      refine a_callV (pc := 29) (st2 := [.int y3, .int y2]) (vs2 := [v0, v1]) X [(1, 0, 4)] [none] 1 0 8 [.int (((2 : Int32) * l4) + (1 : Int32))] [.int y2] cv_RX2_199 (c_X8_at (ad0 := ad1)  e_y3) rfl rfl rfl rfl rfl rfl rfl rfl rfl rfl rfl rfl rfl rfl rfl (Nat.le_of_ble_eq_true rfl) ⟨Nat.le_of_ble_eq_true rfl, Nat.le_of_ble_eq_true rfl⟩ dX2_isOrigin_29 (fun _ => ?_)
      refine a_icmp_eq (pc := 32) X 37 dX2_isOrigin_32 rfl (fun c_32 => ?_) (fun c_32 => ?_)
      · have h := x_ifp c_32 h
        refine a_iinc (pc := 37) X 4 [(4, .int (l4 + 1)), (0, .ref (ad0 0)), (1, .ref (ad1 0)), (2, .int l2), (3, .int l3)] dX2_isOrigin_37 rfl (congrArg (HAdd.hAdd l4) q_ic_1) (by decide) rfl ?_
        refine a_goto (pc := 40) X 3 dX2_isOrigin_40 rfl ?_
        refine a_sub [1, 2, 3, 4, 0] rfl ?_
        exact hk3 _ _ _ h
      · have h := x_ifn c_32 h
        refine a_iconst (pc := 35) X dX2_isOrigin_35 q_ic_0 ?_
        have h := Option.some.inj h; subst h
        exact a_zret (pc := 36) X x_Z0 x_Z0 dX2_isOrigin_36
set_option maxRecDepth 100000 in
set_option maxHeartbeats 4000000 in
theorem c_X2_isOrigin {l : Launch}  {ad0 : Nat → Nat} {ad1 : Nat → Nat} {v0 v1 : XM} {x1 : Int32} {x2 : Int32}  {o : Int32} (h : f_X2_isOrigin v0 v1 x1 x2 = some o) : CT l yX2_isOrigin cX2_isOrigin 5 (some .boolean) 2 [(shRoads, ad0), (shTape, ad1)] [v0, v1] (fun aK => [.ref (ad0 0), .ref (ad1 0), .int x1, .int x2]) (some (.int o)) (x_Z o) [v0, v1] := by
  refine CT_of (by decide) (fun _ => Nat.le_of_ble_eq_true rfl) ?_
  intro p e s m args below meth c D tc aK aV A X
  have X : Cx p s m args meth c cX2_isOrigin 5 (some .boolean) RX2 D tc aK aV A [(shRoads, ad0), (shTape, ad1)] := X
  show aW p l e (x_Rm 2) s m args below meth c D tc A 5 [(shRoads, ad0), (shTape, ad1)] (some (.int o)) (x_Z o) [v0, v1] 0 [(0, .ref (ad0 0)), (1, .ref (ad1 0)), (2, .int x1), (3, .int x2)] [] [v0, v1]
  unfold f_X2_isOrigin at h
  refine a_iconst (pc := 0) X dX2_isOrigin_0 q_ic_0 ?_
  refine a_istore (pc := 1) X [(4, .int (0 : Int32)), (0, .ref (ad0 0)), (1, .ref (ad1 0)), (2, .int x1), (3, .int x2)] dX2_isOrigin_1 (by decide) rfl ?_
  refine a_sub [1, 2, 3, 4, 0] rfl ?_
  exact w_X2_isOrigin_3 X    x_NN _ _ _ h
theorem dX2_alikeFrom_0 : decode cX2_alikeFrom 0 = .ok (.iconst 0, 1) := by decide +kernel
theorem dX2_alikeFrom_1 : decode cX2_alikeFrom 1 = .ok (.istore 5, 2) := by decide +kernel
theorem dX2_alikeFrom_3 : decode cX2_alikeFrom 3 = .ok (.iconst 0, 1) := by decide +kernel
theorem dX2_alikeFrom_4 : decode cX2_alikeFrom 4 = .ok (.istore 6, 2) := by decide +kernel
theorem dX2_alikeFrom_6 : decode cX2_alikeFrom 6 = .ok (.iload 6, 2) := by decide +kernel
theorem dX2_alikeFrom_8 : decode cX2_alikeFrom 8 = .ok (.aload_n 1, 1) := by decide +kernel
theorem dX2_alikeFrom_9 : decode cX2_alikeFrom 9 = .ok (.getfield 62, 3) := by decide +kernel
theorem dX2_alikeFrom_12 : decode cX2_alikeFrom 12 = .ok (.if_icmp .ge 39, 3) := by decide +kernel
theorem dX2_alikeFrom_15 : decode cX2_alikeFrom 15 = .ok (.iload_n 2, 1) := by decide +kernel
theorem dX2_alikeFrom_16 : decode cX2_alikeFrom 16 = .ok (.iload 6, 2) := by decide +kernel
theorem dX2_alikeFrom_18 : decode cX2_alikeFrom 18 = .ok (.ishr, 1) := by decide +kernel
theorem dX2_alikeFrom_19 : decode cX2_alikeFrom 19 = .ok (.iconst 1, 1) := by decide +kernel
theorem dX2_alikeFrom_20 : decode cX2_alikeFrom 20 = .ok (.iand, 1) := by decide +kernel
theorem dX2_alikeFrom_21 : decode cX2_alikeFrom 21 = .ok (.iconst 1, 1) := by decide +kernel
theorem dX2_alikeFrom_22 : decode cX2_alikeFrom 22 = .ok (.if_icmp .ne 23, 3) := by decide +kernel
theorem dX2_alikeFrom_25 : decode cX2_alikeFrom 25 = .ok (.aload_n 0, 1) := by decide +kernel
theorem dX2_alikeFrom_26 : decode cX2_alikeFrom 26 = .ok (.iload_n 3, 1) := by decide +kernel
theorem dX2_alikeFrom_27 : decode cX2_alikeFrom 27 = .ok (.iload 6, 2) := by decide +kernel
theorem dX2_alikeFrom_29 : decode cX2_alikeFrom 29 = .ok (.invokevirtual 174, 3) := by decide +kernel
theorem dX2_alikeFrom_32 : decode cX2_alikeFrom 32 = .ok (.aload_n 0, 1) := by decide +kernel
theorem dX2_alikeFrom_33 : decode cX2_alikeFrom 33 = .ok (.iload_n 3, 1) := by decide +kernel
theorem dX2_alikeFrom_34 : decode cX2_alikeFrom 34 = .ok (.iload 4, 2) := by decide +kernel
theorem dX2_alikeFrom_36 : decode cX2_alikeFrom 36 = .ok (.invokevirtual 174, 3) := by decide +kernel
theorem dX2_alikeFrom_39 : decode cX2_alikeFrom 39 = .ok (.if_icmp .ne 6, 3) := by decide +kernel
theorem dX2_alikeFrom_42 : decode cX2_alikeFrom 42 = .ok (.iinc 5 1, 3) := by decide +kernel
theorem dX2_alikeFrom_45 : decode cX2_alikeFrom 45 = .ok (.iinc 6 1, 3) := by decide +kernel
theorem dX2_alikeFrom_48 : decode cX2_alikeFrom 48 = .ok (.goto (-42), 3) := by decide +kernel
theorem dX2_alikeFrom_51 : decode cX2_alikeFrom 51 = .ok (.iload 5, 2) := by decide +kernel
theorem dX2_alikeFrom_53 : decode cX2_alikeFrom 53 = .ok (.ireturn, 1) := by decide +kernel
def f_X2_alikeFrom_45 (v0 : XM) (v1 : XM) (k6 : Int32 → Int32 → Int32 → Int32 → Int32 → Option (Int32)) (l2 : Int32) (l3 : Int32) (l4 : Int32) (l5 : Int32) (l6 : Int32) : Option (Int32) :=
  k6 l2 l3 l4 l5 (l6 + 1)
def f_X2_alikeFrom_6 (v0 : XM) (v1 : XM) (k6 : Int32 → Int32 → Int32 → Int32 → Int32 → Option (Int32)) (l2 : Int32) (l3 : Int32) (l4 : Int32) (l5 : Int32) (l6 : Int32) : Option (Int32) :=
  if ((v1.1 0 0) : Int32) ≤ l6 then
  (some (l5 : Int32))
  else (if (((l2 >>> (l6 &&& 31)) &&& (1 : Int32)) : Int32) = (1 : Int32) then
  (x_lt (f_X2_farFrom v0 l3 l6) (fun y1 =>
  x_lt (f_X2_farFrom v0 l3 l4) (fun y2 =>
  if (y1 : Int32) = y2 then
  (f_X2_alikeFrom_45 v0 v1 k6 l2 l3 l4 (l5 + 1) l6)
  else (f_X2_alikeFrom_45 v0 v1 k6 l2 l3 l4 l5 l6))))
  else (f_X2_alikeFrom_45 v0 v1 k6 l2 l3 l4 l5 l6))
def f_X2_alikeFrom (v0 : XM) (v1 : XM) (x1 : Int32) (x2 : Int32) (x3 : Int32) : Option (Int32) :=
  x_lp (φ := Int32 → Int32 → Int32 → Int32 → Int32 → Option (Int32)) (fun _ _ _ _ _ => none) (f_X2_alikeFrom_6 v0 v1 ) x_NN x1 x2 x3 (0 : Int32) (0 : Int32)
set_option maxRecDepth 100000 in
set_option maxHeartbeats 4000000 in
theorem w_X2_alikeFrom_45 {p : Program} {l : Launch} {e : Env} {s : State} {m : MethodId} {args : Array Value} {below : List Frame} {meth : Method} {c : Code} {D : va_G} {tc : Nat → ClassId} {aK aV : Nat → Nat} {A : Nat → Prop} {ad0 : Nat → Nat} {ad1 : Nat → Nat} {v0 : XM} {v1 : XM} (X : Cx p s m args meth c cX2_alikeFrom 7 (some .int) RX2 D tc aK aV A [(shRoads, ad0), (shValley, ad1)])  {o : Int32} {k6 : Int32 → Int32 → Int32 → Int32 → Int32 → Option (Int32)} (hk6 : ∀ (l2 : Int32) (l3 : Int32) (l4 : Int32) (l5 : Int32) (l6 : Int32), k6 l2 l3 l4 l5 l6 = some o → aW p l e (x_Rm 2) s m args below meth c D tc A 7 [(shRoads, ad0), (shValley, ad1)] (some (.int o)) True [v0, v1] 6 [(0, .ref (ad0 0)), (1, .ref (ad1 0)), (2, .int l2), (3, .int l3), (4, .int l4), (5, .int l5), (6, .int l6)] [] [v0, v1]) {l2 : Int32} {l3 : Int32} {l4 : Int32} {l5 : Int32} {l6 : Int32}  (h : f_X2_alikeFrom_45 v0 v1 k6 l2 l3 l4 l5 l6 = some o) : aW p l e (x_Rm 2) s m args below meth c D tc A 7 [(shRoads, ad0), (shValley, ad1)] (some (.int o)) True [v0, v1] 45 [(0, .ref (ad0 0)), (1, .ref (ad1 0)), (2, .int l2), (3, .int l3), (4, .int l4), (5, .int l5), (6, .int l6)] [] [v0, v1] := by
  unfold f_X2_alikeFrom_45 at h
  refine a_iinc (pc := 45) X 6 [(6, .int (l6 + 1)), (0, .ref (ad0 0)), (1, .ref (ad1 0)), (2, .int l2), (3, .int l3), (4, .int l4), (5, .int l5)] dX2_alikeFrom_45 rfl (congrArg (HAdd.hAdd l6) q_ic_1) (by decide) rfl ?_
  refine a_goto (pc := 48) X 6 dX2_alikeFrom_48 rfl ?_
  refine a_sub [1, 2, 3, 4, 5, 6, 0] rfl ?_
  exact hk6 _ _ _ _ _ h
set_option maxRecDepth 100000 in
set_option maxHeartbeats 4000000 in
theorem w_X2_alikeFrom_6 {p : Program} {l : Launch} {e : Env} {s : State} {m : MethodId} {args : Array Value} {below : List Frame} {meth : Method} {c : Code} {D : va_G} {tc : Nat → ClassId} {aK aV : Nat → Nat} {A : Nat → Prop} {ad0 : Nat → Nat} {ad1 : Nat → Nat} {v0 : XM} {v1 : XM} (X : Cx p s m args meth c cX2_alikeFrom 7 (some .int) RX2 D tc aK aV A [(shRoads, ad0), (shValley, ad1)])  {o : Int32}  : ∀ (n : Nat), ∀ (l2 : Int32) (l3 : Int32) (l4 : Int32) (l5 : Int32) (l6 : Int32), x_lp (φ := Int32 → Int32 → Int32 → Int32 → Int32 → Option (Int32)) (fun _ _ _ _ _ => none) (f_X2_alikeFrom_6 v0 v1 ) n l2 l3 l4 l5 l6 = some o → aW p l e (x_Rm 2) s m args below meth c D tc A 7 [(shRoads, ad0), (shValley, ad1)] (some (.int o)) True [v0, v1] 6 [(0, .ref (ad0 0)), (1, .ref (ad1 0)), (2, .int l2), (3, .int l3), (4, .int l4), (5, .int l5), (6, .int l6)] [] [v0, v1] := by
  intro n
  induction n with
  | zero => intro l2 l3 l4 l5 l6 h; exact absurd h (fun q => by cases q)
  | succ n ih =>
    intro l2 l3 l4 l5 l6 h
    have h : f_X2_alikeFrom_6 v0 v1  (x_lp (φ := Int32 → Int32 → Int32 → Int32 → Int32 → Option (Int32)) (fun _ _ _ _ _ => none) (f_X2_alikeFrom_6 v0 v1 ) n) l2 l3 l4 l5 l6 = some o := h
    generalize x_lp (φ := Int32 → Int32 → Int32 → Int32 → Int32 → Option (Int32)) (fun _ _ _ _ _ => none) (f_X2_alikeFrom_6 v0 v1 ) n = k6 at h ih
    have hk6 := ih
    unfold f_X2_alikeFrom_6 at h
    refine a_iload (pc := 6) X 6 dX2_alikeFrom_6 rfl ?_
    refine a_aload_n (pc := 8) X 1 dX2_alikeFrom_8 rfl rfl ?_
    refine a_getI (pc := 9) X 1 fl_RX2_62 rfl rfl rfl rfl dX2_alikeFrom_9 ?_
    refine a_icmp_ge (pc := 12) X 51 dX2_alikeFrom_12 rfl (fun c_12 => ?_) (fun c_12 => ?_)
    · have h := x_ifp c_12 h
      refine a_iload (pc := 51) X 5 dX2_alikeFrom_51 rfl ?_
      have h := Option.some.inj h; subst h
      exact a_iret (pc := 53) X trivial dX2_alikeFrom_53
    · have h := x_ifn c_12 h
      refine a_iload_n (pc := 15) X 2 dX2_alikeFrom_15 rfl rfl ?_
      refine a_iload (pc := 16) X 6 dX2_alikeFrom_16 rfl ?_
      refine a_ishr (pc := 18) X dX2_alikeFrom_18 ?_
      refine a_iconst (pc := 19) X dX2_alikeFrom_19 q_ic_1 ?_
      refine a_iand (pc := 20) X dX2_alikeFrom_20 ?_
      refine a_iconst (pc := 21) X dX2_alikeFrom_21 q_ic_1 ?_
      refine a_icmp_ne (pc := 22) X 45 dX2_alikeFrom_22 rfl (fun c_22 => ?_) (fun c_22 => ?_)
      · have h := x_ifn c_22 h
        exact w_X2_alikeFrom_45 X   hk6  h
      · have h := x_ifp c_22 h
        refine a_aload_n (pc := 25) X 0 dX2_alikeFrom_25 rfl rfl ?_
        refine a_iload_n (pc := 26) X 3 dX2_alikeFrom_26 rfl rfl ?_
        refine a_iload (pc := 27) X 6 dX2_alikeFrom_27 rfl ?_
        obtain ⟨y1, e_y1, h⟩ := x_lt_elim h
        refine a_callV (pc := 29) (st2 := [.int y1]) (vs2 := [v0, v1]) X [(0, 0, 15)] [none] 0 0 2 [.int l3, .int l6] [] cv_RX2_174 (c_X2_farFrom (ad0 := ad0)  e_y1) rfl rfl rfl rfl rfl rfl rfl rfl rfl rfl rfl rfl rfl rfl rfl (Nat.le_of_ble_eq_true rfl) ⟨Nat.le_of_ble_eq_true rfl, Nat.le_of_ble_eq_true rfl⟩ dX2_alikeFrom_29 (fun _ => ?_)
        refine a_aload_n (pc := 32) X 0 dX2_alikeFrom_32 rfl rfl ?_
        refine a_iload_n (pc := 33) X 3 dX2_alikeFrom_33 rfl rfl ?_
        refine a_iload (pc := 34) X 4 dX2_alikeFrom_34 rfl ?_
        obtain ⟨y2, e_y2, h⟩ := x_lt_elim h
        refine a_callV (pc := 36) (st2 := [.int y2, .int y1]) (vs2 := [v0, v1]) X [(0, 0, 15)] [none] 0 0 2 [.int l3, .int l4] [.int y1] cv_RX2_174 (c_X2_farFrom (ad0 := ad0)  e_y2) rfl rfl rfl rfl rfl rfl rfl rfl rfl rfl rfl rfl rfl rfl rfl (Nat.le_of_ble_eq_true rfl) ⟨Nat.le_of_ble_eq_true rfl, Nat.le_of_ble_eq_true rfl⟩ dX2_alikeFrom_36 (fun _ => ?_)
        refine a_icmp_ne (pc := 39) X 45 dX2_alikeFrom_39 rfl (fun c_39 => ?_) (fun c_39 => ?_)
        · have h := x_ifn c_39 h
          exact w_X2_alikeFrom_45 X   hk6  h
        · have h := x_ifp c_39 h
          refine a_iinc (pc := 42) X 5 [(5, .int (l5 + 1)), (0, .ref (ad0 0)), (1, .ref (ad1 0)), (2, .int l2), (3, .int l3), (4, .int l4), (6, .int l6)] dX2_alikeFrom_42 rfl (congrArg (HAdd.hAdd l5) q_ic_1) (by decide) rfl ?_
          refine a_sub [1, 2, 3, 4, 5, 0, 6] rfl ?_
          exact w_X2_alikeFrom_45 X   hk6  h
set_option maxRecDepth 100000 in
set_option maxHeartbeats 4000000 in
theorem c_X2_alikeFrom {l : Launch}  {ad0 : Nat → Nat} {ad1 : Nat → Nat} {v0 v1 : XM} {x1 : Int32} {x2 : Int32} {x3 : Int32}  {o : Int32} (h : f_X2_alikeFrom v0 v1 x1 x2 x3 = some o) : CT l yX2_alikeFrom cX2_alikeFrom 7 (some .int) 2 [(shRoads, ad0), (shValley, ad1)] [v0, v1] (fun aK => [.ref (ad0 0), .ref (ad1 0), .int x1, .int x2, .int x3]) (some (.int o)) True [v0, v1] := by
  refine CT_of (by decide) (fun _ => Nat.le_of_ble_eq_true rfl) ?_
  intro p e s m args below meth c D tc aK aV A X
  have X : Cx p s m args meth c cX2_alikeFrom 7 (some .int) RX2 D tc aK aV A [(shRoads, ad0), (shValley, ad1)] := X
  show aW p l e (x_Rm 2) s m args below meth c D tc A 7 [(shRoads, ad0), (shValley, ad1)] (some (.int o)) True [v0, v1] 0 [(0, .ref (ad0 0)), (1, .ref (ad1 0)), (2, .int x1), (3, .int x2), (4, .int x3)] [] [v0, v1]
  unfold f_X2_alikeFrom at h
  refine a_iconst (pc := 0) X dX2_alikeFrom_0 q_ic_0 ?_
  refine a_istore (pc := 1) X [(5, .int (0 : Int32)), (0, .ref (ad0 0)), (1, .ref (ad1 0)), (2, .int x1), (3, .int x2), (4, .int x3)] dX2_alikeFrom_1 (by decide) rfl ?_
  refine a_iconst (pc := 3) X dX2_alikeFrom_3 q_ic_0 ?_
  refine a_istore (pc := 4) X [(6, .int (0 : Int32)), (5, .int (0 : Int32)), (0, .ref (ad0 0)), (1, .ref (ad1 0)), (2, .int x1), (3, .int x2), (4, .int x3)] dX2_alikeFrom_4 (by decide) rfl ?_
  refine a_sub [2, 3, 4, 5, 6, 1, 0] rfl ?_
  exact w_X2_alikeFrom_6 X    x_NN _ _ _ _ _ h
theorem dX2_mostLeftBy_0 : decode cX2_mostLeftBy 0 = .ok (.iconst 0, 1) := by decide +kernel
theorem dX2_mostLeftBy_1 : decode cX2_mostLeftBy 1 = .ok (.istore 4, 2) := by decide +kernel
theorem dX2_mostLeftBy_3 : decode cX2_mostLeftBy 3 = .ok (.iconst 0, 1) := by decide +kernel
theorem dX2_mostLeftBy_4 : decode cX2_mostLeftBy 4 = .ok (.istore 5, 2) := by decide +kernel
theorem dX2_mostLeftBy_6 : decode cX2_mostLeftBy 6 = .ok (.iload 5, 2) := by decide +kernel
theorem dX2_mostLeftBy_8 : decode cX2_mostLeftBy 8 = .ok (.aload_n 1, 1) := by decide +kernel
theorem dX2_mostLeftBy_9 : decode cX2_mostLeftBy 9 = .ok (.getfield 62, 3) := by decide +kernel
theorem dX2_mostLeftBy_12 : decode cX2_mostLeftBy 12 = .ok (.if_icmp .ge 35, 3) := by decide +kernel
theorem dX2_mostLeftBy_15 : decode cX2_mostLeftBy 15 = .ok (.iload_n 2, 1) := by decide +kernel
theorem dX2_mostLeftBy_16 : decode cX2_mostLeftBy 16 = .ok (.iload 5, 2) := by decide +kernel
theorem dX2_mostLeftBy_18 : decode cX2_mostLeftBy 18 = .ok (.ishr, 1) := by decide +kernel
theorem dX2_mostLeftBy_19 : decode cX2_mostLeftBy 19 = .ok (.iconst 1, 1) := by decide +kernel
theorem dX2_mostLeftBy_20 : decode cX2_mostLeftBy 20 = .ok (.iand, 1) := by decide +kernel
theorem dX2_mostLeftBy_21 : decode cX2_mostLeftBy 21 = .ok (.iconst 1, 1) := by decide +kernel
theorem dX2_mostLeftBy_22 : decode cX2_mostLeftBy 22 = .ok (.if_icmp .ne 19, 3) := by decide +kernel
theorem dX2_mostLeftBy_25 : decode cX2_mostLeftBy 25 = .ok (.iload 4, 2) := by decide +kernel
theorem dX2_mostLeftBy_27 : decode cX2_mostLeftBy 27 = .ok (.aload_n 0, 1) := by decide +kernel
theorem dX2_mostLeftBy_28 : decode cX2_mostLeftBy 28 = .ok (.aload_n 1, 1) := by decide +kernel
theorem dX2_mostLeftBy_29 : decode cX2_mostLeftBy 29 = .ok (.iload_n 2, 1) := by decide +kernel
theorem dX2_mostLeftBy_30 : decode cX2_mostLeftBy 30 = .ok (.iload_n 3, 1) := by decide +kernel
theorem dX2_mostLeftBy_31 : decode cX2_mostLeftBy 31 = .ok (.iload 5, 2) := by decide +kernel
theorem dX2_mostLeftBy_33 : decode cX2_mostLeftBy 33 = .ok (.invokevirtual 216, 3) := by decide +kernel
theorem dX2_mostLeftBy_36 : decode cX2_mostLeftBy 36 = .ok (.invokestatic 177, 3) := by decide +kernel
theorem dX2_mostLeftBy_39 : decode cX2_mostLeftBy 39 = .ok (.istore 4, 2) := by decide +kernel
theorem dX2_mostLeftBy_41 : decode cX2_mostLeftBy 41 = .ok (.iinc 5 1, 3) := by decide +kernel
theorem dX2_mostLeftBy_44 : decode cX2_mostLeftBy 44 = .ok (.goto (-38), 3) := by decide +kernel
theorem dX2_mostLeftBy_47 : decode cX2_mostLeftBy 47 = .ok (.iload 4, 2) := by decide +kernel
theorem dX2_mostLeftBy_49 : decode cX2_mostLeftBy 49 = .ok (.ireturn, 1) := by decide +kernel
def f_X2_mostLeftBy_41 (v0 : XM) (v1 : XM) (k6 : Int32 → Int32 → Int32 → Int32 → Option (Int32)) (l2 : Int32) (l3 : Int32) (l4 : Int32) (l5 : Int32) : Option (Int32) :=
  k6 l2 l3 l4 (l5 + 1)
def f_X2_mostLeftBy_6 (v0 : XM) (v1 : XM) (k6 : Int32 → Int32 → Int32 → Int32 → Option (Int32)) (l2 : Int32) (l3 : Int32) (l4 : Int32) (l5 : Int32) : Option (Int32) :=
  if ((v1.1 0 0) : Int32) ≤ l5 then
  (some (l4 : Int32))
  else (if (((l2 >>> (l5 &&& 31)) &&& (1 : Int32)) : Int32) = (1 : Int32) then
  (x_bo (f_X2_alikeFrom v0 v1 l2 l3 l5) (fun y1 =>
  x_lt (if l4 < y1 then y1 else l4) (fun y2 =>
  f_X2_mostLeftBy_41 v0 v1 k6 l2 l3 y2 l5)))
  else (f_X2_mostLeftBy_41 v0 v1 k6 l2 l3 l4 l5))
def f_X2_mostLeftBy (v0 : XM) (v1 : XM) (x1 : Int32) (x2 : Int32) : Option (Int32) :=
  x_lp (φ := Int32 → Int32 → Int32 → Int32 → Option (Int32)) (fun _ _ _ _ => none) (f_X2_mostLeftBy_6 v0 v1 ) x_NN x1 x2 (0 : Int32) (0 : Int32)
set_option maxRecDepth 100000 in
set_option maxHeartbeats 4000000 in
theorem w_X2_mostLeftBy_41 {p : Program} {l : Launch} {e : Env} {s : State} {m : MethodId} {args : Array Value} {below : List Frame} {meth : Method} {c : Code} {D : va_G} {tc : Nat → ClassId} {aK aV : Nat → Nat} {A : Nat → Prop} {ad0 : Nat → Nat} {ad1 : Nat → Nat} {v0 : XM} {v1 : XM} (X : Cx p s m args meth c cX2_mostLeftBy 6 (some .int) RX2 D tc aK aV A [(shRoads, ad0), (shValley, ad1)])  {o : Int32} {k6 : Int32 → Int32 → Int32 → Int32 → Option (Int32)} (hk6 : ∀ (l2 : Int32) (l3 : Int32) (l4 : Int32) (l5 : Int32), k6 l2 l3 l4 l5 = some o → aW p l e (x_Rm 3) s m args below meth c D tc A 6 [(shRoads, ad0), (shValley, ad1)] (some (.int o)) True [v0, v1] 6 [(0, .ref (ad0 0)), (1, .ref (ad1 0)), (2, .int l2), (3, .int l3), (4, .int l4), (5, .int l5)] [] [v0, v1]) {l2 : Int32} {l3 : Int32} {l4 : Int32} {l5 : Int32}  (h : f_X2_mostLeftBy_41 v0 v1 k6 l2 l3 l4 l5 = some o) : aW p l e (x_Rm 3) s m args below meth c D tc A 6 [(shRoads, ad0), (shValley, ad1)] (some (.int o)) True [v0, v1] 41 [(0, .ref (ad0 0)), (1, .ref (ad1 0)), (2, .int l2), (3, .int l3), (4, .int l4), (5, .int l5)] [] [v0, v1] := by
  unfold f_X2_mostLeftBy_41 at h
  refine a_iinc (pc := 41) X 5 [(5, .int (l5 + 1)), (0, .ref (ad0 0)), (1, .ref (ad1 0)), (2, .int l2), (3, .int l3), (4, .int l4)] dX2_mostLeftBy_41 rfl (congrArg (HAdd.hAdd l5) q_ic_1) (by decide) rfl ?_
  refine a_goto (pc := 44) X 6 dX2_mostLeftBy_44 rfl ?_
  refine a_sub [1, 2, 3, 4, 5, 0] rfl ?_
  exact hk6 _ _ _ _ h
set_option maxRecDepth 100000 in
set_option maxHeartbeats 4000000 in
theorem w_X2_mostLeftBy_6 {p : Program} {l : Launch} {e : Env} {s : State} {m : MethodId} {args : Array Value} {below : List Frame} {meth : Method} {c : Code} {D : va_G} {tc : Nat → ClassId} {aK aV : Nat → Nat} {A : Nat → Prop} {ad0 : Nat → Nat} {ad1 : Nat → Nat} {v0 : XM} {v1 : XM} (X : Cx p s m args meth c cX2_mostLeftBy 6 (some .int) RX2 D tc aK aV A [(shRoads, ad0), (shValley, ad1)])  {o : Int32}  : ∀ (n : Nat), ∀ (l2 : Int32) (l3 : Int32) (l4 : Int32) (l5 : Int32), x_lp (φ := Int32 → Int32 → Int32 → Int32 → Option (Int32)) (fun _ _ _ _ => none) (f_X2_mostLeftBy_6 v0 v1 ) n l2 l3 l4 l5 = some o → aW p l e (x_Rm 3) s m args below meth c D tc A 6 [(shRoads, ad0), (shValley, ad1)] (some (.int o)) True [v0, v1] 6 [(0, .ref (ad0 0)), (1, .ref (ad1 0)), (2, .int l2), (3, .int l3), (4, .int l4), (5, .int l5)] [] [v0, v1] := by
  intro n
  induction n with
  | zero => intro l2 l3 l4 l5 h; exact absurd h (fun q => by cases q)
  | succ n ih =>
    intro l2 l3 l4 l5 h
    have h : f_X2_mostLeftBy_6 v0 v1  (x_lp (φ := Int32 → Int32 → Int32 → Int32 → Option (Int32)) (fun _ _ _ _ => none) (f_X2_mostLeftBy_6 v0 v1 ) n) l2 l3 l4 l5 = some o := h
    generalize x_lp (φ := Int32 → Int32 → Int32 → Int32 → Option (Int32)) (fun _ _ _ _ => none) (f_X2_mostLeftBy_6 v0 v1 ) n = k6 at h ih
    have hk6 := ih
    unfold f_X2_mostLeftBy_6 at h
    refine a_iload (pc := 6) X 5 dX2_mostLeftBy_6 rfl ?_
    refine a_aload_n (pc := 8) X 1 dX2_mostLeftBy_8 rfl rfl ?_
    refine a_getI (pc := 9) X 1 fl_RX2_62 rfl rfl rfl rfl dX2_mostLeftBy_9 ?_
    refine a_icmp_ge (pc := 12) X 47 dX2_mostLeftBy_12 rfl (fun c_12 => ?_) (fun c_12 => ?_)
    · have h := x_ifp c_12 h
      refine a_iload (pc := 47) X 4 dX2_mostLeftBy_47 rfl ?_
      have h := Option.some.inj h; subst h
      exact a_iret (pc := 49) X trivial dX2_mostLeftBy_49
    · have h := x_ifn c_12 h
      refine a_iload_n (pc := 15) X 2 dX2_mostLeftBy_15 rfl rfl ?_
      refine a_iload (pc := 16) X 5 dX2_mostLeftBy_16 rfl ?_
      refine a_ishr (pc := 18) X dX2_mostLeftBy_18 ?_
      refine a_iconst (pc := 19) X dX2_mostLeftBy_19 q_ic_1 ?_
      refine a_iand (pc := 20) X dX2_mostLeftBy_20 ?_
      refine a_iconst (pc := 21) X dX2_mostLeftBy_21 q_ic_1 ?_
      refine a_icmp_ne (pc := 22) X 41 dX2_mostLeftBy_22 rfl (fun c_22 => ?_) (fun c_22 => ?_)
      · have h := x_ifn c_22 h
        exact w_X2_mostLeftBy_41 X   hk6  h
      · have h := x_ifp c_22 h
        refine a_iload (pc := 25) X 4 dX2_mostLeftBy_25 rfl ?_
        refine a_aload_n (pc := 27) X 0 dX2_mostLeftBy_27 rfl rfl ?_
        refine a_aload_n (pc := 28) X 1 dX2_mostLeftBy_28 rfl rfl ?_
        refine a_iload_n (pc := 29) X 2 dX2_mostLeftBy_29 rfl rfl ?_
        refine a_iload_n (pc := 30) X 3 dX2_mostLeftBy_30 rfl rfl ?_
        refine a_iload (pc := 31) X 5 dX2_mostLeftBy_31 rfl ?_
        obtain ⟨y1, e_y1, h⟩ := x_bo_elim h
        refine a_callV (pc := 33) (st2 := [.int y1, .int l4]) (vs2 := [v0, v1]) X [(0, 0, 15), (1, 0, 16)] [none, none] 0 0 2 [.ref (ad1 0), .int l2, .int l3, .int l5] [.int l4] cv_RX2_216 (c_X2_alikeFrom (ad0 := ad0) (ad1 := ad1)  e_y1) rfl rfl rfl rfl rfl rfl rfl rfl rfl rfl rfl rfl rfl rfl rfl (Nat.le_of_ble_eq_true rfl) ⟨Nat.le_of_ble_eq_true rfl, Nat.le_of_ble_eq_true rfl⟩ dX2_mostLeftBy_33 (fun _ => ?_)
        refine a_max (pc := 36) X kmax dX2_mostLeftBy_36 (by decide) (Nat.le_of_ble_eq_true rfl) ?_
        obtain ⟨y2, e_y2, h⟩ := x_lt_elim h
        refine a_ni e_y2 ?_
        refine a_istore (pc := 39) X [(4, .int y2), (0, .ref (ad0 0)), (1, .ref (ad1 0)), (2, .int l2), (3, .int l3), (5, .int l5)] dX2_mostLeftBy_39 (by decide) rfl ?_
        refine a_sub [1, 2, 3, 4, 0, 5] rfl ?_
        exact w_X2_mostLeftBy_41 X   hk6  h
set_option maxRecDepth 100000 in
set_option maxHeartbeats 4000000 in
theorem c_X2_mostLeftBy {l : Launch}  {ad0 : Nat → Nat} {ad1 : Nat → Nat} {v0 v1 : XM} {x1 : Int32} {x2 : Int32}  {o : Int32} (h : f_X2_mostLeftBy v0 v1 x1 x2 = some o) : CT l yX2_mostLeftBy cX2_mostLeftBy 6 (some .int) 3 [(shRoads, ad0), (shValley, ad1)] [v0, v1] (fun aK => [.ref (ad0 0), .ref (ad1 0), .int x1, .int x2]) (some (.int o)) True [v0, v1] := by
  refine CT_of (by decide) (fun _ => Nat.le_of_ble_eq_true rfl) ?_
  intro p e s m args below meth c D tc aK aV A X
  have X : Cx p s m args meth c cX2_mostLeftBy 6 (some .int) RX2 D tc aK aV A [(shRoads, ad0), (shValley, ad1)] := X
  show aW p l e (x_Rm 3) s m args below meth c D tc A 6 [(shRoads, ad0), (shValley, ad1)] (some (.int o)) True [v0, v1] 0 [(0, .ref (ad0 0)), (1, .ref (ad1 0)), (2, .int x1), (3, .int x2)] [] [v0, v1]
  unfold f_X2_mostLeftBy at h
  refine a_iconst (pc := 0) X dX2_mostLeftBy_0 q_ic_0 ?_
  refine a_istore (pc := 1) X [(4, .int (0 : Int32)), (0, .ref (ad0 0)), (1, .ref (ad1 0)), (2, .int x1), (3, .int x2)] dX2_mostLeftBy_1 (by decide) rfl ?_
  refine a_iconst (pc := 3) X dX2_mostLeftBy_3 q_ic_0 ?_
  refine a_istore (pc := 4) X [(5, .int (0 : Int32)), (4, .int (0 : Int32)), (0, .ref (ad0 0)), (1, .ref (ad1 0)), (2, .int x1), (3, .int x2)] dX2_mostLeftBy_4 (by decide) rfl ?_
  refine a_sub [2, 3, 4, 5, 1, 0] rfl ?_
  exact w_X2_mostLeftBy_6 X    x_NN _ _ _ _ h
theorem dX2_bestToAsk_0 : decode cX2_bestToAsk 0 = .ok (.iconst (-1), 1) := by decide +kernel
theorem dX2_bestToAsk_1 : decode cX2_bestToAsk 1 = .ok (.istore_n 3, 1) := by decide +kernel
theorem dX2_bestToAsk_2 : decode cX2_bestToAsk 2 = .ok (.bipush 9, 2) := by decide +kernel
theorem dX2_bestToAsk_4 : decode cX2_bestToAsk 4 = .ok (.istore 4, 2) := by decide +kernel
theorem dX2_bestToAsk_6 : decode cX2_bestToAsk 6 = .ok (.iconst 0, 1) := by decide +kernel
theorem dX2_bestToAsk_7 : decode cX2_bestToAsk 7 = .ok (.istore 5, 2) := by decide +kernel
theorem dX2_bestToAsk_9 : decode cX2_bestToAsk 9 = .ok (.iload 5, 2) := by decide +kernel
theorem dX2_bestToAsk_11 : decode cX2_bestToAsk 11 = .ok (.aload_n 1, 1) := by decide +kernel
theorem dX2_bestToAsk_12 : decode cX2_bestToAsk 12 = .ok (.getfield 62, 3) := by decide +kernel
theorem dX2_bestToAsk_15 : decode cX2_bestToAsk 15 = .ok (.if_icmp .ge 33, 3) := by decide +kernel
theorem dX2_bestToAsk_18 : decode cX2_bestToAsk 18 = .ok (.aload_n 0, 1) := by decide +kernel
theorem dX2_bestToAsk_19 : decode cX2_bestToAsk 19 = .ok (.aload_n 1, 1) := by decide +kernel
theorem dX2_bestToAsk_20 : decode cX2_bestToAsk 20 = .ok (.iload_n 2, 1) := by decide +kernel
theorem dX2_bestToAsk_21 : decode cX2_bestToAsk 21 = .ok (.iload 5, 2) := by decide +kernel
theorem dX2_bestToAsk_23 : decode cX2_bestToAsk 23 = .ok (.invokevirtual 213, 3) := by decide +kernel
theorem dX2_bestToAsk_26 : decode cX2_bestToAsk 26 = .ok (.istore 6, 2) := by decide +kernel
theorem dX2_bestToAsk_28 : decode cX2_bestToAsk 28 = .ok (.iload 6, 2) := by decide +kernel
theorem dX2_bestToAsk_30 : decode cX2_bestToAsk 30 = .ok (.iload 4, 2) := by decide +kernel
theorem dX2_bestToAsk_32 : decode cX2_bestToAsk 32 = .ok (.if_icmp .ge 10, 3) := by decide +kernel
theorem dX2_bestToAsk_35 : decode cX2_bestToAsk 35 = .ok (.iload 6, 2) := by decide +kernel
theorem dX2_bestToAsk_37 : decode cX2_bestToAsk 37 = .ok (.istore 4, 2) := by decide +kernel
theorem dX2_bestToAsk_39 : decode cX2_bestToAsk 39 = .ok (.iload 5, 2) := by decide +kernel
theorem dX2_bestToAsk_41 : decode cX2_bestToAsk 41 = .ok (.istore_n 3, 1) := by decide +kernel
theorem dX2_bestToAsk_42 : decode cX2_bestToAsk 42 = .ok (.iinc 5 1, 3) := by decide +kernel
theorem dX2_bestToAsk_45 : decode cX2_bestToAsk 45 = .ok (.goto (-36), 3) := by decide +kernel
theorem dX2_bestToAsk_48 : decode cX2_bestToAsk 48 = .ok (.iload_n 3, 1) := by decide +kernel
theorem dX2_bestToAsk_49 : decode cX2_bestToAsk 49 = .ok (.ireturn, 1) := by decide +kernel
def f_X2_bestToAsk_42 (v0 : XM) (v1 : XM) (k9 : Int32 → Int32 → Int32 → Int32 → Option (Int32)) (l2 : Int32) (l3 : Int32) (l4 : Int32) (l5 : Int32) : Option (Int32) :=
  k9 l2 l3 l4 (l5 + 1)
def f_X2_bestToAsk_9 (v0 : XM) (v1 : XM) (k9 : Int32 → Int32 → Int32 → Int32 → Option (Int32)) (l2 : Int32) (l3 : Int32) (l4 : Int32) (l5 : Int32) : Option (Int32) :=
  if ((v1.1 0 0) : Int32) ≤ l5 then
  (some (l3 : Int32))
  else (x_bo (f_X2_mostLeftBy v0 v1 l2 l5) (fun y1 =>
  if (l4 : Int32) ≤ y1 then
  (f_X2_bestToAsk_42 v0 v1 k9 l2 l3 l4 l5)
  else (f_X2_bestToAsk_42 v0 v1 k9 l2 l5 y1 l5)))
def f_X2_bestToAsk (v0 : XM) (v1 : XM) (x1 : Int32) : Option (Int32) :=
  x_lp (φ := Int32 → Int32 → Int32 → Int32 → Option (Int32)) (fun _ _ _ _ => none) (f_X2_bestToAsk_9 v0 v1 ) x_NN x1 (-1 : Int32) (9 : Int32) (0 : Int32)
set_option maxRecDepth 100000 in
set_option maxHeartbeats 4000000 in
theorem w_X2_bestToAsk_42 {p : Program} {l : Launch} {e : Env} {s : State} {m : MethodId} {args : Array Value} {below : List Frame} {meth : Method} {c : Code} {D : va_G} {tc : Nat → ClassId} {aK aV : Nat → Nat} {A : Nat → Prop} {ad0 : Nat → Nat} {ad1 : Nat → Nat} {v0 : XM} {v1 : XM} (X : Cx p s m args meth c cX2_bestToAsk 7 (some .int) RX2 D tc aK aV A [(shRoads, ad0), (shValley, ad1)])  {o : Int32} {k9 : Int32 → Int32 → Int32 → Int32 → Option (Int32)} (hk9 : ∀ (l2 : Int32) (l3 : Int32) (l4 : Int32) (l5 : Int32), k9 l2 l3 l4 l5 = some o → aW p l e (x_Rm 4) s m args below meth c D tc A 7 [(shRoads, ad0), (shValley, ad1)] (some (.int o)) True [v0, v1] 9 [(0, .ref (ad0 0)), (1, .ref (ad1 0)), (2, .int l2), (3, .int l3), (4, .int l4), (5, .int l5)] [] [v0, v1]) {l2 : Int32} {l3 : Int32} {l4 : Int32} {l5 : Int32}  (h : f_X2_bestToAsk_42 v0 v1 k9 l2 l3 l4 l5 = some o) : aW p l e (x_Rm 4) s m args below meth c D tc A 7 [(shRoads, ad0), (shValley, ad1)] (some (.int o)) True [v0, v1] 42 [(0, .ref (ad0 0)), (1, .ref (ad1 0)), (2, .int l2), (3, .int l3), (4, .int l4), (5, .int l5)] [] [v0, v1] := by
  unfold f_X2_bestToAsk_42 at h
  refine a_iinc (pc := 42) X 5 [(5, .int (l5 + 1)), (0, .ref (ad0 0)), (1, .ref (ad1 0)), (2, .int l2), (3, .int l3), (4, .int l4)] dX2_bestToAsk_42 rfl (congrArg (HAdd.hAdd l5) q_ic_1) (by decide) rfl ?_
  refine a_goto (pc := 45) X 9 dX2_bestToAsk_45 rfl ?_
  refine a_sub [1, 2, 3, 4, 5, 0] rfl ?_
  exact hk9 _ _ _ _ h
set_option maxRecDepth 100000 in
set_option maxHeartbeats 4000000 in
theorem w_X2_bestToAsk_9 {p : Program} {l : Launch} {e : Env} {s : State} {m : MethodId} {args : Array Value} {below : List Frame} {meth : Method} {c : Code} {D : va_G} {tc : Nat → ClassId} {aK aV : Nat → Nat} {A : Nat → Prop} {ad0 : Nat → Nat} {ad1 : Nat → Nat} {v0 : XM} {v1 : XM} (X : Cx p s m args meth c cX2_bestToAsk 7 (some .int) RX2 D tc aK aV A [(shRoads, ad0), (shValley, ad1)])  {o : Int32}  : ∀ (n : Nat), ∀ (l2 : Int32) (l3 : Int32) (l4 : Int32) (l5 : Int32), x_lp (φ := Int32 → Int32 → Int32 → Int32 → Option (Int32)) (fun _ _ _ _ => none) (f_X2_bestToAsk_9 v0 v1 ) n l2 l3 l4 l5 = some o → aW p l e (x_Rm 4) s m args below meth c D tc A 7 [(shRoads, ad0), (shValley, ad1)] (some (.int o)) True [v0, v1] 9 [(0, .ref (ad0 0)), (1, .ref (ad1 0)), (2, .int l2), (3, .int l3), (4, .int l4), (5, .int l5)] [] [v0, v1] := by
  intro n
  induction n with
  | zero => intro l2 l3 l4 l5 h; exact absurd h (fun q => by cases q)
  | succ n ih =>
    intro l2 l3 l4 l5 h
    have h : f_X2_bestToAsk_9 v0 v1  (x_lp (φ := Int32 → Int32 → Int32 → Int32 → Option (Int32)) (fun _ _ _ _ => none) (f_X2_bestToAsk_9 v0 v1 ) n) l2 l3 l4 l5 = some o := h
    generalize x_lp (φ := Int32 → Int32 → Int32 → Int32 → Option (Int32)) (fun _ _ _ _ => none) (f_X2_bestToAsk_9 v0 v1 ) n = k9 at h ih
    have hk9 := ih
    unfold f_X2_bestToAsk_9 at h
    refine a_iload (pc := 9) X 5 dX2_bestToAsk_9 rfl ?_
    refine a_aload_n (pc := 11) X 1 dX2_bestToAsk_11 rfl rfl ?_
    refine a_getI (pc := 12) X 1 fl_RX2_62 rfl rfl rfl rfl dX2_bestToAsk_12 ?_
    refine a_icmp_ge (pc := 15) X 48 dX2_bestToAsk_15 rfl (fun c_15 => ?_) (fun c_15 => ?_)
    · have h := x_ifp c_15 h
      refine a_iload_n (pc := 48) X 3 dX2_bestToAsk_48 rfl rfl ?_
      have h := Option.some.inj h; subst h
      exact a_iret (pc := 49) X trivial dX2_bestToAsk_49
    · have h := x_ifn c_15 h
      refine a_aload_n (pc := 18) X 0 dX2_bestToAsk_18 rfl rfl ?_
      refine a_aload_n (pc := 19) X 1 dX2_bestToAsk_19 rfl rfl ?_
      refine a_iload_n (pc := 20) X 2 dX2_bestToAsk_20 rfl rfl ?_
      refine a_iload (pc := 21) X 5 dX2_bestToAsk_21 rfl ?_
      obtain ⟨y1, e_y1, h⟩ := x_bo_elim h
      refine a_callV (pc := 23) (st2 := [.int y1]) (vs2 := [v0, v1]) X [(0, 0, 15), (1, 0, 16)] [none, none] 0 0 2 [.ref (ad1 0), .int l2, .int l5] [] cv_RX2_213 (c_X2_mostLeftBy (ad0 := ad0) (ad1 := ad1)  e_y1) rfl rfl rfl rfl rfl rfl rfl rfl rfl rfl rfl rfl rfl rfl rfl (Nat.le_of_ble_eq_true rfl) ⟨Nat.le_of_ble_eq_true rfl, Nat.le_of_ble_eq_true rfl⟩ dX2_bestToAsk_23 (fun _ => ?_)
      refine a_istore (pc := 26) X [(6, .int y1), (0, .ref (ad0 0)), (1, .ref (ad1 0)), (2, .int l2), (3, .int l3), (4, .int l4), (5, .int l5)] dX2_bestToAsk_26 (by decide) rfl ?_
      refine a_iload (pc := 28) X 0 dX2_bestToAsk_28 rfl ?_
      refine a_iload (pc := 30) X 5 dX2_bestToAsk_30 rfl ?_
      refine a_icmp_ge (pc := 32) X 42 dX2_bestToAsk_32 rfl (fun c_32 => ?_) (fun c_32 => ?_)
      · have h := x_ifp c_32 h
        refine a_sub [1, 2, 3, 4, 5, 6] rfl ?_
        exact w_X2_bestToAsk_42 X   hk9  h
      · have h := x_ifn c_32 h
        refine a_iload (pc := 35) X 0 dX2_bestToAsk_35 rfl ?_
        refine a_istore (pc := 37) X [(4, .int y1), (6, .int y1), (0, .ref (ad0 0)), (1, .ref (ad1 0)), (2, .int l2), (3, .int l3), (5, .int l5)] dX2_bestToAsk_37 (by decide) rfl ?_
        refine a_iload (pc := 39) X 6 dX2_bestToAsk_39 rfl ?_
        refine a_istore_n (pc := 41) X [(3, .int l5), (4, .int y1), (6, .int y1), (0, .ref (ad0 0)), (1, .ref (ad1 0)), (2, .int l2), (5, .int l5)] dX2_bestToAsk_41 rfl (by decide) rfl ?_
        refine a_sub [3, 4, 5, 0, 1, 6] rfl ?_
        exact w_X2_bestToAsk_42 X   hk9  h
set_option maxRecDepth 100000 in
set_option maxHeartbeats 4000000 in
theorem c_X2_bestToAsk {l : Launch}  {ad0 : Nat → Nat} {ad1 : Nat → Nat} {v0 v1 : XM} {x1 : Int32}  {o : Int32} (h : f_X2_bestToAsk v0 v1 x1 = some o) : CT l yX2_bestToAsk cX2_bestToAsk 7 (some .int) 4 [(shRoads, ad0), (shValley, ad1)] [v0, v1] (fun aK => [.ref (ad0 0), .ref (ad1 0), .int x1]) (some (.int o)) True [v0, v1] := by
  refine CT_of (by decide) (fun _ => Nat.le_of_ble_eq_true rfl) ?_
  intro p e s m args below meth c D tc aK aV A X
  have X : Cx p s m args meth c cX2_bestToAsk 7 (some .int) RX2 D tc aK aV A [(shRoads, ad0), (shValley, ad1)] := X
  show aW p l e (x_Rm 4) s m args below meth c D tc A 7 [(shRoads, ad0), (shValley, ad1)] (some (.int o)) True [v0, v1] 0 [(0, .ref (ad0 0)), (1, .ref (ad1 0)), (2, .int x1)] [] [v0, v1]
  unfold f_X2_bestToAsk at h
  refine a_iconst (pc := 0) X dX2_bestToAsk_0 q_ic_m1 ?_
  refine a_istore_n (pc := 1) X [(3, .int (-1 : Int32)), (0, .ref (ad0 0)), (1, .ref (ad1 0)), (2, .int x1)] dX2_bestToAsk_1 rfl (by decide) rfl ?_
  refine a_bipush (pc := 2) X dX2_bestToAsk_2 q_bp_9 ?_
  refine a_istore (pc := 4) X [(4, .int (9 : Int32)), (3, .int (-1 : Int32)), (0, .ref (ad0 0)), (1, .ref (ad1 0)), (2, .int x1)] dX2_bestToAsk_4 (by decide) rfl ?_
  refine a_iconst (pc := 6) X dX2_bestToAsk_6 q_ic_0 ?_
  refine a_istore (pc := 7) X [(5, .int (0 : Int32)), (4, .int (9 : Int32)), (3, .int (-1 : Int32)), (0, .ref (ad0 0)), (1, .ref (ad1 0)), (2, .int x1)] dX2_bestToAsk_7 (by decide) rfl ?_
  refine a_sub [3, 4, 5, 2, 1, 0] rfl ?_
  exact w_X2_bestToAsk_9 X    x_NN _ _ _ _ h
theorem dX2_findOrigins_0 : decode cX2_findOrigins 0 = .ok (.aload_n 2, 1) := by decide +kernel
theorem dX2_findOrigins_1 : decode cX2_findOrigins 1 = .ok (.getfield 194, 3) := by decide +kernel
theorem dX2_findOrigins_4 : decode cX2_findOrigins 4 = .ok (.iconst 2, 1) := by decide +kernel
theorem dX2_findOrigins_5 : decode cX2_findOrigins 5 = .ok (.idiv, 1) := by decide +kernel
theorem dX2_findOrigins_6 : decode cX2_findOrigins 6 = .ok (.istore_n 3, 1) := by decide +kernel
theorem dX2_findOrigins_7 : decode cX2_findOrigins 7 = .ok (.aload_n 2, 1) := by decide +kernel
theorem dX2_findOrigins_8 : decode cX2_findOrigins 8 = .ok (.getfield 194, 3) := by decide +kernel
theorem dX2_findOrigins_11 : decode cX2_findOrigins 11 = .ok (.iconst 2, 1) := by decide +kernel
theorem dX2_findOrigins_12 : decode cX2_findOrigins 12 = .ok (.irem, 1) := by decide +kernel
theorem dX2_findOrigins_13 : decode cX2_findOrigins 13 = .ok (.ifCond .ne 14, 3) := by decide +kernel
theorem dX2_findOrigins_16 : decode cX2_findOrigins 16 = .ok (.iload_n 3, 1) := by decide +kernel
theorem dX2_findOrigins_17 : decode cX2_findOrigins 17 = .ok (.iconst 1, 1) := by decide +kernel
theorem dX2_findOrigins_18 : decode cX2_findOrigins 18 = .ok (.if_icmp .lt 9, 3) := by decide +kernel
theorem dX2_findOrigins_21 : decode cX2_findOrigins 21 = .ok (.iload_n 3, 1) := by decide +kernel
theorem dX2_findOrigins_22 : decode cX2_findOrigins 22 = .ok (.bipush 6, 2) := by decide +kernel
theorem dX2_findOrigins_24 : decode cX2_findOrigins 24 = .ok (.if_icmp .le 5, 3) := by decide +kernel
theorem dX2_findOrigins_27 : decode cX2_findOrigins 27 = .ok (.iconst (-1), 1) := by decide +kernel
theorem dX2_findOrigins_28 : decode cX2_findOrigins 28 = .ok (.ireturn, 1) := by decide +kernel
theorem dX2_findOrigins_29 : decode cX2_findOrigins 29 = .ok (.iconst 0, 1) := by decide +kernel
theorem dX2_findOrigins_30 : decode cX2_findOrigins 30 = .ok (.istore 4, 2) := by decide +kernel
theorem dX2_findOrigins_32 : decode cX2_findOrigins 32 = .ok (.iload 4, 2) := by decide +kernel
theorem dX2_findOrigins_34 : decode cX2_findOrigins 34 = .ok (.iload_n 3, 1) := by decide +kernel
theorem dX2_findOrigins_35 : decode cX2_findOrigins 35 = .ok (.if_icmp .ge 29, 3) := by decide +kernel
theorem dX2_findOrigins_38 : decode cX2_findOrigins 38 = .ok (.aload_n 1, 1) := by decide +kernel
theorem dX2_findOrigins_39 : decode cX2_findOrigins 39 = .ok (.getfield 56, 3) := by decide +kernel
theorem dX2_findOrigins_42 : decode cX2_findOrigins 42 = .ok (.aload_n 2, 1) := by decide +kernel
theorem dX2_findOrigins_43 : decode cX2_findOrigins 43 = .ok (.iconst 2, 1) := by decide +kernel
theorem dX2_findOrigins_44 : decode cX2_findOrigins 44 = .ok (.iload 4, 2) := by decide +kernel
theorem dX2_findOrigins_46 : decode cX2_findOrigins 46 = .ok (.imul, 1) := by decide +kernel
theorem dX2_findOrigins_47 : decode cX2_findOrigins 47 = .ok (.invokevirtual 199, 3) := by decide +kernel
theorem dX2_findOrigins_50 : decode cX2_findOrigins 50 = .ok (.invokevirtual 202, 3) := by decide +kernel
theorem dX2_findOrigins_53 : decode cX2_findOrigins 53 = .ok (.ifCond .ne 5, 3) := by decide +kernel
theorem dX2_findOrigins_56 : decode cX2_findOrigins 56 = .ok (.iconst (-1), 1) := by decide +kernel
theorem dX2_findOrigins_57 : decode cX2_findOrigins 57 = .ok (.ireturn, 1) := by decide +kernel
theorem dX2_findOrigins_58 : decode cX2_findOrigins 58 = .ok (.iinc 4 1, 3) := by decide +kernel
theorem dX2_findOrigins_61 : decode cX2_findOrigins 61 = .ok (.goto (-29), 3) := by decide +kernel
theorem dX2_findOrigins_64 : decode cX2_findOrigins 64 = .ok (.aload_n 0, 1) := by decide +kernel
theorem dX2_findOrigins_65 : decode cX2_findOrigins 65 = .ok (.aload_n 1, 1) := by decide +kernel
theorem dX2_findOrigins_66 : decode cX2_findOrigins 66 = .ok (.iconst 1, 1) := by decide +kernel
theorem dX2_findOrigins_67 : decode cX2_findOrigins 67 = .ok (.invokevirtual 151, 3) := by decide +kernel
theorem dX2_findOrigins_70 : decode cX2_findOrigins 70 = .ok (.iconst 0, 1) := by decide +kernel
theorem dX2_findOrigins_71 : decode cX2_findOrigins 71 = .ok (.istore 4, 2) := by decide +kernel
theorem dX2_findOrigins_73 : decode cX2_findOrigins 73 = .ok (.iconst 0, 1) := by decide +kernel
theorem dX2_findOrigins_74 : decode cX2_findOrigins 74 = .ok (.istore 5, 2) := by decide +kernel
theorem dX2_findOrigins_76 : decode cX2_findOrigins 76 = .ok (.iload 5, 2) := by decide +kernel
theorem dX2_findOrigins_78 : decode cX2_findOrigins 78 = .ok (.aload_n 1, 1) := by decide +kernel
theorem dX2_findOrigins_79 : decode cX2_findOrigins 79 = .ok (.getfield 56, 3) := by decide +kernel
theorem dX2_findOrigins_82 : decode cX2_findOrigins 82 = .ok (.getfield 62, 3) := by decide +kernel
theorem dX2_findOrigins_85 : decode cX2_findOrigins 85 = .ok (.if_icmp .ge 29, 3) := by decide +kernel
theorem dX2_findOrigins_88 : decode cX2_findOrigins 88 = .ok (.aload_n 0, 1) := by decide +kernel
theorem dX2_findOrigins_89 : decode cX2_findOrigins 89 = .ok (.aload_n 2, 1) := by decide +kernel
theorem dX2_findOrigins_90 : decode cX2_findOrigins 90 = .ok (.iload_n 3, 1) := by decide +kernel
theorem dX2_findOrigins_91 : decode cX2_findOrigins 91 = .ok (.iload 5, 2) := by decide +kernel
theorem dX2_findOrigins_93 : decode cX2_findOrigins 93 = .ok (.invokevirtual 205, 3) := by decide +kernel
theorem dX2_findOrigins_96 : decode cX2_findOrigins 96 = .ok (.ifCond .eq 12, 3) := by decide +kernel
theorem dX2_findOrigins_99 : decode cX2_findOrigins 99 = .ok (.iload 4, 2) := by decide +kernel
theorem dX2_findOrigins_101 : decode cX2_findOrigins 101 = .ok (.iconst 1, 1) := by decide +kernel
theorem dX2_findOrigins_102 : decode cX2_findOrigins 102 = .ok (.iload 5, 2) := by decide +kernel
theorem dX2_findOrigins_104 : decode cX2_findOrigins 104 = .ok (.ishl, 1) := by decide +kernel
theorem dX2_findOrigins_105 : decode cX2_findOrigins 105 = .ok (.ior, 1) := by decide +kernel
theorem dX2_findOrigins_106 : decode cX2_findOrigins 106 = .ok (.istore 4, 2) := by decide +kernel
theorem dX2_findOrigins_108 : decode cX2_findOrigins 108 = .ok (.iinc 5 1, 3) := by decide +kernel
theorem dX2_findOrigins_111 : decode cX2_findOrigins 111 = .ok (.goto (-35), 3) := by decide +kernel
theorem dX2_findOrigins_114 : decode cX2_findOrigins 114 = .ok (.iload 4, 2) := by decide +kernel
theorem dX2_findOrigins_116 : decode cX2_findOrigins 116 = .ok (.ifCond .eq 17, 3) := by decide +kernel
theorem dX2_findOrigins_119 : decode cX2_findOrigins 119 = .ok (.aload_n 0, 1) := by decide +kernel
theorem dX2_findOrigins_120 : decode cX2_findOrigins 120 = .ok (.aload_n 0, 1) := by decide +kernel
theorem dX2_findOrigins_121 : decode cX2_findOrigins 121 = .ok (.aload_n 1, 1) := by decide +kernel
theorem dX2_findOrigins_122 : decode cX2_findOrigins 122 = .ok (.getfield 56, 3) := by decide +kernel
theorem dX2_findOrigins_125 : decode cX2_findOrigins 125 = .ok (.iload 4, 2) := by decide +kernel
theorem dX2_findOrigins_127 : decode cX2_findOrigins 127 = .ok (.invokevirtual 209, 3) := by decide +kernel
theorem dX2_findOrigins_130 : decode cX2_findOrigins 130 = .ok (.putfield 45, 3) := by decide +kernel
theorem dX2_findOrigins_133 : decode cX2_findOrigins 133 = .ok (.iload 4, 2) := by decide +kernel
theorem dX2_findOrigins_135 : decode cX2_findOrigins 135 = .ok (.ireturn, 1) := by decide +kernel
def f_X2_findOrigins_108 (v1 : XM) (v2 : XM) (k76 : XM → Int32 → Int32 → Int32 → Option (Int32 × XM)) (w0 : XM) (l3 : Int32) (l4 : Int32) (l5 : Int32) : Option (Int32 × XM) :=
  k76 w0 l3 l4 (l5 + 1)
def f_X2_findOrigins_76 (v1 : XM) (v2 : XM) (k76 : XM → Int32 → Int32 → Int32 → Option (Int32 × XM)) (w0 : XM) (l3 : Int32) (l4 : Int32) (l5 : Int32) : Option (Int32 × XM) :=
  if ((v1.1 1 0) : Int32) ≤ l5 then
  (if l4 = (0 : Int32) then
  (some (l4, w0))
  else (x_bo (f_X2_bestToAsk w0 (x_sub v1 1) l4) (fun y1 =>
  x_lt (x_si w0 0 11 y1) (fun m2 =>
  some (l4, m2)))))
  else (x_bo (f_X2_isOrigin w0 v2 l3 l5) (fun y3 =>
  if y3 = (0 : Int32) then
  (f_X2_findOrigins_108 v1 v2 k76 w0 l3 l4 l5)
  else (x_lt (l4 ||| ((1 : Int32) <<< (l5 &&& 31))) (fun y4 =>
  f_X2_findOrigins_108 v1 v2 k76 w0 l3 y4 l5))))
def f_X2_findOrigins_32 (v1 : XM) (v2 : XM) (k32 : XM → Int32 → Int32 → Option (Int32 × XM)) (w0 : XM) (l3 : Int32) (l4 : Int32) : Option (Int32 × XM) :=
  if (l3 : Int32) ≤ l4 then
  (x_bo (f_X2_spreadAll w0 v1 (1 : Int32)) (fun y5 =>
  x_lp (φ := XM → Int32 → Int32 → Int32 → Option (Int32 × XM)) (fun _ _ _ _ => none) (f_X2_findOrigins_76 v1 v2 ) x_NN y5 l3 (0 : Int32) (0 : Int32)))
  else (x_lt (f_X8_at v2 ((2 : Int32) * l4)) (fun y6 =>
  x_lt (f_X9_hasSpot (x_sub v1 1) y6) (fun y7 =>
  if y7 = (0 : Int32) then
  (some ((-1 : Int32), w0))
  else (k32 w0 l3 (l4 + 1)))))
def f_X2_findOrigins (v0 : XM) (v1 : XM) (v2 : XM) : Option (Int32 × XM) :=
  x_lt ((v2.1 0 2) - (v2.1 0 2) / (2 : Int32) * (2 : Int32)) (fun y8 =>
  if y8 = (0 : Int32) then
  (if (((v2.1 0 2) / (2 : Int32)) : Int32) < (1 : Int32) then
  (some ((-1 : Int32), v0))
  else (if (((v2.1 0 2) / (2 : Int32)) : Int32) ≤ (6 : Int32) then
  (x_lp (φ := XM → Int32 → Int32 → Option (Int32 × XM)) (fun _ _ _ => none) (f_X2_findOrigins_32 v1 v2 ) x_NN v0 ((v2.1 0 2) / (2 : Int32)) (0 : Int32))
  else (some ((-1 : Int32), v0))))
  else (some ((-1 : Int32), v0)))
set_option maxRecDepth 100000 in
set_option maxHeartbeats 4000000 in
theorem w_X2_findOrigins_108 {p : Program} {l : Launch} {e : Env} {s : State} {m : MethodId} {args : Array Value} {below : List Frame} {meth : Method} {c : Code} {D : va_G} {tc : Nat → ClassId} {aK aV : Nat → Nat} {A : Nat → Prop} {ad0 : Nat → Nat} {ad1 : Nat → Nat} {ad2 : Nat → Nat} {v1 : XM} {v2 : XM} (X : Cx p s m args meth c cX2_findOrigins 6 (some .int) RX2 D tc aK aV A [(shRoads, ad0), (shWorld, ad1), (shTape, ad2)])  {o : Int32 × XM} {k76 : XM → Int32 → Int32 → Int32 → Option (Int32 × XM)} (hk76 : ∀ (w0 : XM) (l3 : Int32) (l4 : Int32) (l5 : Int32), k76 w0 l3 l4 l5 = some o → aW p l e (x_Rm 6) s m args below meth c D tc A 6 [(shRoads, ad0), (shWorld, ad1), (shTape, ad2)] (some (.int o.1)) True [o.2, v1, v2] 76 [(0, .ref (ad0 0)), (1, .ref (ad1 0)), (2, .ref (ad2 0)), (3, .int l3), (4, .int l4), (5, .int l5)] [] [w0, v1, v2]) {w0 : XM} {l3 : Int32} {l4 : Int32} {l5 : Int32}  (h : f_X2_findOrigins_108 v1 v2 k76 w0 l3 l4 l5 = some o) : aW p l e (x_Rm 6) s m args below meth c D tc A 6 [(shRoads, ad0), (shWorld, ad1), (shTape, ad2)] (some (.int o.1)) True [o.2, v1, v2] 108 [(0, .ref (ad0 0)), (1, .ref (ad1 0)), (2, .ref (ad2 0)), (3, .int l3), (4, .int l4), (5, .int l5)] [] [w0, v1, v2] := by
  unfold f_X2_findOrigins_108 at h
  refine a_iinc (pc := 108) X 5 [(5, .int (l5 + 1)), (0, .ref (ad0 0)), (1, .ref (ad1 0)), (2, .ref (ad2 0)), (3, .int l3), (4, .int l4)] dX2_findOrigins_108 rfl (congrArg (HAdd.hAdd l5) q_ic_1) (by decide) rfl ?_
  refine a_goto (pc := 111) X 76 dX2_findOrigins_111 rfl ?_
  refine a_sub [1, 2, 3, 4, 5, 0] rfl ?_
  exact hk76 _ _ _ _ h
set_option maxRecDepth 100000 in
set_option maxHeartbeats 4000000 in
theorem w_X2_findOrigins_76 {p : Program} {l : Launch} {e : Env} {s : State} {m : MethodId} {args : Array Value} {below : List Frame} {meth : Method} {c : Code} {D : va_G} {tc : Nat → ClassId} {aK aV : Nat → Nat} {A : Nat → Prop} {ad0 : Nat → Nat} {ad1 : Nat → Nat} {ad2 : Nat → Nat} {v1 : XM} {v2 : XM} (X : Cx p s m args meth c cX2_findOrigins 6 (some .int) RX2 D tc aK aV A [(shRoads, ad0), (shWorld, ad1), (shTape, ad2)])  {o : Int32 × XM}  : ∀ (n : Nat), ∀ (w0 : XM) (l3 : Int32) (l4 : Int32) (l5 : Int32), x_lp (φ := XM → Int32 → Int32 → Int32 → Option (Int32 × XM)) (fun _ _ _ _ => none) (f_X2_findOrigins_76 v1 v2 ) n w0 l3 l4 l5 = some o → aW p l e (x_Rm 6) s m args below meth c D tc A 6 [(shRoads, ad0), (shWorld, ad1), (shTape, ad2)] (some (.int o.1)) True [o.2, v1, v2] 76 [(0, .ref (ad0 0)), (1, .ref (ad1 0)), (2, .ref (ad2 0)), (3, .int l3), (4, .int l4), (5, .int l5)] [] [w0, v1, v2] := by
  intro n
  induction n with
  | zero => intro w0 l3 l4 l5 h; exact absurd h (fun q => by cases q)
  | succ n ih =>
    intro w0 l3 l4 l5 h
    have h : f_X2_findOrigins_76 v1 v2  (x_lp (φ := XM → Int32 → Int32 → Int32 → Option (Int32 × XM)) (fun _ _ _ _ => none) (f_X2_findOrigins_76 v1 v2 ) n) w0 l3 l4 l5 = some o := h
    generalize x_lp (φ := XM → Int32 → Int32 → Int32 → Option (Int32 × XM)) (fun _ _ _ _ => none) (f_X2_findOrigins_76 v1 v2 ) n = k76 at h ih
    have hk76 := ih
    unfold f_X2_findOrigins_76 at h
    refine a_iload (pc := 76) X 5 dX2_findOrigins_76 rfl ?_
    refine a_aload_n (pc := 78) X 1 dX2_findOrigins_78 rfl rfl ?_
    refine a_getR (pc := 79) X 1 1 1 fl_RX2_56 rfl rfl rfl rfl rfl dX2_findOrigins_79 ?_
    refine a_getI (pc := 82) X 1 fl_RX2_62 rfl rfl rfl rfl dX2_findOrigins_82 ?_
    refine a_icmp_ge (pc := 85) X 114 dX2_findOrigins_85 rfl (fun c_85 => ?_) (fun c_85 => ?_)
    · have h := x_ifp c_85 h
      refine a_iload (pc := 114) X 4 dX2_findOrigins_114 rfl ?_
      refine a_if_eq (pc := 116) X 133 dX2_findOrigins_116 rfl (fun c_116 => ?_) (fun c_116 => ?_)
      · have h := x_ifp c_116 h
        refine a_iload (pc := 133) X 4 dX2_findOrigins_133 rfl ?_
        have h := Option.some.inj h; subst h
        exact a_iret (pc := 135) X trivial dX2_findOrigins_135
      · have h := x_ifn c_116 h
        refine a_aload_n (pc := 119) X 0 dX2_findOrigins_119 rfl rfl ?_
        refine a_aload_n (pc := 120) X 0 dX2_findOrigins_120 rfl rfl ?_
        refine a_aload_n (pc := 121) X 1 dX2_findOrigins_121 rfl rfl ?_
        refine a_getR (pc := 122) X 1 1 1 fl_RX2_56 rfl rfl rfl rfl rfl dX2_findOrigins_122 ?_
        refine a_iload (pc := 125) X 4 dX2_findOrigins_125 rfl ?_
        obtain ⟨y1, e_y1, h⟩ := x_bo_elim h
        refine a_callV (pc := 127) (st2 := [.int y1, .ref (ad0 0)]) (vs2 := [w0, v1, v2]) X [(0, 0, 15), (1, 1, 16)] [none, none] 0 0 2 [.ref (ad1 1), .int l4] [.ref (ad0 0)] cv_RX2_209 (c_X2_bestToAsk (ad0 := ad0) (ad1 := (fun i => ad1 (i + 1)))  e_y1) rfl rfl rfl rfl rfl rfl rfl rfl rfl rfl rfl rfl rfl rfl rfl (Nat.le_of_ble_eq_true rfl) ⟨Nat.le_of_ble_eq_true rfl, Nat.le_of_ble_eq_true rfl⟩ dX2_findOrigins_127 (fun _ => ?_)
        refine a_putI (pc := 130) X 0 fl_RX2_45 rfl rfl rfl rfl dX2_findOrigins_130 ?_
        obtain ⟨m2, e_m2, h⟩ := x_lt_elim h
        refine a_nm (vs2 := [m2, v1, v2]) (congrArg (fun q : XM => [q, v1, v2]) e_m2) ?_
        refine a_iload (pc := 133) X 4 dX2_findOrigins_133 rfl ?_
        have h := Option.some.inj h; subst h
        exact a_iret (pc := 135) X trivial dX2_findOrigins_135
    · have h := x_ifn c_85 h
      refine a_aload_n (pc := 88) X 0 dX2_findOrigins_88 rfl rfl ?_
      refine a_aload_n (pc := 89) X 2 dX2_findOrigins_89 rfl rfl ?_
      refine a_iload_n (pc := 90) X 3 dX2_findOrigins_90 rfl rfl ?_
      refine a_iload (pc := 91) X 5 dX2_findOrigins_91 rfl ?_
      obtain ⟨y3, e_y3, h⟩ := x_bo_elim h
      refine a_callV (pc := 93) (st2 := [.int y3]) (vs2 := [w0, v1, v2]) X [(0, 0, 15), (2, 0, 4)] [none, none] 0 0 2 [.ref (ad2 0), .int l3, .int l5] [] cv_RX2_205 (c_X2_isOrigin (ad0 := ad0) (ad1 := ad2)  e_y3) rfl rfl rfl rfl rfl rfl rfl rfl rfl rfl rfl rfl rfl rfl rfl (Nat.le_of_ble_eq_true rfl) ⟨Nat.le_of_ble_eq_true rfl, Nat.le_of_ble_eq_true rfl⟩ dX2_findOrigins_93 (fun z_93 => ?_)
      refine a_if_eq (pc := 96) X 108 dX2_findOrigins_96 rfl (fun c_96 => ?_) (fun c_96 => ?_)
      · have h := x_ifp c_96 h
        exact w_X2_findOrigins_108 X   hk76  h
      · have h := x_ifn c_96 h
        refine a_iload (pc := 99) X 4 dX2_findOrigins_99 rfl ?_
        refine a_iconst (pc := 101) X dX2_findOrigins_101 q_ic_1 ?_
        refine a_iload (pc := 102) X 5 dX2_findOrigins_102 rfl ?_
        refine a_ishl (pc := 104) X dX2_findOrigins_104 ?_
        refine a_ior (pc := 105) X dX2_findOrigins_105 ?_
        obtain ⟨y4, e_y4, h⟩ := x_lt_elim h
        refine a_ni e_y4 ?_
        refine a_istore (pc := 106) X [(4, .int y4), (0, .ref (ad0 0)), (1, .ref (ad1 0)), (2, .ref (ad2 0)), (3, .int l3), (5, .int l5)] dX2_findOrigins_106 (by decide) rfl ?_
        refine a_sub [1, 2, 3, 4, 0, 5] rfl ?_
        exact w_X2_findOrigins_108 X   hk76  h
set_option maxRecDepth 100000 in
set_option maxHeartbeats 4000000 in
theorem w_X2_findOrigins_32 {p : Program} {l : Launch} {e : Env} {s : State} {m : MethodId} {args : Array Value} {below : List Frame} {meth : Method} {c : Code} {D : va_G} {tc : Nat → ClassId} {aK aV : Nat → Nat} {A : Nat → Prop} {ad0 : Nat → Nat} {ad1 : Nat → Nat} {ad2 : Nat → Nat} {v1 : XM} {v2 : XM} (X : Cx p s m args meth c cX2_findOrigins 6 (some .int) RX2 D tc aK aV A [(shRoads, ad0), (shWorld, ad1), (shTape, ad2)])  {o : Int32 × XM}  : ∀ (n : Nat), ∀ (w0 : XM) (l3 : Int32) (l4 : Int32), x_lp (φ := XM → Int32 → Int32 → Option (Int32 × XM)) (fun _ _ _ => none) (f_X2_findOrigins_32 v1 v2 ) n w0 l3 l4 = some o → aW p l e (x_Rm 6) s m args below meth c D tc A 6 [(shRoads, ad0), (shWorld, ad1), (shTape, ad2)] (some (.int o.1)) True [o.2, v1, v2] 32 [(0, .ref (ad0 0)), (1, .ref (ad1 0)), (2, .ref (ad2 0)), (3, .int l3), (4, .int l4)] [] [w0, v1, v2] := by
  intro n
  induction n with
  | zero => intro w0 l3 l4 h; exact absurd h (fun q => by cases q)
  | succ n ih =>
    intro w0 l3 l4 h
    have h : f_X2_findOrigins_32 v1 v2  (x_lp (φ := XM → Int32 → Int32 → Option (Int32 × XM)) (fun _ _ _ => none) (f_X2_findOrigins_32 v1 v2 ) n) w0 l3 l4 = some o := h
    generalize x_lp (φ := XM → Int32 → Int32 → Option (Int32 × XM)) (fun _ _ _ => none) (f_X2_findOrigins_32 v1 v2 ) n = k32 at h ih
    have hk32 := ih
    unfold f_X2_findOrigins_32 at h
    refine a_iload (pc := 32) X 4 dX2_findOrigins_32 rfl ?_
    refine a_iload_n (pc := 34) X 3 dX2_findOrigins_34 rfl rfl ?_
    refine a_icmp_ge (pc := 35) X 64 dX2_findOrigins_35 rfl (fun c_35 => ?_) (fun c_35 => ?_)
    · have h := x_ifp c_35 h
      refine a_aload_n (pc := 64) X 0 dX2_findOrigins_64 rfl rfl ?_
      refine a_aload_n (pc := 65) X 1 dX2_findOrigins_65 rfl rfl ?_
      refine a_iconst (pc := 66) X dX2_findOrigins_66 q_ic_1 ?_
      obtain ⟨y5, e_y5, h⟩ := x_bo_elim h
      refine a_callV (pc := 67) (st2 := []) (vs2 := [y5, v1, v2]) X [(0, 0, 15), (1, 0, 32)] [some y5, none] 0 0 2 [.ref (ad1 0), .int (1 : Int32)] [] cv_RX2_151 (c_X2_spreadAll (ad0 := ad0) (ad1 := ad1)  e_y5) rfl rfl rfl rfl rfl rfl rfl rfl rfl rfl rfl rfl rfl rfl rfl (Nat.le_of_ble_eq_true rfl) ⟨Nat.le_of_ble_eq_true rfl, Nat.le_of_ble_eq_true rfl⟩ dX2_findOrigins_67 (fun _ => ?_)
      refine a_iconst (pc := 70) X dX2_findOrigins_70 q_ic_0 ?_
      refine a_istore (pc := 71) X [(4, .int (0 : Int32)), (0, .ref (ad0 0)), (1, .ref (ad1 0)), (2, .ref (ad2 0)), (3, .int l3)] dX2_findOrigins_71 (by decide) rfl ?_
      refine a_iconst (pc := 73) X dX2_findOrigins_73 q_ic_0 ?_
      refine a_istore (pc := 74) X [(5, .int (0 : Int32)), (4, .int (0 : Int32)), (0, .ref (ad0 0)), (1, .ref (ad1 0)), (2, .ref (ad2 0)), (3, .int l3)] dX2_findOrigins_74 (by decide) rfl ?_
      refine a_sub [2, 3, 4, 5, 1, 0] rfl ?_
      exact w_X2_findOrigins_76 X    x_NN _ _ _ _ h
    · have h := x_ifn c_35 h
      refine a_aload_n (pc := 38) X 1 dX2_findOrigins_38 rfl rfl ?_
      refine a_getR (pc := 39) X 1 1 1 fl_RX2_56 rfl rfl rfl rfl rfl dX2_findOrigins_39 ?_
      refine a_aload_n (pc := 42) X 2 dX2_findOrigins_42 rfl rfl ?_
      refine a_iconst (pc := 43) X dX2_findOrigins_43 q_ic_2 ?_
      refine a_iload (pc := 44) X 4 dX2_findOrigins_44 rfl ?_
      refine a_imul (pc := 46) X dX2_findOrigins_46 ?_
      obtain ⟨y6, e_y6, h⟩ := x_lt_elim h
      refine a_callV (pc := 47) (st2 := [.int y6, .ref (ad1 1)]) (vs2 := [w0, v1, v2]) X [(2, 0, 4)] [none] 2 0 8 [.int ((2 : Int32) * l4)] [.ref (ad1 1)] cv_RX2_199 (c_X8_at (ad0 := ad2)  e_y6) rfl rfl rfl rfl rfl rfl rfl rfl rfl rfl rfl rfl rfl rfl rfl (Nat.le_of_ble_eq_true rfl) ⟨Nat.le_of_ble_eq_true rfl, Nat.le_of_ble_eq_true rfl⟩ dX2_findOrigins_47 (fun _ => ?_)
      obtain ⟨y7, e_y7, h⟩ := x_lt_elim h
      refine a_callV (pc := 50) (st2 := [.int y7]) (vs2 := [w0, v1, v2]) X [(1, 1, 16)] [none] 1 1 9 [.int y6] [] cv_RX2_202 (c_X9_hasSpot (ad0 := (fun i => ad1 (i + 1)))  e_y7) rfl rfl rfl rfl rfl rfl rfl rfl rfl rfl rfl rfl rfl rfl rfl (Nat.le_of_ble_eq_true rfl) ⟨Nat.le_of_ble_eq_true rfl, Nat.le_of_ble_eq_true rfl⟩ dX2_findOrigins_50 (fun z_50 => ?_)
      refine a_if_ne (pc := 53) X 58 dX2_findOrigins_53 rfl (fun c_53 => ?_) (fun c_53 => ?_)
      · have h := x_ifn c_53 h
        refine a_iinc (pc := 58) X 4 [(4, .int (l4 + 1)), (0, .ref (ad0 0)), (1, .ref (ad1 0)), (2, .ref (ad2 0)), (3, .int l3)] dX2_findOrigins_58 rfl (congrArg (HAdd.hAdd l4) q_ic_1) (by decide) rfl ?_
        refine a_goto (pc := 61) X 32 dX2_findOrigins_61 rfl ?_
        refine a_sub [1, 2, 3, 4, 0] rfl ?_
        exact hk32 _ _ _ h
      · have h := x_ifp c_53 h
        refine a_iconst (pc := 56) X dX2_findOrigins_56 q_ic_m1 ?_
        have h := Option.some.inj h; subst h
        exact a_iret (pc := 57) X trivial dX2_findOrigins_57
set_option maxRecDepth 100000 in
set_option maxHeartbeats 4000000 in
theorem c_X2_findOrigins {l : Launch}  {ad0 : Nat → Nat} {ad1 : Nat → Nat} {ad2 : Nat → Nat} {v0 v1 v2 : XM}   {o : Int32 × XM} (h : f_X2_findOrigins v0 v1 v2 = some o) : CT l yX2_findOrigins cX2_findOrigins 6 (some .int) 6 [(shRoads, ad0), (shWorld, ad1), (shTape, ad2)] [v0, v1, v2] (fun aK => [.ref (ad0 0), .ref (ad1 0), .ref (ad2 0)]) (some (.int o.1)) True [o.2, v1, v2] := by
  refine CT_of (by decide) (fun _ => Nat.le_of_ble_eq_true rfl) ?_
  intro p e s m args below meth c D tc aK aV A X
  have X : Cx p s m args meth c cX2_findOrigins 6 (some .int) RX2 D tc aK aV A [(shRoads, ad0), (shWorld, ad1), (shTape, ad2)] := X
  show aW p l e (x_Rm 6) s m args below meth c D tc A 6 [(shRoads, ad0), (shWorld, ad1), (shTape, ad2)] (some (.int o.1)) True [o.2, v1, v2] 0 [(0, .ref (ad0 0)), (1, .ref (ad1 0)), (2, .ref (ad2 0))] [] [v0, v1, v2]
  unfold f_X2_findOrigins at h
  refine a_aload_n (pc := 0) X 2 dX2_findOrigins_0 rfl rfl ?_
  refine a_getI (pc := 1) X 2 fl_RX2_194 rfl rfl rfl rfl dX2_findOrigins_1 ?_
  refine a_iconst (pc := 4) X dX2_findOrigins_4 q_ic_2 ?_
  refine a_idiv (pc := 5) X (by decide) dX2_findOrigins_5 ?_
  refine a_istore_n (pc := 6) X [(3, .int ((v2.1 0 2) / (2 : Int32))), (0, .ref (ad0 0)), (1, .ref (ad1 0)), (2, .ref (ad2 0))] dX2_findOrigins_6 rfl (by decide) rfl ?_
  refine a_aload_n (pc := 7) X 3 dX2_findOrigins_7 rfl rfl ?_
  refine a_getI (pc := 8) X 2 fl_RX2_194 rfl rfl rfl rfl dX2_findOrigins_8 ?_
  refine a_iconst (pc := 11) X dX2_findOrigins_11 q_ic_2 ?_
  refine a_irem (pc := 12) X (by decide) dX2_findOrigins_12 ?_
  obtain ⟨y8, e_y8, h⟩ := x_lt_elim h
  refine a_ni e_y8 ?_
  refine a_if_ne (pc := 13) X 27 dX2_findOrigins_13 rfl (fun c_13 => ?_) (fun c_13 => ?_)
  · have h := x_ifn c_13 h
    refine a_iconst (pc := 27) X dX2_findOrigins_27 q_ic_m1 ?_
    have h := Option.some.inj h; subst h
    exact a_iret (pc := 28) X trivial dX2_findOrigins_28
  · have h := x_ifp c_13 h
    refine a_iload_n (pc := 16) X 0 dX2_findOrigins_16 rfl rfl ?_
    refine a_iconst (pc := 17) X dX2_findOrigins_17 q_ic_1 ?_
    refine a_icmp_lt (pc := 18) X 27 dX2_findOrigins_18 rfl (fun c_18 => ?_) (fun c_18 => ?_)
    · have h := x_ifp c_18 h
      refine a_iconst (pc := 27) X dX2_findOrigins_27 q_ic_m1 ?_
      have h := Option.some.inj h; subst h
      exact a_iret (pc := 28) X trivial dX2_findOrigins_28
    · have h := x_ifn c_18 h
      refine a_iload_n (pc := 21) X 0 dX2_findOrigins_21 rfl rfl ?_
      refine a_bipush (pc := 22) X dX2_findOrigins_22 q_bp_6 ?_
      refine a_icmp_le (pc := 24) X 29 dX2_findOrigins_24 rfl (fun c_24 => ?_) (fun c_24 => ?_)
      · have h := x_ifp c_24 h
        refine a_iconst (pc := 29) X dX2_findOrigins_29 q_ic_0 ?_
        refine a_istore (pc := 30) X [(4, .int (0 : Int32)), (3, .int ((v2.1 0 2) / (2 : Int32))), (0, .ref (ad0 0)), (1, .ref (ad1 0)), (2, .ref (ad2 0))] dX2_findOrigins_30 (by decide) rfl ?_
        refine a_sub [2, 3, 4, 1, 0] rfl ?_
        exact w_X2_findOrigins_32 X    x_NN _ _ _ h
      · have h := x_ifn c_24 h
        refine a_iconst (pc := 27) X dX2_findOrigins_27 q_ic_m1 ?_
        have h := Option.some.inj h; subst h
        exact a_iret (pc := 28) X trivial dX2_findOrigins_28
theorem dX4_forget_0 : decode cX4_forget 0 = .ok (.aload_n 0, 1) := by decide +kernel
theorem dX4_forget_1 : decode cX4_forget 1 = .ok (.iconst 0, 1) := by decide +kernel
theorem dX4_forget_2 : decode cX4_forget 2 = .ok (.putfield 29, 3) := by decide +kernel
theorem dX4_forget_5 : decode cX4_forget 5 = .ok (.aload_n 0, 1) := by decide +kernel
theorem dX4_forget_6 : decode cX4_forget 6 = .ok (.iconst 0, 1) := by decide +kernel
theorem dX4_forget_7 : decode cX4_forget 7 = .ok (.putfield 33, 3) := by decide +kernel
theorem dX4_forget_10 : decode cX4_forget 10 = .ok (.return_, 1) := by decide +kernel
def f_X4_forget (v0 : XM) : XM :=
  x_lt (x_si v0 0 0 (0 : Int32)) (fun m1 =>
  x_lt (x_si m1 0 1 (0 : Int32)) (fun m2 =>
  m2))
set_option maxRecDepth 100000 in
set_option maxHeartbeats 4000000 in
theorem c_X4_forget {l : Launch}  {ad0 : Nat → Nat} {v0 : XM}   {o : XM} (h : f_X4_forget v0 = o) : CT l yX4_forget cX4_forget 1 none 0 [(shSentence, ad0)] [v0] (fun aK => [.ref (ad0 0)]) none True [o] := by
  refine CT_of (by decide) (fun _ => Nat.le_of_ble_eq_true rfl) ?_
  intro p e s m args below meth c D tc aK aV A X
  have X : Cx p s m args meth c cX4_forget 1 none RX4 D tc aK aV A [(shSentence, ad0)] := X
  show aW p l e (x_Rm 0) s m args below meth c D tc A 1 [(shSentence, ad0)] none True [o] 0 [(0, .ref (ad0 0))] [] [v0]
  unfold f_X4_forget at h
  refine a_aload_n (pc := 0) X 0 dX4_forget_0 rfl rfl ?_
  refine a_iconst (pc := 1) X dX4_forget_1 q_ic_0 ?_
  refine a_putI (pc := 2) X 0 fl_RX4_29 rfl rfl rfl rfl dX4_forget_2 ?_
  obtain ⟨m1, e_m1, h⟩ := x_lt_elim h
  refine a_nm (vs2 := [m1]) (congrArg (fun q : XM => [q]) e_m1) ?_
  refine a_aload_n (pc := 5) X 0 dX4_forget_5 rfl rfl ?_
  refine a_iconst (pc := 6) X dX4_forget_6 q_ic_0 ?_
  refine a_putI (pc := 7) X 0 fl_RX4_33 rfl rfl rfl rfl dX4_forget_7 ?_
  obtain ⟨m2, e_m2, h⟩ := x_lt_elim h
  refine a_nm (vs2 := [m2]) (congrArg (fun q : XM => [q]) e_m2) ?_
  subst h
  exact a_vret (pc := 10) X trivial dX4_forget_10
theorem dX4_become_0 : decode cX4_become 0 = .ok (.aload_n 0, 1) := by decide +kernel
theorem dX4_become_1 : decode cX4_become 1 = .ok (.aload_n 1, 1) := by decide +kernel
theorem dX4_become_2 : decode cX4_become 2 = .ok (.getfield 29, 3) := by decide +kernel
theorem dX4_become_5 : decode cX4_become 5 = .ok (.putfield 29, 3) := by decide +kernel
theorem dX4_become_8 : decode cX4_become 8 = .ok (.aload_n 0, 1) := by decide +kernel
theorem dX4_become_9 : decode cX4_become 9 = .ok (.aload_n 1, 1) := by decide +kernel
theorem dX4_become_10 : decode cX4_become 10 = .ok (.getfield 33, 3) := by decide +kernel
theorem dX4_become_13 : decode cX4_become 13 = .ok (.putfield 33, 3) := by decide +kernel
theorem dX4_become_16 : decode cX4_become 16 = .ok (.aload_n 0, 1) := by decide +kernel
theorem dX4_become_17 : decode cX4_become 17 = .ok (.getfield 16, 3) := by decide +kernel
theorem dX4_become_20 : decode cX4_become 20 = .ok (.aload_n 1, 1) := by decide +kernel
theorem dX4_become_21 : decode cX4_become 21 = .ok (.getfield 16, 3) := by decide +kernel
theorem dX4_become_24 : decode cX4_become 24 = .ok (.invokevirtual 36, 3) := by decide +kernel
theorem dX4_become_27 : decode cX4_become 27 = .ok (.aload_n 0, 1) := by decide +kernel
theorem dX4_become_28 : decode cX4_become 28 = .ok (.getfield 20, 3) := by decide +kernel
theorem dX4_become_31 : decode cX4_become 31 = .ok (.aload_n 1, 1) := by decide +kernel
theorem dX4_become_32 : decode cX4_become 32 = .ok (.getfield 20, 3) := by decide +kernel
theorem dX4_become_35 : decode cX4_become 35 = .ok (.invokevirtual 36, 3) := by decide +kernel
theorem dX4_become_38 : decode cX4_become 38 = .ok (.aload_n 0, 1) := by decide +kernel
theorem dX4_become_39 : decode cX4_become 39 = .ok (.getfield 23, 3) := by decide +kernel
theorem dX4_become_42 : decode cX4_become 42 = .ok (.aload_n 1, 1) := by decide +kernel
theorem dX4_become_43 : decode cX4_become 43 = .ok (.getfield 23, 3) := by decide +kernel
theorem dX4_become_46 : decode cX4_become 46 = .ok (.invokevirtual 36, 3) := by decide +kernel
theorem dX4_become_49 : decode cX4_become 49 = .ok (.return_, 1) := by decide +kernel
def f_X4_become (v0 : XM) (v1 : XM) : XM :=
  x_lt (x_si v0 0 0 (v1.1 0 0)) (fun m1 =>
  x_lt (x_si m1 0 1 (v1.1 0 1)) (fun m2 =>
  x_lt (r_bec 40 40 (x_sub m2 1) (x_sub v1 1)) (fun y3 =>
  x_lt (x_put m2 1 2 y3) (fun m4 =>
  x_lt (r_bec 40 40 (x_sub m4 3) (x_sub v1 3)) (fun y5 =>
  x_lt (x_put m4 3 2 y5) (fun m6 =>
  x_lt (r_bec 40 40 (x_sub m6 5) (x_sub v1 5)) (fun y7 =>
  x_lt (x_put m6 5 2 y7) (fun m8 =>
  m8))))))))
set_option maxRecDepth 100000 in
set_option maxHeartbeats 4000000 in
theorem c_X4_become {l : Launch}  {ad0 : Nat → Nat} {ad1 : Nat → Nat} {v0 v1 : XM}   {o : XM} (h : f_X4_become v0 v1 = o) : CT l yX4_become cX4_become 2 none 2 [(shSentence, ad0), (shSentence, ad1)] [v0, v1] (fun aK => [.ref (ad0 0), .ref (ad1 0)]) none True [o, v1] := by
  refine CT_of (by decide) (fun _ => Nat.le_of_ble_eq_true rfl) ?_
  intro p e s m args below meth c D tc aK aV A X
  have X : Cx p s m args meth c cX4_become 2 none RX4 D tc aK aV A [(shSentence, ad0), (shSentence, ad1)] := X
  show aW p l e (x_Rm 2) s m args below meth c D tc A 2 [(shSentence, ad0), (shSentence, ad1)] none True [o, v1] 0 [(0, .ref (ad0 0)), (1, .ref (ad1 0))] [] [v0, v1]
  unfold f_X4_become at h
  refine a_aload_n (pc := 0) X 0 dX4_become_0 rfl rfl ?_
  refine a_aload_n (pc := 1) X 1 dX4_become_1 rfl rfl ?_
  refine a_getI (pc := 2) X 1 fl_RX4_29 rfl rfl rfl rfl dX4_become_2 ?_
  refine a_putI (pc := 5) X 0 fl_RX4_29 rfl rfl rfl rfl dX4_become_5 ?_
  obtain ⟨m1, e_m1, h⟩ := x_lt_elim h
  refine a_nm (vs2 := [m1, v1]) (congrArg (fun q : XM => [q, v1]) e_m1) ?_
  refine a_aload_n (pc := 8) X 0 dX4_become_8 rfl rfl ?_
  refine a_aload_n (pc := 9) X 1 dX4_become_9 rfl rfl ?_
  refine a_getI (pc := 10) X 1 fl_RX4_33 rfl rfl rfl rfl dX4_become_10 ?_
  refine a_putI (pc := 13) X 0 fl_RX4_33 rfl rfl rfl rfl dX4_become_13 ?_
  obtain ⟨m2, e_m2, h⟩ := x_lt_elim h
  refine a_nm (vs2 := [m2, v1]) (congrArg (fun q : XM => [q, v1]) e_m2) ?_
  refine a_aload_n (pc := 16) X 0 dX4_become_16 rfl rfl ?_
  refine a_getR (pc := 17) X 0 1 1 fl_RX4_16 rfl rfl rfl rfl rfl dX4_become_17 ?_
  refine a_aload_n (pc := 20) X 1 dX4_become_20 rfl rfl ?_
  refine a_getR (pc := 21) X 1 1 1 fl_RX4_16 rfl rfl rfl rfl rfl dX4_become_21 ?_
  obtain ⟨y3, e_y3, h⟩ := x_lt_elim h
  refine a_callV (pc := 24) (st2 := []) (vs2 := [x_put m2 1 2 y3, v1]) X [(0, 1, 2), (1, 1, 2)] [some y3, none] 0 1 3 [.ref (ad1 1)] [] cv_RX4_36 (ct_bec (ad0 := (fun i => ad0 (i + 1))) (ad1 := (fun i => ad1 (i + 1))) (by decide) (by decide) e_y3) rfl rfl rfl rfl rfl rfl rfl rfl rfl rfl rfl rfl rfl rfl rfl (Nat.le_of_ble_eq_true rfl) ⟨Nat.le_of_ble_eq_true rfl, Nat.le_of_ble_eq_true rfl⟩ dX4_become_24 (fun _ => ?_)
  obtain ⟨m4, e_m4, h⟩ := x_lt_elim h
  refine a_nm (vs2 := [m4, v1]) (congrArg (fun q : XM => [q, v1]) e_m4) ?_
  refine a_aload_n (pc := 27) X 0 dX4_become_27 rfl rfl ?_
  refine a_getR (pc := 28) X 0 3 3 fl_RX4_20 rfl rfl rfl rfl rfl dX4_become_28 ?_
  refine a_aload_n (pc := 31) X 1 dX4_become_31 rfl rfl ?_
  refine a_getR (pc := 32) X 1 3 3 fl_RX4_20 rfl rfl rfl rfl rfl dX4_become_32 ?_
  obtain ⟨y5, e_y5, h⟩ := x_lt_elim h
  refine a_callV (pc := 35) (st2 := []) (vs2 := [x_put m4 3 2 y5, v1]) X [(0, 3, 2), (1, 3, 2)] [some y5, none] 0 3 3 [.ref (ad1 3)] [] cv_RX4_36 (ct_bec (ad0 := (fun i => ad0 (i + 3))) (ad1 := (fun i => ad1 (i + 3))) (by decide) (by decide) e_y5) rfl rfl rfl rfl rfl rfl rfl rfl rfl rfl rfl rfl rfl rfl rfl (Nat.le_of_ble_eq_true rfl) ⟨Nat.le_of_ble_eq_true rfl, Nat.le_of_ble_eq_true rfl⟩ dX4_become_35 (fun _ => ?_)
  obtain ⟨m6, e_m6, h⟩ := x_lt_elim h
  refine a_nm (vs2 := [m6, v1]) (congrArg (fun q : XM => [q, v1]) e_m6) ?_
  refine a_aload_n (pc := 38) X 0 dX4_become_38 rfl rfl ?_
  refine a_getR (pc := 39) X 0 5 5 fl_RX4_23 rfl rfl rfl rfl rfl dX4_become_39 ?_
  refine a_aload_n (pc := 42) X 1 dX4_become_42 rfl rfl ?_
  refine a_getR (pc := 43) X 1 5 5 fl_RX4_23 rfl rfl rfl rfl rfl dX4_become_43 ?_
  obtain ⟨y7, e_y7, h⟩ := x_lt_elim h
  refine a_callV (pc := 46) (st2 := []) (vs2 := [x_put m6 5 2 y7, v1]) X [(0, 5, 2), (1, 5, 2)] [some y7, none] 0 5 3 [.ref (ad1 5)] [] cv_RX4_36 (ct_bec (ad0 := (fun i => ad0 (i + 5))) (ad1 := (fun i => ad1 (i + 5))) (by decide) (by decide) e_y7) rfl rfl rfl rfl rfl rfl rfl rfl rfl rfl rfl rfl rfl rfl rfl (Nat.le_of_ble_eq_true rfl) ⟨Nat.le_of_ble_eq_true rfl, Nat.le_of_ble_eq_true rfl⟩ dX4_become_46 (fun _ => ?_)
  obtain ⟨m8, e_m8, h⟩ := x_lt_elim h
  refine a_nm (vs2 := [m8, v1]) (congrArg (fun q : XM => [q, v1]) e_m8) ?_
  subst h
  exact a_vret (pc := 49) X trivial dX4_become_49
theorem dX4_push_0 : decode cX4_push 0 = .ok (.aload_n 0, 1) := by decide +kernel
theorem dX4_push_1 : decode cX4_push 1 = .ok (.getfield 26, 3) := by decide +kernel
theorem dX4_push_4 : decode cX4_push 4 = .ok (.aload_n 0, 1) := by decide +kernel
theorem dX4_push_5 : decode cX4_push 5 = .ok (.getfield 43, 3) := by decide +kernel
theorem dX4_push_8 : decode cX4_push 8 = .ok (.iload_n 1, 1) := by decide +kernel
theorem dX4_push_9 : decode cX4_push 9 = .ok (.invokevirtual 98, 3) := by decide +kernel
theorem dX4_push_12 : decode cX4_push 12 = .ok (.aload_n 0, 1) := by decide +kernel
theorem dX4_push_13 : decode cX4_push 13 = .ok (.dup, 1) := by decide +kernel
theorem dX4_push_14 : decode cX4_push 14 = .ok (.getfield 43, 3) := by decide +kernel
theorem dX4_push_17 : decode cX4_push 17 = .ok (.iconst 1, 1) := by decide +kernel
theorem dX4_push_18 : decode cX4_push 18 = .ok (.iadd, 1) := by decide +kernel
theorem dX4_push_19 : decode cX4_push 19 = .ok (.putfield 43, 3) := by decide +kernel
theorem dX4_push_22 : decode cX4_push 22 = .ok (.return_, 1) := by decide +kernel
def f_X4_push (v0 : XM) (x0 : Int32) : XM :=
  x_lt (r_put 40 (x_sub v0 7) (v0.1 0 6) x0) (fun y1 =>
  x_lt (x_put v0 7 2 y1) (fun m2 =>
  x_lt (x_si m2 0 6 ((m2.1 0 6) + (1 : Int32))) (fun m3 =>
  m3)))
set_option maxRecDepth 100000 in
set_option maxHeartbeats 4000000 in
theorem c_X4_push {l : Launch}  {ad0 : Nat → Nat} {v0 : XM} {x0 : Int32}  {o : XM} (h : f_X4_push v0 x0 = o) : CT l yX4_push cX4_push 2 none 1 [(shSentence, ad0)] [v0] (fun aK => [.ref (ad0 0), .int x0]) none True [o] := by
  refine CT_of (by decide) (fun _ => Nat.le_of_ble_eq_true rfl) ?_
  intro p e s m args below meth c D tc aK aV A X
  have X : Cx p s m args meth c cX4_push 2 none RX4 D tc aK aV A [(shSentence, ad0)] := X
  show aW p l e (x_Rm 1) s m args below meth c D tc A 2 [(shSentence, ad0)] none True [o] 0 [(0, .ref (ad0 0)), (1, .int x0)] [] [v0]
  unfold f_X4_push at h
  refine a_aload_n (pc := 0) X 0 dX4_push_0 rfl rfl ?_
  refine a_getR (pc := 1) X 0 7 7 fl_RX4_26 rfl rfl rfl rfl rfl dX4_push_1 ?_
  refine a_aload_n (pc := 4) X 0 dX4_push_4 rfl rfl ?_
  refine a_getI (pc := 5) X 0 fl_RX4_43 rfl rfl rfl rfl dX4_push_5 ?_
  refine a_iload_n (pc := 8) X 1 dX4_push_8 rfl rfl ?_
  obtain ⟨y1, e_y1, h⟩ := x_lt_elim h
  refine a_callV (pc := 9) (st2 := []) (vs2 := [x_put v0 7 2 y1]) X [(0, 7, 2)] [some y1] 0 7 3 [.int (v0.1 0 6), .int x0] [] cv_RX4_98 (ct_put (ad0 := (fun i => ad0 (i + 7))) (by decide) e_y1) rfl rfl rfl rfl rfl rfl rfl rfl rfl rfl rfl rfl rfl rfl rfl (Nat.le_of_ble_eq_true rfl) ⟨Nat.le_of_ble_eq_true rfl, Nat.le_of_ble_eq_true rfl⟩ dX4_push_9 (fun _ => ?_)
  obtain ⟨m2, e_m2, h⟩ := x_lt_elim h
  refine a_nm (vs2 := [m2]) (congrArg (fun q : XM => [q]) e_m2) ?_
  refine a_aload_n (pc := 12) X 0 dX4_push_12 rfl rfl ?_
  refine a_dup (pc := 13) X dX4_push_13 rfl ?_
  refine a_getI (pc := 14) X 0 fl_RX4_43 rfl rfl rfl rfl dX4_push_14 ?_
  refine a_iconst (pc := 17) X dX4_push_17 q_ic_1 ?_
  refine a_iadd (pc := 18) X dX4_push_18 ?_
  refine a_putI (pc := 19) X 0 fl_RX4_43 rfl rfl rfl rfl dX4_push_19 ?_
  obtain ⟨m3, e_m3, h⟩ := x_lt_elim h
  refine a_nm (vs2 := [m3]) (congrArg (fun q : XM => [q]) e_m3) ?_
  subst h
  exact a_vret (pc := 22) X trivial dX4_push_22
theorem dX4_addStep_0 : decode cX4_addStep 0 = .ok (.aload_n 0, 1) := by decide +kernel
theorem dX4_addStep_1 : decode cX4_addStep 1 = .ok (.getfield 16, 3) := by decide +kernel
theorem dX4_addStep_4 : decode cX4_addStep 4 = .ok (.aload_n 0, 1) := by decide +kernel
theorem dX4_addStep_5 : decode cX4_addStep 5 = .ok (.getfield 33, 3) := by decide +kernel
theorem dX4_addStep_8 : decode cX4_addStep 8 = .ok (.iload_n 1, 1) := by decide +kernel
theorem dX4_addStep_9 : decode cX4_addStep 9 = .ok (.invokevirtual 98, 3) := by decide +kernel
theorem dX4_addStep_12 : decode cX4_addStep 12 = .ok (.aload_n 0, 1) := by decide +kernel
theorem dX4_addStep_13 : decode cX4_addStep 13 = .ok (.getfield 20, 3) := by decide +kernel
theorem dX4_addStep_16 : decode cX4_addStep 16 = .ok (.aload_n 0, 1) := by decide +kernel
theorem dX4_addStep_17 : decode cX4_addStep 17 = .ok (.getfield 33, 3) := by decide +kernel
theorem dX4_addStep_20 : decode cX4_addStep 20 = .ok (.iload_n 2, 1) := by decide +kernel
theorem dX4_addStep_21 : decode cX4_addStep 21 = .ok (.invokevirtual 98, 3) := by decide +kernel
theorem dX4_addStep_24 : decode cX4_addStep 24 = .ok (.aload_n 0, 1) := by decide +kernel
theorem dX4_addStep_25 : decode cX4_addStep 25 = .ok (.getfield 23, 3) := by decide +kernel
theorem dX4_addStep_28 : decode cX4_addStep 28 = .ok (.aload_n 0, 1) := by decide +kernel
theorem dX4_addStep_29 : decode cX4_addStep 29 = .ok (.getfield 33, 3) := by decide +kernel
theorem dX4_addStep_32 : decode cX4_addStep 32 = .ok (.iload_n 3, 1) := by decide +kernel
theorem dX4_addStep_33 : decode cX4_addStep 33 = .ok (.invokevirtual 98, 3) := by decide +kernel
theorem dX4_addStep_36 : decode cX4_addStep 36 = .ok (.aload_n 0, 1) := by decide +kernel
theorem dX4_addStep_37 : decode cX4_addStep 37 = .ok (.dup, 1) := by decide +kernel
theorem dX4_addStep_38 : decode cX4_addStep 38 = .ok (.getfield 33, 3) := by decide +kernel
theorem dX4_addStep_41 : decode cX4_addStep 41 = .ok (.iconst 1, 1) := by decide +kernel
theorem dX4_addStep_42 : decode cX4_addStep 42 = .ok (.iadd, 1) := by decide +kernel
theorem dX4_addStep_43 : decode cX4_addStep 43 = .ok (.putfield 33, 3) := by decide +kernel
theorem dX4_addStep_46 : decode cX4_addStep 46 = .ok (.iconst 1, 1) := by decide +kernel
theorem dX4_addStep_47 : decode cX4_addStep 47 = .ok (.ireturn, 1) := by decide +kernel
def f_X4_addStep (v0 : XM) (x0 : Int32) (x1 : Int32) (x2 : Int32) : Int32 × XM :=
  x_lt (r_put 40 (x_sub v0 1) (v0.1 0 1) x0) (fun y1 =>
  x_lt (x_put v0 1 2 y1) (fun m2 =>
  x_lt (r_put 40 (x_sub m2 3) (m2.1 0 1) x1) (fun y3 =>
  x_lt (x_put m2 3 2 y3) (fun m4 =>
  x_lt (r_put 40 (x_sub m4 5) (m4.1 0 1) x2) (fun y5 =>
  x_lt (x_put m4 5 2 y5) (fun m6 =>
  x_lt (x_si m6 0 1 ((m6.1 0 1) + (1 : Int32))) (fun m7 =>
  ((1 : Int32), m7))))))))
set_option maxRecDepth 100000 in
set_option maxHeartbeats 4000000 in
theorem c_X4_addStep {l : Launch}  {ad0 : Nat → Nat} {v0 : XM} {x0 : Int32} {x1 : Int32} {x2 : Int32}  {o : Int32 × XM} (h : f_X4_addStep v0 x0 x1 x2 = o) : CT l yX4_addStep cX4_addStep 4 (some .boolean) 1 [(shSentence, ad0)] [v0] (fun aK => [.ref (ad0 0), .int x0, .int x1, .int x2]) (some (.int o.1)) (x_Z o.1) [o.2] := by
  refine CT_of (by decide) (fun _ => Nat.le_of_ble_eq_true rfl) ?_
  intro p e s m args below meth c D tc aK aV A X
  have X : Cx p s m args meth c cX4_addStep 4 (some .boolean) RX4 D tc aK aV A [(shSentence, ad0)] := X
  show aW p l e (x_Rm 1) s m args below meth c D tc A 4 [(shSentence, ad0)] (some (.int o.1)) (x_Z o.1) [o.2] 0 [(0, .ref (ad0 0)), (1, .int x0), (2, .int x1), (3, .int x2)] [] [v0]
  unfold f_X4_addStep at h
  refine a_aload_n (pc := 0) X 0 dX4_addStep_0 rfl rfl ?_
  refine a_getR (pc := 1) X 0 1 1 fl_RX4_16 rfl rfl rfl rfl rfl dX4_addStep_1 ?_
  refine a_aload_n (pc := 4) X 0 dX4_addStep_4 rfl rfl ?_
  refine a_getI (pc := 5) X 0 fl_RX4_33 rfl rfl rfl rfl dX4_addStep_5 ?_
  refine a_iload_n (pc := 8) X 1 dX4_addStep_8 rfl rfl ?_
  obtain ⟨y1, e_y1, h⟩ := x_lt_elim h
  refine a_callV (pc := 9) (st2 := []) (vs2 := [x_put v0 1 2 y1]) X [(0, 1, 2)] [some y1] 0 1 3 [.int (v0.1 0 1), .int x0] [] cv_RX4_98 (ct_put (ad0 := (fun i => ad0 (i + 1))) (by decide) e_y1) rfl rfl rfl rfl rfl rfl rfl rfl rfl rfl rfl rfl rfl rfl rfl (Nat.le_of_ble_eq_true rfl) ⟨Nat.le_of_ble_eq_true rfl, Nat.le_of_ble_eq_true rfl⟩ dX4_addStep_9 (fun _ => ?_)
  obtain ⟨m2, e_m2, h⟩ := x_lt_elim h
  refine a_nm (vs2 := [m2]) (congrArg (fun q : XM => [q]) e_m2) ?_
  refine a_aload_n (pc := 12) X 0 dX4_addStep_12 rfl rfl ?_
  refine a_getR (pc := 13) X 0 3 3 fl_RX4_20 rfl rfl rfl rfl rfl dX4_addStep_13 ?_
  refine a_aload_n (pc := 16) X 0 dX4_addStep_16 rfl rfl ?_
  refine a_getI (pc := 17) X 0 fl_RX4_33 rfl rfl rfl rfl dX4_addStep_17 ?_
  refine a_iload_n (pc := 20) X 2 dX4_addStep_20 rfl rfl ?_
  obtain ⟨y3, e_y3, h⟩ := x_lt_elim h
  refine a_callV (pc := 21) (st2 := []) (vs2 := [x_put m2 3 2 y3]) X [(0, 3, 2)] [some y3] 0 3 3 [.int (m2.1 0 1), .int x1] [] cv_RX4_98 (ct_put (ad0 := (fun i => ad0 (i + 3))) (by decide) e_y3) rfl rfl rfl rfl rfl rfl rfl rfl rfl rfl rfl rfl rfl rfl rfl (Nat.le_of_ble_eq_true rfl) ⟨Nat.le_of_ble_eq_true rfl, Nat.le_of_ble_eq_true rfl⟩ dX4_addStep_21 (fun _ => ?_)
  obtain ⟨m4, e_m4, h⟩ := x_lt_elim h
  refine a_nm (vs2 := [m4]) (congrArg (fun q : XM => [q]) e_m4) ?_
  refine a_aload_n (pc := 24) X 0 dX4_addStep_24 rfl rfl ?_
  refine a_getR (pc := 25) X 0 5 5 fl_RX4_23 rfl rfl rfl rfl rfl dX4_addStep_25 ?_
  refine a_aload_n (pc := 28) X 0 dX4_addStep_28 rfl rfl ?_
  refine a_getI (pc := 29) X 0 fl_RX4_33 rfl rfl rfl rfl dX4_addStep_29 ?_
  refine a_iload_n (pc := 32) X 3 dX4_addStep_32 rfl rfl ?_
  obtain ⟨y5, e_y5, h⟩ := x_lt_elim h
  refine a_callV (pc := 33) (st2 := []) (vs2 := [x_put m4 5 2 y5]) X [(0, 5, 2)] [some y5] 0 5 3 [.int (m4.1 0 1), .int x2] [] cv_RX4_98 (ct_put (ad0 := (fun i => ad0 (i + 5))) (by decide) e_y5) rfl rfl rfl rfl rfl rfl rfl rfl rfl rfl rfl rfl rfl rfl rfl (Nat.le_of_ble_eq_true rfl) ⟨Nat.le_of_ble_eq_true rfl, Nat.le_of_ble_eq_true rfl⟩ dX4_addStep_33 (fun _ => ?_)
  obtain ⟨m6, e_m6, h⟩ := x_lt_elim h
  refine a_nm (vs2 := [m6]) (congrArg (fun q : XM => [q]) e_m6) ?_
  refine a_aload_n (pc := 36) X 0 dX4_addStep_36 rfl rfl ?_
  refine a_dup (pc := 37) X dX4_addStep_37 rfl ?_
  refine a_getI (pc := 38) X 0 fl_RX4_33 rfl rfl rfl rfl dX4_addStep_38 ?_
  refine a_iconst (pc := 41) X dX4_addStep_41 q_ic_1 ?_
  refine a_iadd (pc := 42) X dX4_addStep_42 ?_
  refine a_putI (pc := 43) X 0 fl_RX4_33 rfl rfl rfl rfl dX4_addStep_43 ?_
  obtain ⟨m7, e_m7, h⟩ := x_lt_elim h
  refine a_nm (vs2 := [m7]) (congrArg (fun q : XM => [q]) e_m7) ?_
  refine a_iconst (pc := 46) X dX4_addStep_46 q_ic_1 ?_
  subst h
  exact a_zret (pc := 47) X x_Z1 x_Z1 dX4_addStep_47
theorem dX4_readPlain_0 : decode cX4_readPlain 0 = .ok (.iconst 0, 1) := by decide +kernel
theorem dX4_readPlain_1 : decode cX4_readPlain 1 = .ok (.istore 4, 2) := by decide +kernel
theorem dX4_readPlain_3 : decode cX4_readPlain 3 = .ok (.iconst 0, 1) := by decide +kernel
theorem dX4_readPlain_4 : decode cX4_readPlain 4 = .ok (.istore 5, 2) := by decide +kernel
theorem dX4_readPlain_6 : decode cX4_readPlain 6 = .ok (.iload_n 3, 1) := by decide +kernel
theorem dX4_readPlain_7 : decode cX4_readPlain 7 = .ok (.bipush 23, 2) := by decide +kernel
theorem dX4_readPlain_9 : decode cX4_readPlain 9 = .ok (.if_icmp .ne 16, 3) := by decide +kernel
theorem dX4_readPlain_12 : decode cX4_readPlain 12 = .ok (.aload_n 1, 1) := by decide +kernel
theorem dX4_readPlain_13 : decode cX4_readPlain 13 = .ok (.aload_n 2, 1) := by decide +kernel
theorem dX4_readPlain_14 : decode cX4_readPlain 14 = .ok (.iconst 0, 1) := by decide +kernel
theorem dX4_readPlain_15 : decode cX4_readPlain 15 = .ok (.bipush 8, 2) := by decide +kernel
theorem dX4_readPlain_17 : decode cX4_readPlain 17 = .ok (.invokevirtual 86, 3) := by decide +kernel
theorem dX4_readPlain_20 : decode cX4_readPlain 20 = .ok (.istore 5, 2) := by decide +kernel
theorem dX4_readPlain_22 : decode cX4_readPlain 22 = .ok (.goto 76, 3) := by decide +kernel
theorem dX4_readPlain_25 : decode cX4_readPlain 25 = .ok (.iload_n 3, 1) := by decide +kernel
theorem dX4_readPlain_26 : decode cX4_readPlain 26 = .ok (.bipush 24, 2) := by decide +kernel
theorem dX4_readPlain_28 : decode cX4_readPlain 28 = .ok (.if_icmp .ne 17, 3) := by decide +kernel
theorem dX4_readPlain_31 : decode cX4_readPlain 31 = .ok (.aload_n 1, 1) := by decide +kernel
theorem dX4_readPlain_32 : decode cX4_readPlain 32 = .ok (.aload_n 2, 1) := by decide +kernel
theorem dX4_readPlain_33 : decode cX4_readPlain 33 = .ok (.bipush 8, 2) := by decide +kernel
theorem dX4_readPlain_35 : decode cX4_readPlain 35 = .ok (.bipush 6, 2) := by decide +kernel
theorem dX4_readPlain_37 : decode cX4_readPlain 37 = .ok (.invokevirtual 86, 3) := by decide +kernel
theorem dX4_readPlain_40 : decode cX4_readPlain 40 = .ok (.istore 5, 2) := by decide +kernel
theorem dX4_readPlain_42 : decode cX4_readPlain 42 = .ok (.goto 56, 3) := by decide +kernel
theorem dX4_readPlain_45 : decode cX4_readPlain 45 = .ok (.iload_n 3, 1) := by decide +kernel
theorem dX4_readPlain_46 : decode cX4_readPlain 46 = .ok (.bipush 25, 2) := by decide +kernel
theorem dX4_readPlain_48 : decode cX4_readPlain 48 = .ok (.if_icmp .lt 50, 3) := by decide +kernel
theorem dX4_readPlain_51 : decode cX4_readPlain 51 = .ok (.aload_n 1, 1) := by decide +kernel
theorem dX4_readPlain_52 : decode cX4_readPlain 52 = .ok (.getfield 70, 3) := by decide +kernel
theorem dX4_readPlain_55 : decode cX4_readPlain 55 = .ok (.istore 4, 2) := by decide +kernel
theorem dX4_readPlain_57 : decode cX4_readPlain 57 = .ok (.iload 4, 2) := by decide +kernel
theorem dX4_readPlain_59 : decode cX4_readPlain 59 = .ok (.bipush 60, 2) := by decide +kernel
theorem dX4_readPlain_61 : decode cX4_readPlain 61 = .ok (.if_icmp .eq 23, 3) := by decide +kernel
theorem dX4_readPlain_64 : decode cX4_readPlain 64 = .ok (.iload 4, 2) := by decide +kernel
theorem dX4_readPlain_66 : decode cX4_readPlain 66 = .ok (.bipush 61, 2) := by decide +kernel
theorem dX4_readPlain_68 : decode cX4_readPlain 68 = .ok (.if_icmp .eq 16, 3) := by decide +kernel
theorem dX4_readPlain_71 : decode cX4_readPlain 71 = .ok (.iload 4, 2) := by decide +kernel
theorem dX4_readPlain_73 : decode cX4_readPlain 73 = .ok (.bipush 62, 2) := by decide +kernel
theorem dX4_readPlain_75 : decode cX4_readPlain 75 = .ok (.if_icmp .eq 9, 3) := by decide +kernel
theorem dX4_readPlain_78 : decode cX4_readPlain 78 = .ok (.aload_n 1, 1) := by decide +kernel
theorem dX4_readPlain_79 : decode cX4_readPlain 79 = .ok (.iconst 1, 1) := by decide +kernel
theorem dX4_readPlain_80 : decode cX4_readPlain 80 = .ok (.invokevirtual 76, 3) := by decide +kernel
theorem dX4_readPlain_83 : decode cX4_readPlain 83 = .ok (.ireturn, 1) := by decide +kernel
theorem dX4_readPlain_84 : decode cX4_readPlain 84 = .ok (.aload_n 1, 1) := by decide +kernel
theorem dX4_readPlain_85 : decode cX4_readPlain 85 = .ok (.invokevirtual 67, 3) := by decide +kernel
theorem dX4_readPlain_88 : decode cX4_readPlain 88 = .ok (.aload_n 1, 1) := by decide +kernel
theorem dX4_readPlain_89 : decode cX4_readPlain 89 = .ok (.iconst 0, 1) := by decide +kernel
theorem dX4_readPlain_90 : decode cX4_readPlain 90 = .ok (.sipush 999, 3) := by decide +kernel
theorem dX4_readPlain_93 : decode cX4_readPlain 93 = .ok (.invokevirtual 90, 3) := by decide +kernel
theorem dX4_readPlain_96 : decode cX4_readPlain 96 = .ok (.istore 5, 2) := by decide +kernel
theorem dX4_readPlain_98 : decode cX4_readPlain 98 = .ok (.iload 5, 2) := by decide +kernel
theorem dX4_readPlain_100 : decode cX4_readPlain 100 = .ok (.iconst (-1), 1) := by decide +kernel
theorem dX4_readPlain_101 : decode cX4_readPlain 101 = .ok (.if_icmp .eq 19, 3) := by decide +kernel
theorem dX4_readPlain_104 : decode cX4_readPlain 104 = .ok (.aload_n 0, 1) := by decide +kernel
theorem dX4_readPlain_105 : decode cX4_readPlain 105 = .ok (.iload_n 3, 1) := by decide +kernel
theorem dX4_readPlain_106 : decode cX4_readPlain 106 = .ok (.iload 4, 2) := by decide +kernel
theorem dX4_readPlain_108 : decode cX4_readPlain 108 = .ok (.iload 5, 2) := by decide +kernel
theorem dX4_readPlain_110 : decode cX4_readPlain 110 = .ok (.invokevirtual 94, 3) := by decide +kernel
theorem dX4_readPlain_113 : decode cX4_readPlain 113 = .ok (.ifCond .eq 7, 3) := by decide +kernel
theorem dX4_readPlain_116 : decode cX4_readPlain 116 = .ok (.iconst 1, 1) := by decide +kernel
theorem dX4_readPlain_117 : decode cX4_readPlain 117 = .ok (.goto 4, 3) := by decide +kernel
theorem dX4_readPlain_120 : decode cX4_readPlain 120 = .ok (.iconst 0, 1) := by decide +kernel
theorem dX4_readPlain_121 : decode cX4_readPlain 121 = .ok (.ireturn, 1) := by decide +kernel
def f_X4_readPlain_98 (v2 : XM) (w0 : XM) (w1 : XM) (l3 : Int32) (l4 : Int32) (l5 : Int32) : Option (Int32 × XM × XM) :=
  if (l5 : Int32) = (-1 : Int32) then
  (some ((0 : Int32), w0, w1))
  else (x_lt (f_X4_addStep w0 l3 l4 l5) (fun y1 =>
  if y1.1 = (0 : Int32) then
  (some ((0 : Int32), y1.2, w1))
  else (some ((1 : Int32), y1.2, w1))))
def f_X4_readPlain_84 (v2 : XM) (w0 : XM) (w1 : XM) (l3 : Int32) (l4 : Int32) : Option (Int32 × XM × XM) :=
  x_bo (f_X8_advance w1) (fun y2 =>
  x_bo (f_X8_takeNumber y2 (0 : Int32) (999 : Int32)) (fun y3 =>
  f_X4_readPlain_98 v2  w0 y3.2 l3 l4 y3.1))
def f_X4_readPlain (v0 : XM) (v1 : XM) (v2 : XM) (x2 : Int32) : Option (Int32 × XM × XM) :=
  if (x2 : Int32) = (23 : Int32) then
  (x_bo (f_X8_takeNamed v1 v2 (0 : Int32) (8 : Int32)) (fun y6 =>
  f_X4_readPlain_98 v2  v0 y6.2 x2 (0 : Int32) y6.1))
  else (if (x2 : Int32) = (24 : Int32) then
  (x_bo (f_X8_takeNamed v1 v2 (8 : Int32) (6 : Int32)) (fun y5 =>
  f_X4_readPlain_98 v2  v0 y5.2 x2 (0 : Int32) y5.1))
  else (if (x2 : Int32) < (25 : Int32) then
  (f_X4_readPlain_98 v2  v0 v1 x2 (0 : Int32) (0 : Int32))
  else (if ((v1.1 0 6) : Int32) = (60 : Int32) then
  (f_X4_readPlain_84 v2  v0 v1 x2 (v1.1 0 6))
  else (if ((v1.1 0 6) : Int32) = (61 : Int32) then
  (f_X4_readPlain_84 v2  v0 v1 x2 (v1.1 0 6))
  else (if ((v1.1 0 6) : Int32) = (62 : Int32) then
  (f_X4_readPlain_84 v2  v0 v1 x2 (v1.1 0 6))
  else (x_lt (f_X8_refuse v1 (1 : Int32)) (fun y4 =>
  some (y4.1, v0, y4.2))))))))
set_option maxRecDepth 100000 in
set_option maxHeartbeats 4000000 in
theorem w_X4_readPlain_98 {p : Program} {l : Launch} {e : Env} {s : State} {m : MethodId} {args : Array Value} {below : List Frame} {meth : Method} {c : Code} {D : va_G} {tc : Nat → ClassId} {aK aV : Nat → Nat} {A : Nat → Prop} {ad0 : Nat → Nat} {ad1 : Nat → Nat} {ad2 : Nat → Nat} {v2 : XM} (X : Cx p s m args meth c cX4_readPlain 6 (some .boolean) RX4 D tc aK aV A [(shSentence, ad0), (shTape, ad1), (shValley, ad2)])  {o : Int32 × XM × XM}  {w0 : XM} {w1 : XM} {l3 : Int32} {l4 : Int32} {l5 : Int32}  (h : f_X4_readPlain_98 v2  w0 w1 l3 l4 l5 = some o) : aW p l e (x_Rm 4) s m args below meth c D tc A 6 [(shSentence, ad0), (shTape, ad1), (shValley, ad2)] (some (.int o.1)) (x_Z o.1) [o.2.1, o.2.2, v2] 98 [(0, .ref (ad0 0)), (3, .int l3), (4, .int l4), (5, .int l5)] [] [w0, w1, v2] := by
  unfold f_X4_readPlain_98 at h
  refine a_iload (pc := 98) X 3 dX4_readPlain_98 rfl ?_
  refine a_iconst (pc := 100) X dX4_readPlain_100 q_ic_m1 ?_
  refine a_icmp_eq (pc := 101) X 120 dX4_readPlain_101 rfl (fun c_101 => ?_) (fun c_101 => ?_)
  · have h := x_ifp c_101 h
    refine a_iconst (pc := 120) X dX4_readPlain_120 q_ic_0 ?_
    have h := Option.some.inj h; subst h
    exact a_zret (pc := 121) X x_Z0 x_Z0 dX4_readPlain_121
  · have h := x_ifn c_101 h
    refine a_aload_n (pc := 104) X 0 dX4_readPlain_104 rfl rfl ?_
    refine a_iload_n (pc := 105) X 1 dX4_readPlain_105 rfl rfl ?_
    refine a_iload (pc := 106) X 2 dX4_readPlain_106 rfl ?_
    refine a_iload (pc := 108) X 3 dX4_readPlain_108 rfl ?_
    obtain ⟨y1, e_y1, h⟩ := x_lt_elim h
    refine a_callV (pc := 110) (st2 := [.int y1.1]) (vs2 := [y1.2, w1, v2]) X [(0, 0, 9)] [some y1.2] 0 0 4 [.int l3, .int l4, .int l5] [] cv_RX4_94 (c_X4_addStep (ad0 := ad0)  e_y1) rfl rfl rfl rfl rfl rfl rfl rfl rfl rfl rfl rfl rfl rfl rfl (Nat.le_of_ble_eq_true rfl) ⟨Nat.le_of_ble_eq_true rfl, Nat.le_of_ble_eq_true rfl⟩ dX4_readPlain_110 (fun z_110 => ?_)
    refine a_if_eq (pc := 113) X 120 dX4_readPlain_113 rfl (fun c_113 => ?_) (fun c_113 => ?_)
    · have h := x_ifp c_113 h
      refine a_iconst (pc := 120) X dX4_readPlain_120 q_ic_0 ?_
      have h := Option.some.inj h; subst h
      exact a_zret (pc := 121) X x_Z0 x_Z0 dX4_readPlain_121
    · have h := x_ifn c_113 h
      refine a_iconst (pc := 116) X dX4_readPlain_116 q_ic_1 ?_
      refine a_goto (pc := 117) X 121 dX4_readPlain_117 rfl ?_
      have h := Option.some.inj h; subst h
      exact a_zret (pc := 121) X x_Z1 x_Z1 dX4_readPlain_121
set_option maxRecDepth 100000 in
set_option maxHeartbeats 4000000 in
theorem w_X4_readPlain_84 {p : Program} {l : Launch} {e : Env} {s : State} {m : MethodId} {args : Array Value} {below : List Frame} {meth : Method} {c : Code} {D : va_G} {tc : Nat → ClassId} {aK aV : Nat → Nat} {A : Nat → Prop} {ad0 : Nat → Nat} {ad1 : Nat → Nat} {ad2 : Nat → Nat} {v2 : XM} (X : Cx p s m args meth c cX4_readPlain 6 (some .boolean) RX4 D tc aK aV A [(shSentence, ad0), (shTape, ad1), (shValley, ad2)])  {o : Int32 × XM × XM}  {w0 : XM} {w1 : XM} {l3 : Int32} {l4 : Int32}  (h : f_X4_readPlain_84 v2  w0 w1 l3 l4 = some o) : aW p l e (x_Rm 4) s m args below meth c D tc A 6 [(shSentence, ad0), (shTape, ad1), (shValley, ad2)] (some (.int o.1)) (x_Z o.1) [o.2.1, o.2.2, v2] 84 [(0, .ref (ad0 0)), (1, .ref (ad1 0)), (3, .int l3), (4, .int l4)] [] [w0, w1, v2] := by
  unfold f_X4_readPlain_84 at h
  refine a_aload_n (pc := 84) X 1 dX4_readPlain_84 rfl rfl ?_
  obtain ⟨y2, e_y2, h⟩ := x_bo_elim h
  refine a_callV (pc := 85) (st2 := []) (vs2 := [w0, y2, v2]) X [(1, 0, 4)] [some y2] 1 0 8 [] [] cv_RX4_67 (c_X8_advance (ad0 := ad1)  e_y2) rfl rfl rfl rfl rfl rfl rfl rfl rfl rfl rfl rfl rfl rfl rfl (Nat.le_of_ble_eq_true rfl) ⟨Nat.le_of_ble_eq_true rfl, Nat.le_of_ble_eq_true rfl⟩ dX4_readPlain_85 (fun _ => ?_)
  refine a_aload_n (pc := 88) X 1 dX4_readPlain_88 rfl rfl ?_
  refine a_iconst (pc := 89) X dX4_readPlain_89 q_ic_0 ?_
  refine a_sipush (pc := 90) X dX4_readPlain_90 q_sp_999 ?_
  obtain ⟨y3, e_y3, h⟩ := x_bo_elim h
  refine a_callV (pc := 93) (st2 := [.int y3.1]) (vs2 := [w0, y3.2, v2]) X [(1, 0, 4)] [some y3.2] 1 0 8 [.int (0 : Int32), .int (999 : Int32)] [] cv_RX4_90 (c_X8_takeNumber (ad0 := ad1)  e_y3) rfl rfl rfl rfl rfl rfl rfl rfl rfl rfl rfl rfl rfl rfl rfl (Nat.le_of_ble_eq_true rfl) ⟨Nat.le_of_ble_eq_true rfl, Nat.le_of_ble_eq_true rfl⟩ dX4_readPlain_93 (fun _ => ?_)
  refine a_istore (pc := 96) X [(5, .int y3.1), (0, .ref (ad0 0)), (1, .ref (ad1 0)), (3, .int l3), (4, .int l4)] dX4_readPlain_96 (by decide) rfl ?_
  refine a_sub [1, 3, 4, 0] rfl ?_
  exact w_X4_readPlain_98 X     h
set_option maxRecDepth 100000 in
set_option maxHeartbeats 4000000 in
theorem c_X4_readPlain {l : Launch}  {ad0 : Nat → Nat} {ad1 : Nat → Nat} {ad2 : Nat → Nat} {v0 v1 v2 : XM} {x2 : Int32}  {o : Int32 × XM × XM} (h : f_X4_readPlain v0 v1 v2 x2 = some o) : CT l yX4_readPlain cX4_readPlain 6 (some .boolean) 4 [(shSentence, ad0), (shTape, ad1), (shValley, ad2)] [v0, v1, v2] (fun aK => [.ref (ad0 0), .ref (ad1 0), .ref (ad2 0), .int x2]) (some (.int o.1)) (x_Z o.1) [o.2.1, o.2.2, v2] := by
  refine CT_of (by decide) (fun _ => Nat.le_of_ble_eq_true rfl) ?_
  intro p e s m args below meth c D tc aK aV A X
  have X : Cx p s m args meth c cX4_readPlain 6 (some .boolean) RX4 D tc aK aV A [(shSentence, ad0), (shTape, ad1), (shValley, ad2)] := X
  show aW p l e (x_Rm 4) s m args below meth c D tc A 6 [(shSentence, ad0), (shTape, ad1), (shValley, ad2)] (some (.int o.1)) (x_Z o.1) [o.2.1, o.2.2, v2] 0 [(0, .ref (ad0 0)), (1, .ref (ad1 0)), (2, .ref (ad2 0)), (3, .int x2)] [] [v0, v1, v2]
  unfold f_X4_readPlain at h
  refine a_iconst (pc := 0) X dX4_readPlain_0 q_ic_0 ?_
  refine a_istore (pc := 1) X [(4, .int (0 : Int32)), (0, .ref (ad0 0)), (1, .ref (ad1 0)), (2, .ref (ad2 0)), (3, .int x2)] dX4_readPlain_1 (by decide) rfl ?_
  refine a_iconst (pc := 3) X dX4_readPlain_3 q_ic_0 ?_
  refine a_istore (pc := 4) X [(5, .int (0 : Int32)), (4, .int (0 : Int32)), (0, .ref (ad0 0)), (1, .ref (ad1 0)), (2, .ref (ad2 0)), (3, .int x2)] dX4_readPlain_4 (by decide) rfl ?_
  refine a_iload_n (pc := 6) X 5 dX4_readPlain_6 rfl rfl ?_
  refine a_bipush (pc := 7) X dX4_readPlain_7 q_bp_23 ?_
  refine a_icmp_ne (pc := 9) X 25 dX4_readPlain_9 rfl (fun c_9 => ?_) (fun c_9 => ?_)
  · have h := x_ifn c_9 h
    refine a_iload_n (pc := 25) X 5 dX4_readPlain_25 rfl rfl ?_
    refine a_bipush (pc := 26) X dX4_readPlain_26 q_bp_24 ?_
    refine a_icmp_ne (pc := 28) X 45 dX4_readPlain_28 rfl (fun c_28 => ?_) (fun c_28 => ?_)
    · have h := x_ifn c_28 h
      refine a_iload_n (pc := 45) X 5 dX4_readPlain_45 rfl rfl ?_
      refine a_bipush (pc := 46) X dX4_readPlain_46 q_bp_25 ?_
      refine a_icmp_lt (pc := 48) X 98 dX4_readPlain_48 rfl (fun c_48 => ?_) (fun c_48 => ?_)
      · have h := x_ifp c_48 h
        refine a_sub [2, 5, 1, 0] rfl ?_
        exact w_X4_readPlain_98 X     h
      · have h := x_ifn c_48 h
        refine a_aload_n (pc := 51) X 3 dX4_readPlain_51 rfl rfl ?_
        refine a_getI (pc := 52) X 1 fl_RX4_70 rfl rfl rfl rfl dX4_readPlain_52 ?_
        refine a_istore (pc := 55) X [(4, .int (v1.1 0 6)), (5, .int (0 : Int32)), (0, .ref (ad0 0)), (1, .ref (ad1 0)), (2, .ref (ad2 0)), (3, .int x2)] dX4_readPlain_55 (by decide) rfl ?_
        refine a_iload (pc := 57) X 0 dX4_readPlain_57 rfl ?_
        refine a_bipush (pc := 59) X dX4_readPlain_59 q_bp_60 ?_
        refine a_icmp_eq (pc := 61) X 84 dX4_readPlain_61 rfl (fun c_61 => ?_) (fun c_61 => ?_)
        · have h := x_ifp c_61 h
          refine a_sub [2, 3, 5, 0] rfl ?_
          exact w_X4_readPlain_84 X     h
        · have h := x_ifn c_61 h
          refine a_iload (pc := 64) X 0 dX4_readPlain_64 rfl ?_
          refine a_bipush (pc := 66) X dX4_readPlain_66 q_bp_61 ?_
          refine a_icmp_eq (pc := 68) X 84 dX4_readPlain_68 rfl (fun c_68 => ?_) (fun c_68 => ?_)
          · have h := x_ifp c_68 h
            refine a_sub [2, 3, 5, 0] rfl ?_
            exact w_X4_readPlain_84 X     h
          · have h := x_ifn c_68 h
            refine a_iload (pc := 71) X 0 dX4_readPlain_71 rfl ?_
            refine a_bipush (pc := 73) X dX4_readPlain_73 q_bp_62 ?_
            refine a_icmp_eq (pc := 75) X 84 dX4_readPlain_75 rfl (fun c_75 => ?_) (fun c_75 => ?_)
            · have h := x_ifp c_75 h
              refine a_sub [2, 3, 5, 0] rfl ?_
              exact w_X4_readPlain_84 X     h
            · have h := x_ifn c_75 h
              refine a_aload_n (pc := 78) X 3 dX4_readPlain_78 rfl rfl ?_
              refine a_iconst (pc := 79) X dX4_readPlain_79 q_ic_1 ?_
              obtain ⟨y4, e_y4, h⟩ := x_lt_elim h
              refine a_callV (pc := 80) (st2 := [.int y4.1]) (vs2 := [v0, y4.2, v2]) X [(1, 0, 4)] [some y4.2] 1 0 8 [.int (1 : Int32)] [] cv_RX4_76 (c_X8_refuse (ad0 := ad1)  e_y4) rfl rfl rfl rfl rfl rfl rfl rfl rfl rfl rfl rfl rfl rfl rfl (Nat.le_of_ble_eq_true rfl) ⟨Nat.le_of_ble_eq_true rfl, Nat.le_of_ble_eq_true rfl⟩ dX4_readPlain_80 (fun z_80 => ?_)
              have h := Option.some.inj h; subst h
              exact a_zret (pc := 83) X z_80 z_80 dX4_readPlain_83
    · have h := x_ifp c_28 h
      refine a_aload_n (pc := 31) X 3 dX4_readPlain_31 rfl rfl ?_
      refine a_aload_n (pc := 32) X 4 dX4_readPlain_32 rfl rfl ?_
      refine a_bipush (pc := 33) X dX4_readPlain_33 q_bp_8 ?_
      refine a_bipush (pc := 35) X dX4_readPlain_35 q_bp_6 ?_
      obtain ⟨y5, e_y5, h⟩ := x_bo_elim h
      refine a_callV (pc := 37) (st2 := [.int y5.1]) (vs2 := [v0, y5.2, v2]) X [(1, 0, 4), (2, 0, 16)] [some y5.2, none] 1 0 8 [.ref (ad2 0), .int (8 : Int32), .int (6 : Int32)] [] cv_RX4_86 (c_X8_takeNamed (ad0 := ad1) (ad1 := ad2)  e_y5) rfl rfl rfl rfl rfl rfl rfl rfl rfl rfl rfl rfl rfl rfl rfl (Nat.le_of_ble_eq_true rfl) ⟨Nat.le_of_ble_eq_true rfl, Nat.le_of_ble_eq_true rfl⟩ dX4_readPlain_37 (fun _ => ?_)
      refine a_istore (pc := 40) X [(5, .int y5.1), (4, .int (0 : Int32)), (0, .ref (ad0 0)), (1, .ref (ad1 0)), (2, .ref (ad2 0)), (3, .int x2)] dX4_readPlain_40 (by decide) rfl ?_
      refine a_goto (pc := 42) X 98 dX4_readPlain_42 rfl ?_
      refine a_sub [2, 5, 1, 0] rfl ?_
      exact w_X4_readPlain_98 X     h
  · have h := x_ifp c_9 h
    refine a_aload_n (pc := 12) X 3 dX4_readPlain_12 rfl rfl ?_
    refine a_aload_n (pc := 13) X 4 dX4_readPlain_13 rfl rfl ?_
    refine a_iconst (pc := 14) X dX4_readPlain_14 q_ic_0 ?_
    refine a_bipush (pc := 15) X dX4_readPlain_15 q_bp_8 ?_
    obtain ⟨y6, e_y6, h⟩ := x_bo_elim h
    refine a_callV (pc := 17) (st2 := [.int y6.1]) (vs2 := [v0, y6.2, v2]) X [(1, 0, 4), (2, 0, 16)] [some y6.2, none] 1 0 8 [.ref (ad2 0), .int (0 : Int32), .int (8 : Int32)] [] cv_RX4_86 (c_X8_takeNamed (ad0 := ad1) (ad1 := ad2)  e_y6) rfl rfl rfl rfl rfl rfl rfl rfl rfl rfl rfl rfl rfl rfl rfl (Nat.le_of_ble_eq_true rfl) ⟨Nat.le_of_ble_eq_true rfl, Nat.le_of_ble_eq_true rfl⟩ dX4_readPlain_17 (fun _ => ?_)
    refine a_istore (pc := 20) X [(5, .int y6.1), (4, .int (0 : Int32)), (0, .ref (ad0 0)), (1, .ref (ad1 0)), (2, .ref (ad2 0)), (3, .int x2)] dX4_readPlain_20 (by decide) rfl ?_
    refine a_goto (pc := 22) X 98 dX4_readPlain_22 rfl ?_
    refine a_sub [2, 5, 1, 0] rfl ?_
    exact w_X4_readPlain_98 X     h
theorem dX4_top_0 : decode cX4_top 0 = .ok (.aload_n 0, 1) := by decide +kernel
theorem dX4_top_1 : decode cX4_top 1 = .ok (.getfield 43, 3) := by decide +kernel
theorem dX4_top_4 : decode cX4_top 4 = .ok (.ifCond .le 19, 3) := by decide +kernel
theorem dX4_top_7 : decode cX4_top 7 = .ok (.aload_n 0, 1) := by decide +kernel
theorem dX4_top_8 : decode cX4_top 8 = .ok (.getfield 26, 3) := by decide +kernel
theorem dX4_top_11 : decode cX4_top 11 = .ok (.aload_n 0, 1) := by decide +kernel
theorem dX4_top_12 : decode cX4_top 12 = .ok (.getfield 43, 3) := by decide +kernel
theorem dX4_top_15 : decode cX4_top 15 = .ok (.iconst 1, 1) := by decide +kernel
theorem dX4_top_16 : decode cX4_top 16 = .ok (.isub, 1) := by decide +kernel
theorem dX4_top_17 : decode cX4_top 17 = .ok (.invokevirtual 102, 3) := by decide +kernel
theorem dX4_top_20 : decode cX4_top 20 = .ok (.goto 4, 3) := by decide +kernel
theorem dX4_top_23 : decode cX4_top 23 = .ok (.iconst (-1), 1) := by decide +kernel
theorem dX4_top_24 : decode cX4_top 24 = .ok (.ireturn, 1) := by decide +kernel
def f_X4_top (v0 : XM) : Int32 :=
  if (v0.1 0 6) ≤ (0 : Int32) then
  (((-1 : Int32) : Int32))
  else (x_lt (r_get 40 (x_sub v0 7) ((v0.1 0 6) - (1 : Int32))) (fun y1 =>
  (y1 : Int32)))
set_option maxRecDepth 100000 in
set_option maxHeartbeats 4000000 in
theorem c_X4_top {l : Launch}  {ad0 : Nat → Nat} {v0 : XM}   {o : Int32} (h : f_X4_top v0 = o) : CT l yX4_top cX4_top 1 (some .int) 1 [(shSentence, ad0)] [v0] (fun aK => [.ref (ad0 0)]) (some (.int o)) True [v0] := by
  refine CT_of (by decide) (fun _ => Nat.le_of_ble_eq_true rfl) ?_
  intro p e s m args below meth c D tc aK aV A X
  have X : Cx p s m args meth c cX4_top 1 (some .int) RX4 D tc aK aV A [(shSentence, ad0)] := X
  show aW p l e (x_Rm 1) s m args below meth c D tc A 1 [(shSentence, ad0)] (some (.int o)) True [v0] 0 [(0, .ref (ad0 0))] [] [v0]
  unfold f_X4_top at h
  refine a_aload_n (pc := 0) X 0 dX4_top_0 rfl rfl ?_
  refine a_getI (pc := 1) X 0 fl_RX4_43 rfl rfl rfl rfl dX4_top_1 ?_
  refine a_if_le (pc := 4) X 23 dX4_top_4 rfl (fun c_4 => ?_) (fun c_4 => ?_)
  · have h := x_ifp c_4 h
    refine a_iconst (pc := 23) X dX4_top_23 q_ic_m1 ?_
    subst h
    exact a_iret (pc := 24) X trivial dX4_top_24
  · have h := x_ifn c_4 h
    refine a_aload_n (pc := 7) X 0 dX4_top_7 rfl rfl ?_
    refine a_getR (pc := 8) X 0 7 7 fl_RX4_26 rfl rfl rfl rfl rfl dX4_top_8 ?_
    refine a_aload_n (pc := 11) X 0 dX4_top_11 rfl rfl ?_
    refine a_getI (pc := 12) X 0 fl_RX4_43 rfl rfl rfl rfl dX4_top_12 ?_
    refine a_iconst (pc := 15) X dX4_top_15 q_ic_1 ?_
    refine a_isub (pc := 16) X dX4_top_16 ?_
    obtain ⟨y1, e_y1, h⟩ := x_lt_elim h
    refine a_callV (pc := 17) (st2 := [.int y1]) (vs2 := [v0]) X [(0, 7, 2)] [none] 0 7 3 [.int ((v0.1 0 6) - (1 : Int32))] [] cv_RX4_102 (ct_get (ad0 := (fun i => ad0 (i + 7))) (by decide) e_y1) rfl rfl rfl rfl rfl rfl rfl rfl rfl rfl rfl rfl rfl rfl rfl (Nat.le_of_ble_eq_true rfl) ⟨Nat.le_of_ble_eq_true rfl, Nat.le_of_ble_eq_true rfl⟩ dX4_top_17 (fun _ => ?_)
    refine a_goto (pc := 20) X 24 dX4_top_20 rfl ?_
    subst h
    exact a_iret (pc := 24) X trivial dX4_top_24
theorem dX4_settleNots_0 : decode cX4_settleNots 0 = .ok (.aload_n 0, 1) := by decide +kernel
theorem dX4_settleNots_1 : decode cX4_settleNots 1 = .ok (.getfield 43, 3) := by decide +kernel
theorem dX4_settleNots_4 : decode cX4_settleNots 4 = .ok (.ifCond .le 44, 3) := by decide +kernel
theorem dX4_settleNots_7 : decode cX4_settleNots 7 = .ok (.aload_n 0, 1) := by decide +kernel
theorem dX4_settleNots_8 : decode cX4_settleNots 8 = .ok (.invokevirtual 106, 3) := by decide +kernel
theorem dX4_settleNots_11 : decode cX4_settleNots 11 = .ok (.bipush 19, 2) := by decide +kernel
theorem dX4_settleNots_13 : decode cX4_settleNots 13 = .ok (.if_icmp .ne 35, 3) := by decide +kernel
theorem dX4_settleNots_16 : decode cX4_settleNots 16 = .ok (.aload_n 0, 1) := by decide +kernel
theorem dX4_settleNots_17 : decode cX4_settleNots 17 = .ok (.bipush 19, 2) := by decide +kernel
theorem dX4_settleNots_19 : decode cX4_settleNots 19 = .ok (.iconst 0, 1) := by decide +kernel
theorem dX4_settleNots_20 : decode cX4_settleNots 20 = .ok (.iconst 0, 1) := by decide +kernel
theorem dX4_settleNots_21 : decode cX4_settleNots 21 = .ok (.invokevirtual 94, 3) := by decide +kernel
theorem dX4_settleNots_24 : decode cX4_settleNots 24 = .ok (.pop, 1) := by decide +kernel
theorem dX4_settleNots_25 : decode cX4_settleNots 25 = .ok (.aload_n 0, 1) := by decide +kernel
theorem dX4_settleNots_26 : decode cX4_settleNots 26 = .ok (.dup, 1) := by decide +kernel
theorem dX4_settleNots_27 : decode cX4_settleNots 27 = .ok (.getfield 43, 3) := by decide +kernel
theorem dX4_settleNots_30 : decode cX4_settleNots 30 = .ok (.iconst 1, 1) := by decide +kernel
theorem dX4_settleNots_31 : decode cX4_settleNots 31 = .ok (.isub, 1) := by decide +kernel
theorem dX4_settleNots_32 : decode cX4_settleNots 32 = .ok (.putfield 43, 3) := by decide +kernel
theorem dX4_settleNots_35 : decode cX4_settleNots 35 = .ok (.aload_n 0, 1) := by decide +kernel
theorem dX4_settleNots_36 : decode cX4_settleNots 36 = .ok (.dup, 1) := by decide +kernel
theorem dX4_settleNots_37 : decode cX4_settleNots 37 = .ok (.getfield 46, 3) := by decide +kernel
theorem dX4_settleNots_40 : decode cX4_settleNots 40 = .ok (.iconst 1, 1) := by decide +kernel
theorem dX4_settleNots_41 : decode cX4_settleNots 41 = .ok (.isub, 1) := by decide +kernel
theorem dX4_settleNots_42 : decode cX4_settleNots 42 = .ok (.putfield 46, 3) := by decide +kernel
theorem dX4_settleNots_45 : decode cX4_settleNots 45 = .ok (.goto (-45), 3) := by decide +kernel
theorem dX4_settleNots_48 : decode cX4_settleNots 48 = .ok (.return_, 1) := by decide +kernel
def f_X4_settleNots_0 (k0 : XM → Option (XM)) (w0 : XM) : Option (XM) :=
  if (w0.1 0 6) ≤ (0 : Int32) then
  (some w0)
  else (x_lt (f_X4_top w0) (fun y1 =>
  if (y1 : Int32) = (19 : Int32) then
  (x_lt (f_X4_addStep w0 (19 : Int32) (0 : Int32) (0 : Int32)) (fun y2 =>
  x_lt (x_si y2.2 0 6 ((y2.2.1 0 6) - (1 : Int32))) (fun m3 =>
  x_lt (x_si m3 0 7 ((m3.1 0 7) - (1 : Int32))) (fun m4 =>
  k0 m4))))
  else (some w0)))
def f_X4_settleNots (v0 : XM) : Option (XM) :=
  x_lp (φ := XM → Option (XM)) (fun _ => none) (f_X4_settleNots_0  ) x_NN v0
set_option maxRecDepth 100000 in
set_option maxHeartbeats 4000000 in
theorem w_X4_settleNots_0 {p : Program} {l : Launch} {e : Env} {s : State} {m : MethodId} {args : Array Value} {below : List Frame} {meth : Method} {c : Code} {D : va_G} {tc : Nat → ClassId} {aK aV : Nat → Nat} {A : Nat → Prop} {ad0 : Nat → Nat}  (X : Cx p s m args meth c cX4_settleNots 1 none RX4 D tc aK aV A [(shSentence, ad0)])  {o : XM}  : ∀ (n : Nat), ∀ (w0 : XM), x_lp (φ := XM → Option (XM)) (fun _ => none) (f_X4_settleNots_0  ) n w0 = some o → aW p l e (x_Rm 2) s m args below meth c D tc A 1 [(shSentence, ad0)] none True [o] 0 [(0, .ref (ad0 0))] [] [w0] := by
  intro n
  induction n with
  | zero => intro w0 h; exact absurd h (fun q => by cases q)
  | succ n ih =>
    intro w0 h
    have h : f_X4_settleNots_0   (x_lp (φ := XM → Option (XM)) (fun _ => none) (f_X4_settleNots_0  ) n) w0 = some o := h
    generalize x_lp (φ := XM → Option (XM)) (fun _ => none) (f_X4_settleNots_0  ) n = k0 at h ih
    have hk0 := ih
    unfold f_X4_settleNots_0 at h
    refine a_aload_n (pc := 0) X 0 dX4_settleNots_0 rfl rfl ?_
    refine a_getI (pc := 1) X 0 fl_RX4_43 rfl rfl rfl rfl dX4_settleNots_1 ?_
    refine a_if_le (pc := 4) X 48 dX4_settleNots_4 rfl (fun c_4 => ?_) (fun c_4 => ?_)
    · have h := x_ifp c_4 h
      have h := Option.some.inj h; subst h
      exact a_vret (pc := 48) X trivial dX4_settleNots_48
    · have h := x_ifn c_4 h
      refine a_aload_n (pc := 7) X 0 dX4_settleNots_7 rfl rfl ?_
      obtain ⟨y1, e_y1, h⟩ := x_lt_elim h
      refine a_callV (pc := 8) (st2 := [.int y1]) (vs2 := [w0]) X [(0, 0, 9)] [none] 0 0 4 [] [] cv_RX4_106 (c_X4_top (ad0 := ad0)  e_y1) rfl rfl rfl rfl rfl rfl rfl rfl rfl rfl rfl rfl rfl rfl rfl (Nat.le_of_ble_eq_true rfl) ⟨Nat.le_of_ble_eq_true rfl, Nat.le_of_ble_eq_true rfl⟩ dX4_settleNots_8 (fun _ => ?_)
      refine a_bipush (pc := 11) X dX4_settleNots_11 q_bp_19 ?_
      refine a_icmp_ne (pc := 13) X 48 dX4_settleNots_13 rfl (fun c_13 => ?_) (fun c_13 => ?_)
      · have h := x_ifn c_13 h
        have h := Option.some.inj h; subst h
        exact a_vret (pc := 48) X trivial dX4_settleNots_48
      · have h := x_ifp c_13 h
        refine a_aload_n (pc := 16) X 0 dX4_settleNots_16 rfl rfl ?_
        refine a_bipush (pc := 17) X dX4_settleNots_17 q_bp_19 ?_
        refine a_iconst (pc := 19) X dX4_settleNots_19 q_ic_0 ?_
        refine a_iconst (pc := 20) X dX4_settleNots_20 q_ic_0 ?_
        obtain ⟨y2, e_y2, h⟩ := x_lt_elim h
        refine a_callV (pc := 21) (st2 := [.int y2.1]) (vs2 := [y2.2]) X [(0, 0, 9)] [some y2.2] 0 0 4 [.int (19 : Int32), .int (0 : Int32), .int (0 : Int32)] [] cv_RX4_94 (c_X4_addStep (ad0 := ad0)  e_y2) rfl rfl rfl rfl rfl rfl rfl rfl rfl rfl rfl rfl rfl rfl rfl (Nat.le_of_ble_eq_true rfl) ⟨Nat.le_of_ble_eq_true rfl, Nat.le_of_ble_eq_true rfl⟩ dX4_settleNots_21 (fun z_21 => ?_)
        refine a_pop (pc := 24) X dX4_settleNots_24 rfl ?_
        refine a_aload_n (pc := 25) X 0 dX4_settleNots_25 rfl rfl ?_
        refine a_dup (pc := 26) X dX4_settleNots_26 rfl ?_
        refine a_getI (pc := 27) X 0 fl_RX4_43 rfl rfl rfl rfl dX4_settleNots_27 ?_
        refine a_iconst (pc := 30) X dX4_settleNots_30 q_ic_1 ?_
        refine a_isub (pc := 31) X dX4_settleNots_31 ?_
        refine a_putI (pc := 32) X 0 fl_RX4_43 rfl rfl rfl rfl dX4_settleNots_32 ?_
        obtain ⟨m3, e_m3, h⟩ := x_lt_elim h
        refine a_nm (vs2 := [m3]) (congrArg (fun q : XM => [q]) e_m3) ?_
        refine a_aload_n (pc := 35) X 0 dX4_settleNots_35 rfl rfl ?_
        refine a_dup (pc := 36) X dX4_settleNots_36 rfl ?_
        refine a_getI (pc := 37) X 0 fl_RX4_46 rfl rfl rfl rfl dX4_settleNots_37 ?_
        refine a_iconst (pc := 40) X dX4_settleNots_40 q_ic_1 ?_
        refine a_isub (pc := 41) X dX4_settleNots_41 ?_
        refine a_putI (pc := 42) X 0 fl_RX4_46 rfl rfl rfl rfl dX4_settleNots_42 ?_
        obtain ⟨m4, e_m4, h⟩ := x_lt_elim h
        refine a_nm (vs2 := [m4]) (congrArg (fun q : XM => [q]) e_m4) ?_
        refine a_goto (pc := 45) X 0 dX4_settleNots_45 rfl ?_
        exact hk0 _ h
set_option maxRecDepth 100000 in
set_option maxHeartbeats 4000000 in
theorem c_X4_settleNots {l : Launch}  {ad0 : Nat → Nat} {v0 : XM}   {o : XM} (h : f_X4_settleNots v0 = some o) : CT l yX4_settleNots cX4_settleNots 1 none 2 [(shSentence, ad0)] [v0] (fun aK => [.ref (ad0 0)]) none True [o] := by
  refine CT_of (by decide) (fun _ => Nat.le_of_ble_eq_true rfl) ?_
  intro p e s m args below meth c D tc aK aV A X
  have X : Cx p s m args meth c cX4_settleNots 1 none RX4 D tc aK aV A [(shSentence, ad0)] := X
  show aW p l e (x_Rm 2) s m args below meth c D tc A 1 [(shSentence, ad0)] none True [o] 0 [(0, .ref (ad0 0))] [] [v0]
  unfold f_X4_settleNots at h
  exact w_X4_settleNots_0 X    x_NN _ h
theorem dX4_readOne_0 : decode cX4_readOne 0 = .ok (.aload_n 1, 1) := by decide +kernel
theorem dX4_readOne_1 : decode cX4_readOne 1 = .ok (.getfield 70, 3) := by decide +kernel
theorem dX4_readOne_4 : decode cX4_readOne 4 = .ok (.bipush 40, 2) := by decide +kernel
theorem dX4_readOne_6 : decode cX4_readOne 6 = .ok (.if_icmp .eq 21, 3) := by decide +kernel
theorem dX4_readOne_9 : decode cX4_readOne 9 = .ok (.iload_n 3, 1) := by decide +kernel
theorem dX4_readOne_10 : decode cX4_readOne 10 = .ok (.bipush 19, 2) := by decide +kernel
theorem dX4_readOne_12 : decode cX4_readOne 12 = .ok (.if_icmp .lt 9, 3) := by decide +kernel
theorem dX4_readOne_15 : decode cX4_readOne 15 = .ok (.iload_n 3, 1) := by decide +kernel
theorem dX4_readOne_16 : decode cX4_readOne 16 = .ok (.bipush 28, 2) := by decide +kernel
theorem dX4_readOne_18 : decode cX4_readOne 18 = .ok (.if_icmp .le 9, 3) := by decide +kernel
theorem dX4_readOne_21 : decode cX4_readOne 21 = .ok (.aload_n 1, 1) := by decide +kernel
theorem dX4_readOne_22 : decode cX4_readOne 22 = .ok (.iconst 1, 1) := by decide +kernel
theorem dX4_readOne_23 : decode cX4_readOne 23 = .ok (.invokevirtual 76, 3) := by decide +kernel
theorem dX4_readOne_26 : decode cX4_readOne 26 = .ok (.ireturn, 1) := by decide +kernel
theorem dX4_readOne_27 : decode cX4_readOne 27 = .ok (.aload_n 0, 1) := by decide +kernel
theorem dX4_readOne_28 : decode cX4_readOne 28 = .ok (.getfield 29, 3) := by decide +kernel
theorem dX4_readOne_31 : decode cX4_readOne 31 = .ok (.bipush 20, 2) := by decide +kernel
theorem dX4_readOne_33 : decode cX4_readOne 33 = .ok (.if_icmp .ge 12, 3) := by decide +kernel
theorem dX4_readOne_36 : decode cX4_readOne 36 = .ok (.aload_n 0, 1) := by decide +kernel
theorem dX4_readOne_37 : decode cX4_readOne 37 = .ok (.getfield 46, 3) := by decide +kernel
theorem dX4_readOne_40 : decode cX4_readOne 40 = .ok (.bipush 8, 2) := by decide +kernel
theorem dX4_readOne_42 : decode cX4_readOne 42 = .ok (.if_icmp .lt 9, 3) := by decide +kernel
theorem dX4_readOne_45 : decode cX4_readOne 45 = .ok (.aload_n 1, 1) := by decide +kernel
theorem dX4_readOne_46 : decode cX4_readOne 46 = .ok (.iconst 4, 1) := by decide +kernel
theorem dX4_readOne_47 : decode cX4_readOne 47 = .ok (.invokevirtual 76, 3) := by decide +kernel
theorem dX4_readOne_50 : decode cX4_readOne 50 = .ok (.ireturn, 1) := by decide +kernel
theorem dX4_readOne_51 : decode cX4_readOne 51 = .ok (.aload_n 0, 1) := by decide +kernel
theorem dX4_readOne_52 : decode cX4_readOne 52 = .ok (.dup, 1) := by decide +kernel
theorem dX4_readOne_53 : decode cX4_readOne 53 = .ok (.getfield 29, 3) := by decide +kernel
theorem dX4_readOne_56 : decode cX4_readOne 56 = .ok (.iconst 1, 1) := by decide +kernel
theorem dX4_readOne_57 : decode cX4_readOne 57 = .ok (.iadd, 1) := by decide +kernel
theorem dX4_readOne_58 : decode cX4_readOne 58 = .ok (.putfield 29, 3) := by decide +kernel
theorem dX4_readOne_61 : decode cX4_readOne 61 = .ok (.aload_n 1, 1) := by decide +kernel
theorem dX4_readOne_62 : decode cX4_readOne 62 = .ok (.invokevirtual 67, 3) := by decide +kernel
theorem dX4_readOne_65 : decode cX4_readOne 65 = .ok (.iload_n 3, 1) := by decide +kernel
theorem dX4_readOne_66 : decode cX4_readOne 66 = .ok (.bipush 19, 2) := by decide +kernel
theorem dX4_readOne_68 : decode cX4_readOne 68 = .ok (.if_icmp .eq 8, 3) := by decide +kernel
theorem dX4_readOne_71 : decode cX4_readOne 71 = .ok (.iload_n 3, 1) := by decide +kernel
theorem dX4_readOne_72 : decode cX4_readOne 72 = .ok (.iconst (-1), 1) := by decide +kernel
theorem dX4_readOne_73 : decode cX4_readOne 73 = .ok (.if_icmp .ne 20, 3) := by decide +kernel
theorem dX4_readOne_76 : decode cX4_readOne 76 = .ok (.aload_n 0, 1) := by decide +kernel
theorem dX4_readOne_77 : decode cX4_readOne 77 = .ok (.iload_n 3, 1) := by decide +kernel
theorem dX4_readOne_78 : decode cX4_readOne 78 = .ok (.invokevirtual 64, 3) := by decide +kernel
theorem dX4_readOne_81 : decode cX4_readOne 81 = .ok (.aload_n 0, 1) := by decide +kernel
theorem dX4_readOne_82 : decode cX4_readOne 82 = .ok (.dup, 1) := by decide +kernel
theorem dX4_readOne_83 : decode cX4_readOne 83 = .ok (.getfield 46, 3) := by decide +kernel
theorem dX4_readOne_86 : decode cX4_readOne 86 = .ok (.iconst 1, 1) := by decide +kernel
theorem dX4_readOne_87 : decode cX4_readOne 87 = .ok (.iadd, 1) := by decide +kernel
theorem dX4_readOne_88 : decode cX4_readOne 88 = .ok (.putfield 46, 3) := by decide +kernel
theorem dX4_readOne_91 : decode cX4_readOne 91 = .ok (.iconst 1, 1) := by decide +kernel
theorem dX4_readOne_92 : decode cX4_readOne 92 = .ok (.ireturn, 1) := by decide +kernel
theorem dX4_readOne_93 : decode cX4_readOne 93 = .ok (.aload_n 0, 1) := by decide +kernel
theorem dX4_readOne_94 : decode cX4_readOne 94 = .ok (.aload_n 1, 1) := by decide +kernel
theorem dX4_readOne_95 : decode cX4_readOne 95 = .ok (.aload_n 2, 1) := by decide +kernel
theorem dX4_readOne_96 : decode cX4_readOne 96 = .ok (.iload_n 3, 1) := by decide +kernel
theorem dX4_readOne_97 : decode cX4_readOne 97 = .ok (.invokevirtual 80, 3) := by decide +kernel
theorem dX4_readOne_100 : decode cX4_readOne 100 = .ok (.ifCond .ne 5, 3) := by decide +kernel
theorem dX4_readOne_103 : decode cX4_readOne 103 = .ok (.iconst 0, 1) := by decide +kernel
theorem dX4_readOne_104 : decode cX4_readOne 104 = .ok (.ireturn, 1) := by decide +kernel
theorem dX4_readOne_105 : decode cX4_readOne 105 = .ok (.aload_n 0, 1) := by decide +kernel
theorem dX4_readOne_106 : decode cX4_readOne 106 = .ok (.invokevirtual 83, 3) := by decide +kernel
theorem dX4_readOne_109 : decode cX4_readOne 109 = .ok (.iconst 1, 1) := by decide +kernel
theorem dX4_readOne_110 : decode cX4_readOne 110 = .ok (.ireturn, 1) := by decide +kernel
def f_X4_readOne_21 (v2 : XM) (w0 : XM) (w1 : XM) : Option (Int32 × XM × XM) :=
  x_lt (f_X8_refuse w1 (1 : Int32)) (fun y1 =>
  some (y1.1, w0, y1.2))
def f_X4_readOne_45 (v2 : XM) (w0 : XM) (w1 : XM) : Option (Int32 × XM × XM) :=
  x_lt (f_X8_refuse w1 (4 : Int32)) (fun y2 =>
  some (y2.1, w0, y2.2))
def f_X4_readOne_76 (v2 : XM) (w0 : XM) (w1 : XM) (l3 : Int32) : Option (Int32 × XM × XM) :=
  x_lt (f_X4_push w0 l3) (fun y3 =>
  x_lt (x_si y3 0 7 ((y3.1 0 7) + (1 : Int32))) (fun m4 =>
  some ((1 : Int32), m4, w1)))
def f_X4_readOne_27 (v2 : XM) (w0 : XM) (w1 : XM) (l3 : Int32) : Option (Int32 × XM × XM) :=
  if ((20 : Int32) : Int32) ≤ (w0.1 0 0) then
  (f_X4_readOne_45 v2  w0 w1)
  else (if ((w0.1 0 7) : Int32) < (8 : Int32) then
  (x_lt (x_si w0 0 0 ((w0.1 0 0) + (1 : Int32))) (fun m5 =>
  x_bo (f_X8_advance w1) (fun y6 =>
  if (l3 : Int32) = (19 : Int32) then
  (f_X4_readOne_76 v2  m5 y6 l3)
  else (if (l3 : Int32) = (-1 : Int32) then
  (f_X4_readOne_76 v2  m5 y6 l3)
  else (x_bo (f_X4_readPlain m5 y6 v2 l3) (fun y7 =>
  if y7.1 = (0 : Int32) then
  (some ((0 : Int32), y7.2.1, y7.2.2))
  else (x_bo (f_X4_settleNots y7.2.1) (fun y8 =>
  some ((1 : Int32), y8, y7.2.2)))))))))
  else (f_X4_readOne_45 v2  w0 w1))
def f_X4_readOne (v0 : XM) (v1 : XM) (v2 : XM) (x2 : Int32) : Option (Int32 × XM × XM) :=
  if ((v1.1 0 6) : Int32) = (40 : Int32) then
  (f_X4_readOne_27 v2  v0 v1 x2)
  else (if (x2 : Int32) < (19 : Int32) then
  (f_X4_readOne_21 v2  v0 v1)
  else (if (x2 : Int32) ≤ (28 : Int32) then
  (f_X4_readOne_27 v2  v0 v1 x2)
  else (f_X4_readOne_21 v2  v0 v1)))
set_option maxRecDepth 100000 in
set_option maxHeartbeats 4000000 in
theorem w_X4_readOne_21 {p : Program} {l : Launch} {e : Env} {s : State} {m : MethodId} {args : Array Value} {below : List Frame} {meth : Method} {c : Code} {D : va_G} {tc : Nat → ClassId} {aK aV : Nat → Nat} {A : Nat → Prop} {ad0 : Nat → Nat} {ad1 : Nat → Nat} {ad2 : Nat → Nat} {v2 : XM} (X : Cx p s m args meth c cX4_readOne 4 (some .boolean) RX4 D tc aK aV A [(shSentence, ad0), (shTape, ad1), (shValley, ad2)])  {o : Int32 × XM × XM}  {w0 : XM} {w1 : XM}  (h : f_X4_readOne_21 v2  w0 w1 = some o) : aW p l e (x_Rm 5) s m args below meth c D tc A 4 [(shSentence, ad0), (shTape, ad1), (shValley, ad2)] (some (.int o.1)) (x_Z o.1) [o.2.1, o.2.2, v2] 21 [(1, .ref (ad1 0))] [] [w0, w1, v2] := by
  unfold f_X4_readOne_21 at h
  refine a_aload_n (pc := 21) X 0 dX4_readOne_21 rfl rfl ?_
  refine a_iconst (pc := 22) X dX4_readOne_22 q_ic_1 ?_
  obtain ⟨y1, e_y1, h⟩ := x_lt_elim h
  refine a_callV (pc := 23) (st2 := [.int y1.1]) (vs2 := [w0, y1.2, v2]) X [(1, 0, 4)] [some y1.2] 1 0 8 [.int (1 : Int32)] [] cv_RX4_76 (c_X8_refuse (ad0 := ad1)  e_y1) rfl rfl rfl rfl rfl rfl rfl rfl rfl rfl rfl rfl rfl rfl rfl (Nat.le_of_ble_eq_true rfl) ⟨Nat.le_of_ble_eq_true rfl, Nat.le_of_ble_eq_true rfl⟩ dX4_readOne_23 (fun z_23 => ?_)
  have h := Option.some.inj h; subst h
  exact a_zret (pc := 26) X z_23 z_23 dX4_readOne_26
set_option maxRecDepth 100000 in
set_option maxHeartbeats 4000000 in
theorem w_X4_readOne_45 {p : Program} {l : Launch} {e : Env} {s : State} {m : MethodId} {args : Array Value} {below : List Frame} {meth : Method} {c : Code} {D : va_G} {tc : Nat → ClassId} {aK aV : Nat → Nat} {A : Nat → Prop} {ad0 : Nat → Nat} {ad1 : Nat → Nat} {ad2 : Nat → Nat} {v2 : XM} (X : Cx p s m args meth c cX4_readOne 4 (some .boolean) RX4 D tc aK aV A [(shSentence, ad0), (shTape, ad1), (shValley, ad2)])  {o : Int32 × XM × XM}  {w0 : XM} {w1 : XM}  (h : f_X4_readOne_45 v2  w0 w1 = some o) : aW p l e (x_Rm 5) s m args below meth c D tc A 4 [(shSentence, ad0), (shTape, ad1), (shValley, ad2)] (some (.int o.1)) (x_Z o.1) [o.2.1, o.2.2, v2] 45 [(1, .ref (ad1 0))] [] [w0, w1, v2] := by
  unfold f_X4_readOne_45 at h
  refine a_aload_n (pc := 45) X 0 dX4_readOne_45 rfl rfl ?_
  refine a_iconst (pc := 46) X dX4_readOne_46 q_ic_4 ?_
  obtain ⟨y2, e_y2, h⟩ := x_lt_elim h
  refine a_callV (pc := 47) (st2 := [.int y2.1]) (vs2 := [w0, y2.2, v2]) X [(1, 0, 4)] [some y2.2] 1 0 8 [.int (4 : Int32)] [] cv_RX4_76 (c_X8_refuse (ad0 := ad1)  e_y2) rfl rfl rfl rfl rfl rfl rfl rfl rfl rfl rfl rfl rfl rfl rfl (Nat.le_of_ble_eq_true rfl) ⟨Nat.le_of_ble_eq_true rfl, Nat.le_of_ble_eq_true rfl⟩ dX4_readOne_47 (fun z_47 => ?_)
  have h := Option.some.inj h; subst h
  exact a_zret (pc := 50) X z_47 z_47 dX4_readOne_50
set_option maxRecDepth 100000 in
set_option maxHeartbeats 4000000 in
theorem w_X4_readOne_76 {p : Program} {l : Launch} {e : Env} {s : State} {m : MethodId} {args : Array Value} {below : List Frame} {meth : Method} {c : Code} {D : va_G} {tc : Nat → ClassId} {aK aV : Nat → Nat} {A : Nat → Prop} {ad0 : Nat → Nat} {ad1 : Nat → Nat} {ad2 : Nat → Nat} {v2 : XM} (X : Cx p s m args meth c cX4_readOne 4 (some .boolean) RX4 D tc aK aV A [(shSentence, ad0), (shTape, ad1), (shValley, ad2)])  {o : Int32 × XM × XM}  {w0 : XM} {w1 : XM} {l3 : Int32}  (h : f_X4_readOne_76 v2  w0 w1 l3 = some o) : aW p l e (x_Rm 5) s m args below meth c D tc A 4 [(shSentence, ad0), (shTape, ad1), (shValley, ad2)] (some (.int o.1)) (x_Z o.1) [o.2.1, o.2.2, v2] 76 [(0, .ref (ad0 0)), (3, .int l3)] [] [w0, w1, v2] := by
  unfold f_X4_readOne_76 at h
  refine a_aload_n (pc := 76) X 0 dX4_readOne_76 rfl rfl ?_
  refine a_iload_n (pc := 77) X 1 dX4_readOne_77 rfl rfl ?_
  obtain ⟨y3, e_y3, h⟩ := x_lt_elim h
  refine a_callV (pc := 78) (st2 := []) (vs2 := [y3, w1, v2]) X [(0, 0, 9)] [some y3] 0 0 4 [.int l3] [] cv_RX4_64 (c_X4_push (ad0 := ad0)  e_y3) rfl rfl rfl rfl rfl rfl rfl rfl rfl rfl rfl rfl rfl rfl rfl (Nat.le_of_ble_eq_true rfl) ⟨Nat.le_of_ble_eq_true rfl, Nat.le_of_ble_eq_true rfl⟩ dX4_readOne_78 (fun _ => ?_)
  refine a_aload_n (pc := 81) X 0 dX4_readOne_81 rfl rfl ?_
  refine a_dup (pc := 82) X dX4_readOne_82 rfl ?_
  refine a_getI (pc := 83) X 0 fl_RX4_46 rfl rfl rfl rfl dX4_readOne_83 ?_
  refine a_iconst (pc := 86) X dX4_readOne_86 q_ic_1 ?_
  refine a_iadd (pc := 87) X dX4_readOne_87 ?_
  refine a_putI (pc := 88) X 0 fl_RX4_46 rfl rfl rfl rfl dX4_readOne_88 ?_
  obtain ⟨m4, e_m4, h⟩ := x_lt_elim h
  refine a_nm (vs2 := [m4, w1, v2]) (congrArg (fun q : XM => [q, w1, v2]) e_m4) ?_
  refine a_iconst (pc := 91) X dX4_readOne_91 q_ic_1 ?_
  have h := Option.some.inj h; subst h
  exact a_zret (pc := 92) X x_Z1 x_Z1 dX4_readOne_92
set_option maxRecDepth 100000 in
set_option maxHeartbeats 4000000 in
theorem w_X4_readOne_27 {p : Program} {l : Launch} {e : Env} {s : State} {m : MethodId} {args : Array Value} {below : List Frame} {meth : Method} {c : Code} {D : va_G} {tc : Nat → ClassId} {aK aV : Nat → Nat} {A : Nat → Prop} {ad0 : Nat → Nat} {ad1 : Nat → Nat} {ad2 : Nat → Nat} {v2 : XM} (X : Cx p s m args meth c cX4_readOne 4 (some .boolean) RX4 D tc aK aV A [(shSentence, ad0), (shTape, ad1), (shValley, ad2)])  {o : Int32 × XM × XM}  {w0 : XM} {w1 : XM} {l3 : Int32}  (h : f_X4_readOne_27 v2  w0 w1 l3 = some o) : aW p l e (x_Rm 5) s m args below meth c D tc A 4 [(shSentence, ad0), (shTape, ad1), (shValley, ad2)] (some (.int o.1)) (x_Z o.1) [o.2.1, o.2.2, v2] 27 [(0, .ref (ad0 0)), (1, .ref (ad1 0)), (2, .ref (ad2 0)), (3, .int l3)] [] [w0, w1, v2] := by
  unfold f_X4_readOne_27 at h
  refine a_aload_n (pc := 27) X 0 dX4_readOne_27 rfl rfl ?_
  refine a_getI (pc := 28) X 0 fl_RX4_29 rfl rfl rfl rfl dX4_readOne_28 ?_
  refine a_bipush (pc := 31) X dX4_readOne_31 q_bp_20 ?_
  refine a_icmp_ge (pc := 33) X 45 dX4_readOne_33 rfl (fun c_33 => ?_) (fun c_33 => ?_)
  · have h := x_ifp c_33 h
    refine a_sub [1] rfl ?_
    exact w_X4_readOne_45 X     h
  · have h := x_ifn c_33 h
    refine a_aload_n (pc := 36) X 0 dX4_readOne_36 rfl rfl ?_
    refine a_getI (pc := 37) X 0 fl_RX4_46 rfl rfl rfl rfl dX4_readOne_37 ?_
    refine a_bipush (pc := 40) X dX4_readOne_40 q_bp_8 ?_
    refine a_icmp_lt (pc := 42) X 51 dX4_readOne_42 rfl (fun c_42 => ?_) (fun c_42 => ?_)
    · have h := x_ifp c_42 h
      refine a_aload_n (pc := 51) X 0 dX4_readOne_51 rfl rfl ?_
      refine a_dup (pc := 52) X dX4_readOne_52 rfl ?_
      refine a_getI (pc := 53) X 0 fl_RX4_29 rfl rfl rfl rfl dX4_readOne_53 ?_
      refine a_iconst (pc := 56) X dX4_readOne_56 q_ic_1 ?_
      refine a_iadd (pc := 57) X dX4_readOne_57 ?_
      refine a_putI (pc := 58) X 0 fl_RX4_29 rfl rfl rfl rfl dX4_readOne_58 ?_
      obtain ⟨m5, e_m5, h⟩ := x_lt_elim h
      refine a_nm (vs2 := [m5, w1, v2]) (congrArg (fun q : XM => [q, w1, v2]) e_m5) ?_
      refine a_aload_n (pc := 61) X 1 dX4_readOne_61 rfl rfl ?_
      obtain ⟨y6, e_y6, h⟩ := x_bo_elim h
      refine a_callV (pc := 62) (st2 := []) (vs2 := [m5, y6, v2]) X [(1, 0, 4)] [some y6] 1 0 8 [] [] cv_RX4_67 (c_X8_advance (ad0 := ad1)  e_y6) rfl rfl rfl rfl rfl rfl rfl rfl rfl rfl rfl rfl rfl rfl rfl (Nat.le_of_ble_eq_true rfl) ⟨Nat.le_of_ble_eq_true rfl, Nat.le_of_ble_eq_true rfl⟩ dX4_readOne_62 (fun _ => ?_)
      refine a_iload_n (pc := 65) X 3 dX4_readOne_65 rfl rfl ?_
      refine a_bipush (pc := 66) X dX4_readOne_66 q_bp_19 ?_
      refine a_icmp_eq (pc := 68) X 76 dX4_readOne_68 rfl (fun c_68 => ?_) (fun c_68 => ?_)
      · have h := x_ifp c_68 h
        refine a_sub [0, 3] rfl ?_
        exact w_X4_readOne_76 X     h
      · have h := x_ifn c_68 h
        refine a_iload_n (pc := 71) X 3 dX4_readOne_71 rfl rfl ?_
        refine a_iconst (pc := 72) X dX4_readOne_72 q_ic_m1 ?_
        refine a_icmp_ne (pc := 73) X 93 dX4_readOne_73 rfl (fun c_73 => ?_) (fun c_73 => ?_)
        · have h := x_ifn c_73 h
          refine a_aload_n (pc := 93) X 0 dX4_readOne_93 rfl rfl ?_
          refine a_aload_n (pc := 94) X 1 dX4_readOne_94 rfl rfl ?_
          refine a_aload_n (pc := 95) X 2 dX4_readOne_95 rfl rfl ?_
          refine a_iload_n (pc := 96) X 3 dX4_readOne_96 rfl rfl ?_
          obtain ⟨y7, e_y7, h⟩ := x_bo_elim h
          refine a_callV (pc := 97) (st2 := [.int y7.1]) (vs2 := [y7.2.1, y7.2.2, v2]) X [(0, 0, 9), (1, 0, 4), (2, 0, 16)] [some y7.2.1, some y7.2.2, none] 0 0 4 [.ref (ad1 0), .ref (ad2 0), .int l3] [] cv_RX4_80 (c_X4_readPlain (ad0 := ad0) (ad1 := ad1) (ad2 := ad2)  e_y7) rfl rfl rfl rfl rfl rfl rfl rfl rfl rfl rfl rfl rfl rfl rfl (Nat.le_of_ble_eq_true rfl) ⟨Nat.le_of_ble_eq_true rfl, Nat.le_of_ble_eq_true rfl⟩ dX4_readOne_97 (fun z_97 => ?_)
          refine a_if_ne (pc := 100) X 105 dX4_readOne_100 rfl (fun c_100 => ?_) (fun c_100 => ?_)
          · have h := x_ifn c_100 h
            refine a_aload_n (pc := 105) X 0 dX4_readOne_105 rfl rfl ?_
            obtain ⟨y8, e_y8, h⟩ := x_bo_elim h
            refine a_callV (pc := 106) (st2 := []) (vs2 := [y8, y7.2.2, v2]) X [(0, 0, 9)] [some y8] 0 0 4 [] [] cv_RX4_83 (c_X4_settleNots (ad0 := ad0)  e_y8) rfl rfl rfl rfl rfl rfl rfl rfl rfl rfl rfl rfl rfl rfl rfl (Nat.le_of_ble_eq_true rfl) ⟨Nat.le_of_ble_eq_true rfl, Nat.le_of_ble_eq_true rfl⟩ dX4_readOne_106 (fun _ => ?_)
            refine a_iconst (pc := 109) X dX4_readOne_109 q_ic_1 ?_
            have h := Option.some.inj h; subst h
            exact a_zret (pc := 110) X x_Z1 x_Z1 dX4_readOne_110
          · have h := x_ifp c_100 h
            refine a_iconst (pc := 103) X dX4_readOne_103 q_ic_0 ?_
            have h := Option.some.inj h; subst h
            exact a_zret (pc := 104) X x_Z0 x_Z0 dX4_readOne_104
        · have h := x_ifp c_73 h
          refine a_sub [0, 3] rfl ?_
          exact w_X4_readOne_76 X     h
    · have h := x_ifn c_42 h
      refine a_sub [1] rfl ?_
      exact w_X4_readOne_45 X     h
set_option maxRecDepth 100000 in
set_option maxHeartbeats 4000000 in
theorem c_X4_readOne {l : Launch}  {ad0 : Nat → Nat} {ad1 : Nat → Nat} {ad2 : Nat → Nat} {v0 v1 v2 : XM} {x2 : Int32}  {o : Int32 × XM × XM} (h : f_X4_readOne v0 v1 v2 x2 = some o) : CT l yX4_readOne cX4_readOne 4 (some .boolean) 5 [(shSentence, ad0), (shTape, ad1), (shValley, ad2)] [v0, v1, v2] (fun aK => [.ref (ad0 0), .ref (ad1 0), .ref (ad2 0), .int x2]) (some (.int o.1)) (x_Z o.1) [o.2.1, o.2.2, v2] := by
  refine CT_of (by decide) (fun _ => Nat.le_of_ble_eq_true rfl) ?_
  intro p e s m args below meth c D tc aK aV A X
  have X : Cx p s m args meth c cX4_readOne 4 (some .boolean) RX4 D tc aK aV A [(shSentence, ad0), (shTape, ad1), (shValley, ad2)] := X
  show aW p l e (x_Rm 5) s m args below meth c D tc A 4 [(shSentence, ad0), (shTape, ad1), (shValley, ad2)] (some (.int o.1)) (x_Z o.1) [o.2.1, o.2.2, v2] 0 [(0, .ref (ad0 0)), (1, .ref (ad1 0)), (2, .ref (ad2 0)), (3, .int x2)] [] [v0, v1, v2]
  unfold f_X4_readOne at h
  refine a_aload_n (pc := 0) X 1 dX4_readOne_0 rfl rfl ?_
  refine a_getI (pc := 1) X 1 fl_RX4_70 rfl rfl rfl rfl dX4_readOne_1 ?_
  refine a_bipush (pc := 4) X dX4_readOne_4 q_bp_40 ?_
  refine a_icmp_eq (pc := 6) X 27 dX4_readOne_6 rfl (fun c_6 => ?_) (fun c_6 => ?_)
  · have h := x_ifp c_6 h
    exact w_X4_readOne_27 X     h
  · have h := x_ifn c_6 h
    refine a_iload_n (pc := 9) X 3 dX4_readOne_9 rfl rfl ?_
    refine a_bipush (pc := 10) X dX4_readOne_10 q_bp_19 ?_
    refine a_icmp_lt (pc := 12) X 21 dX4_readOne_12 rfl (fun c_12 => ?_) (fun c_12 => ?_)
    · have h := x_ifp c_12 h
      refine a_sub [1] rfl ?_
      exact w_X4_readOne_21 X     h
    · have h := x_ifn c_12 h
      refine a_iload_n (pc := 15) X 3 dX4_readOne_15 rfl rfl ?_
      refine a_bipush (pc := 16) X dX4_readOne_16 q_bp_28 ?_
      refine a_icmp_le (pc := 18) X 27 dX4_readOne_18 rfl (fun c_18 => ?_) (fun c_18 => ?_)
      · have h := x_ifp c_18 h
        exact w_X4_readOne_27 X     h
      · have h := x_ifn c_18 h
        refine a_sub [1] rfl ?_
        exact w_X4_readOne_21 X     h
theorem dX4_settle_0 : decode cX4_settle 0 = .ok (.aload_n 0, 1) := by decide +kernel
theorem dX4_settle_1 : decode cX4_settle 1 = .ok (.getfield 43, 3) := by decide +kernel
theorem dX4_settle_4 : decode cX4_settle 4 = .ok (.ifCond .le 44, 3) := by decide +kernel
theorem dX4_settle_7 : decode cX4_settle 7 = .ok (.aload_n 0, 1) := by decide +kernel
theorem dX4_settle_8 : decode cX4_settle 8 = .ok (.invokevirtual 106, 3) := by decide +kernel
theorem dX4_settle_11 : decode cX4_settle 11 = .ok (.bipush 18, 2) := by decide +kernel
theorem dX4_settle_13 : decode cX4_settle 13 = .ok (.if_icmp .eq 11, 3) := by decide +kernel
theorem dX4_settle_16 : decode cX4_settle 16 = .ok (.aload_n 0, 1) := by decide +kernel
theorem dX4_settle_17 : decode cX4_settle 17 = .ok (.invokevirtual 106, 3) := by decide +kernel
theorem dX4_settle_20 : decode cX4_settle 20 = .ok (.iload_n 1, 1) := by decide +kernel
theorem dX4_settle_21 : decode cX4_settle 21 = .ok (.if_icmp .ne 27, 3) := by decide +kernel
theorem dX4_settle_24 : decode cX4_settle 24 = .ok (.aload_n 0, 1) := by decide +kernel
theorem dX4_settle_25 : decode cX4_settle 25 = .ok (.aload_n 0, 1) := by decide +kernel
theorem dX4_settle_26 : decode cX4_settle 26 = .ok (.invokevirtual 106, 3) := by decide +kernel
theorem dX4_settle_29 : decode cX4_settle 29 = .ok (.iconst 0, 1) := by decide +kernel
theorem dX4_settle_30 : decode cX4_settle 30 = .ok (.iconst 0, 1) := by decide +kernel
theorem dX4_settle_31 : decode cX4_settle 31 = .ok (.invokevirtual 94, 3) := by decide +kernel
theorem dX4_settle_34 : decode cX4_settle 34 = .ok (.pop, 1) := by decide +kernel
theorem dX4_settle_35 : decode cX4_settle 35 = .ok (.aload_n 0, 1) := by decide +kernel
theorem dX4_settle_36 : decode cX4_settle 36 = .ok (.dup, 1) := by decide +kernel
theorem dX4_settle_37 : decode cX4_settle 37 = .ok (.getfield 43, 3) := by decide +kernel
theorem dX4_settle_40 : decode cX4_settle 40 = .ok (.iconst 1, 1) := by decide +kernel
theorem dX4_settle_41 : decode cX4_settle 41 = .ok (.isub, 1) := by decide +kernel
theorem dX4_settle_42 : decode cX4_settle 42 = .ok (.putfield 43, 3) := by decide +kernel
theorem dX4_settle_45 : decode cX4_settle 45 = .ok (.goto (-45), 3) := by decide +kernel
theorem dX4_settle_48 : decode cX4_settle 48 = .ok (.return_, 1) := by decide +kernel
def f_X4_settle_24 (k0 : XM → Int32 → Option (XM)) (w0 : XM) (l1 : Int32) : Option (XM) :=
  x_lt (f_X4_top w0) (fun y1 =>
  x_lt (f_X4_addStep w0 y1 (0 : Int32) (0 : Int32)) (fun y2 =>
  x_lt (x_si y2.2 0 6 ((y2.2.1 0 6) - (1 : Int32))) (fun m3 =>
  k0 m3 l1)))
def f_X4_settle_0 (k0 : XM → Int32 → Option (XM)) (w0 : XM) (l1 : Int32) : Option (XM) :=
  if (w0.1 0 6) ≤ (0 : Int32) then
  (some w0)
  else (x_lt (f_X4_top w0) (fun y4 =>
  if (y4 : Int32) = (18 : Int32) then
  (f_X4_settle_24  k0 w0 l1)
  else (x_lt (f_X4_top w0) (fun y5 =>
  if (y5 : Int32) = l1 then
  (f_X4_settle_24  k0 w0 l1)
  else (some w0)))))
def f_X4_settle (v0 : XM) (x0 : Int32) : Option (XM) :=
  x_lp (φ := XM → Int32 → Option (XM)) (fun _ _ => none) (f_X4_settle_0  ) x_NN v0 x0
set_option maxRecDepth 100000 in
set_option maxHeartbeats 4000000 in
theorem w_X4_settle_24 {p : Program} {l : Launch} {e : Env} {s : State} {m : MethodId} {args : Array Value} {below : List Frame} {meth : Method} {c : Code} {D : va_G} {tc : Nat → ClassId} {aK aV : Nat → Nat} {A : Nat → Prop} {ad0 : Nat → Nat}  (X : Cx p s m args meth c cX4_settle 2 none RX4 D tc aK aV A [(shSentence, ad0)])  {o : XM} {k0 : XM → Int32 → Option (XM)} (hk0 : ∀ (w0 : XM) (l1 : Int32), k0 w0 l1 = some o → aW p l e (x_Rm 2) s m args below meth c D tc A 2 [(shSentence, ad0)] none True [o] 0 [(0, .ref (ad0 0)), (1, .int l1)] [] [w0]) {w0 : XM} {l1 : Int32}  (h : f_X4_settle_24  k0 w0 l1 = some o) : aW p l e (x_Rm 2) s m args below meth c D tc A 2 [(shSentence, ad0)] none True [o] 24 [(0, .ref (ad0 0)), (1, .int l1)] [] [w0] := by
  unfold f_X4_settle_24 at h
  refine a_aload_n (pc := 24) X 0 dX4_settle_24 rfl rfl ?_
  refine a_aload_n (pc := 25) X 0 dX4_settle_25 rfl rfl ?_
  obtain ⟨y1, e_y1, h⟩ := x_lt_elim h
  refine a_callV (pc := 26) (st2 := [.int y1, .ref (ad0 0)]) (vs2 := [w0]) X [(0, 0, 9)] [none] 0 0 4 [] [.ref (ad0 0)] cv_RX4_106 (c_X4_top (ad0 := ad0)  e_y1) rfl rfl rfl rfl rfl rfl rfl rfl rfl rfl rfl rfl rfl rfl rfl (Nat.le_of_ble_eq_true rfl) ⟨Nat.le_of_ble_eq_true rfl, Nat.le_of_ble_eq_true rfl⟩ dX4_settle_26 (fun _ => ?_)
  refine a_iconst (pc := 29) X dX4_settle_29 q_ic_0 ?_
  refine a_iconst (pc := 30) X dX4_settle_30 q_ic_0 ?_
  obtain ⟨y2, e_y2, h⟩ := x_lt_elim h
  refine a_callV (pc := 31) (st2 := [.int y2.1]) (vs2 := [y2.2]) X [(0, 0, 9)] [some y2.2] 0 0 4 [.int y1, .int (0 : Int32), .int (0 : Int32)] [] cv_RX4_94 (c_X4_addStep (ad0 := ad0)  e_y2) rfl rfl rfl rfl rfl rfl rfl rfl rfl rfl rfl rfl rfl rfl rfl (Nat.le_of_ble_eq_true rfl) ⟨Nat.le_of_ble_eq_true rfl, Nat.le_of_ble_eq_true rfl⟩ dX4_settle_31 (fun z_31 => ?_)
  refine a_pop (pc := 34) X dX4_settle_34 rfl ?_
  refine a_aload_n (pc := 35) X 0 dX4_settle_35 rfl rfl ?_
  refine a_dup (pc := 36) X dX4_settle_36 rfl ?_
  refine a_getI (pc := 37) X 0 fl_RX4_43 rfl rfl rfl rfl dX4_settle_37 ?_
  refine a_iconst (pc := 40) X dX4_settle_40 q_ic_1 ?_
  refine a_isub (pc := 41) X dX4_settle_41 ?_
  refine a_putI (pc := 42) X 0 fl_RX4_43 rfl rfl rfl rfl dX4_settle_42 ?_
  obtain ⟨m3, e_m3, h⟩ := x_lt_elim h
  refine a_nm (vs2 := [m3]) (congrArg (fun q : XM => [q]) e_m3) ?_
  refine a_goto (pc := 45) X 0 dX4_settle_45 rfl ?_
  exact hk0 _ _ h
set_option maxRecDepth 100000 in
set_option maxHeartbeats 4000000 in
theorem w_X4_settle_0 {p : Program} {l : Launch} {e : Env} {s : State} {m : MethodId} {args : Array Value} {below : List Frame} {meth : Method} {c : Code} {D : va_G} {tc : Nat → ClassId} {aK aV : Nat → Nat} {A : Nat → Prop} {ad0 : Nat → Nat}  (X : Cx p s m args meth c cX4_settle 2 none RX4 D tc aK aV A [(shSentence, ad0)])  {o : XM}  : ∀ (n : Nat), ∀ (w0 : XM) (l1 : Int32), x_lp (φ := XM → Int32 → Option (XM)) (fun _ _ => none) (f_X4_settle_0  ) n w0 l1 = some o → aW p l e (x_Rm 2) s m args below meth c D tc A 2 [(shSentence, ad0)] none True [o] 0 [(0, .ref (ad0 0)), (1, .int l1)] [] [w0] := by
  intro n
  induction n with
  | zero => intro w0 l1 h; exact absurd h (fun q => by cases q)
  | succ n ih =>
    intro w0 l1 h
    have h : f_X4_settle_0   (x_lp (φ := XM → Int32 → Option (XM)) (fun _ _ => none) (f_X4_settle_0  ) n) w0 l1 = some o := h
    generalize x_lp (φ := XM → Int32 → Option (XM)) (fun _ _ => none) (f_X4_settle_0  ) n = k0 at h ih
    have hk0 := ih
    unfold f_X4_settle_0 at h
    refine a_aload_n (pc := 0) X 0 dX4_settle_0 rfl rfl ?_
    refine a_getI (pc := 1) X 0 fl_RX4_43 rfl rfl rfl rfl dX4_settle_1 ?_
    refine a_if_le (pc := 4) X 48 dX4_settle_4 rfl (fun c_4 => ?_) (fun c_4 => ?_)
    · have h := x_ifp c_4 h
      have h := Option.some.inj h; subst h
      exact a_vret (pc := 48) X trivial dX4_settle_48
    · have h := x_ifn c_4 h
      refine a_aload_n (pc := 7) X 0 dX4_settle_7 rfl rfl ?_
      obtain ⟨y4, e_y4, h⟩ := x_lt_elim h
      refine a_callV (pc := 8) (st2 := [.int y4]) (vs2 := [w0]) X [(0, 0, 9)] [none] 0 0 4 [] [] cv_RX4_106 (c_X4_top (ad0 := ad0)  e_y4) rfl rfl rfl rfl rfl rfl rfl rfl rfl rfl rfl rfl rfl rfl rfl (Nat.le_of_ble_eq_true rfl) ⟨Nat.le_of_ble_eq_true rfl, Nat.le_of_ble_eq_true rfl⟩ dX4_settle_8 (fun _ => ?_)
      refine a_bipush (pc := 11) X dX4_settle_11 q_bp_18 ?_
      refine a_icmp_eq (pc := 13) X 24 dX4_settle_13 rfl (fun c_13 => ?_) (fun c_13 => ?_)
      · have h := x_ifp c_13 h
        exact w_X4_settle_24 X   hk0  h
      · have h := x_ifn c_13 h
        refine a_aload_n (pc := 16) X 0 dX4_settle_16 rfl rfl ?_
        obtain ⟨y5, e_y5, h⟩ := x_lt_elim h
        refine a_callV (pc := 17) (st2 := [.int y5]) (vs2 := [w0]) X [(0, 0, 9)] [none] 0 0 4 [] [] cv_RX4_106 (c_X4_top (ad0 := ad0)  e_y5) rfl rfl rfl rfl rfl rfl rfl rfl rfl rfl rfl rfl rfl rfl rfl (Nat.le_of_ble_eq_true rfl) ⟨Nat.le_of_ble_eq_true rfl, Nat.le_of_ble_eq_true rfl⟩ dX4_settle_17 (fun _ => ?_)
        refine a_iload_n (pc := 20) X 1 dX4_settle_20 rfl rfl ?_
        refine a_icmp_ne (pc := 21) X 48 dX4_settle_21 rfl (fun c_21 => ?_) (fun c_21 => ?_)
        · have h := x_ifn c_21 h
          have h := Option.some.inj h; subst h
          exact a_vret (pc := 48) X trivial dX4_settle_48
        · have h := x_ifp c_21 h
          exact w_X4_settle_24 X   hk0  h
set_option maxRecDepth 100000 in
set_option maxHeartbeats 4000000 in
theorem c_X4_settle {l : Launch}  {ad0 : Nat → Nat} {v0 : XM} {x0 : Int32}  {o : XM} (h : f_X4_settle v0 x0 = some o) : CT l yX4_settle cX4_settle 2 none 2 [(shSentence, ad0)] [v0] (fun aK => [.ref (ad0 0), .int x0]) none True [o] := by
  refine CT_of (by decide) (fun _ => Nat.le_of_ble_eq_true rfl) ?_
  intro p e s m args below meth c D tc aK aV A X
  have X : Cx p s m args meth c cX4_settle 2 none RX4 D tc aK aV A [(shSentence, ad0)] := X
  show aW p l e (x_Rm 2) s m args below meth c D tc A 2 [(shSentence, ad0)] none True [o] 0 [(0, .ref (ad0 0)), (1, .int x0)] [] [v0]
  unfold f_X4_settle at h
  exact w_X4_settle_0 X    x_NN _ _ h
theorem dX4_closeBracket_0 : decode cX4_closeBracket 0 = .ok (.aload_n 0, 1) := by decide +kernel
theorem dX4_closeBracket_1 : decode cX4_closeBracket 1 = .ok (.bipush 17, 2) := by decide +kernel
theorem dX4_closeBracket_3 : decode cX4_closeBracket 3 = .ok (.invokevirtual 61, 3) := by decide +kernel
theorem dX4_closeBracket_6 : decode cX4_closeBracket 6 = .ok (.aload_n 0, 1) := by decide +kernel
theorem dX4_closeBracket_7 : decode cX4_closeBracket 7 = .ok (.dup, 1) := by decide +kernel
theorem dX4_closeBracket_8 : decode cX4_closeBracket 8 = .ok (.getfield 43, 3) := by decide +kernel
theorem dX4_closeBracket_11 : decode cX4_closeBracket 11 = .ok (.iconst 1, 1) := by decide +kernel
theorem dX4_closeBracket_12 : decode cX4_closeBracket 12 = .ok (.isub, 1) := by decide +kernel
theorem dX4_closeBracket_13 : decode cX4_closeBracket 13 = .ok (.putfield 43, 3) := by decide +kernel
theorem dX4_closeBracket_16 : decode cX4_closeBracket 16 = .ok (.aload_n 0, 1) := by decide +kernel
theorem dX4_closeBracket_17 : decode cX4_closeBracket 17 = .ok (.dup, 1) := by decide +kernel
theorem dX4_closeBracket_18 : decode cX4_closeBracket 18 = .ok (.getfield 46, 3) := by decide +kernel
theorem dX4_closeBracket_21 : decode cX4_closeBracket 21 = .ok (.iconst 1, 1) := by decide +kernel
theorem dX4_closeBracket_22 : decode cX4_closeBracket 22 = .ok (.isub, 1) := by decide +kernel
theorem dX4_closeBracket_23 : decode cX4_closeBracket 23 = .ok (.putfield 46, 3) := by decide +kernel
theorem dX4_closeBracket_26 : decode cX4_closeBracket 26 = .ok (.aload_n 0, 1) := by decide +kernel
theorem dX4_closeBracket_27 : decode cX4_closeBracket 27 = .ok (.invokevirtual 83, 3) := by decide +kernel
theorem dX4_closeBracket_30 : decode cX4_closeBracket 30 = .ok (.return_, 1) := by decide +kernel
def f_X4_closeBracket (v0 : XM) : Option (XM) :=
  x_bo (f_X4_settle v0 (17 : Int32)) (fun y1 =>
  x_lt (x_si y1 0 6 ((y1.1 0 6) - (1 : Int32))) (fun m2 =>
  x_lt (x_si m2 0 7 ((m2.1 0 7) - (1 : Int32))) (fun m3 =>
  x_bo (f_X4_settleNots m3) (fun y4 =>
  some y4))))
set_option maxRecDepth 100000 in
set_option maxHeartbeats 4000000 in
theorem c_X4_closeBracket {l : Launch}  {ad0 : Nat → Nat} {v0 : XM}   {o : XM} (h : f_X4_closeBracket v0 = some o) : CT l yX4_closeBracket cX4_closeBracket 1 none 3 [(shSentence, ad0)] [v0] (fun aK => [.ref (ad0 0)]) none True [o] := by
  refine CT_of (by decide) (fun _ => Nat.le_of_ble_eq_true rfl) ?_
  intro p e s m args below meth c D tc aK aV A X
  have X : Cx p s m args meth c cX4_closeBracket 1 none RX4 D tc aK aV A [(shSentence, ad0)] := X
  show aW p l e (x_Rm 3) s m args below meth c D tc A 1 [(shSentence, ad0)] none True [o] 0 [(0, .ref (ad0 0))] [] [v0]
  unfold f_X4_closeBracket at h
  refine a_aload_n (pc := 0) X 0 dX4_closeBracket_0 rfl rfl ?_
  refine a_bipush (pc := 1) X dX4_closeBracket_1 q_bp_17 ?_
  obtain ⟨y1, e_y1, h⟩ := x_bo_elim h
  refine a_callV (pc := 3) (st2 := []) (vs2 := [y1]) X [(0, 0, 9)] [some y1] 0 0 4 [.int (17 : Int32)] [] cv_RX4_61 (c_X4_settle (ad0 := ad0)  e_y1) rfl rfl rfl rfl rfl rfl rfl rfl rfl rfl rfl rfl rfl rfl rfl (Nat.le_of_ble_eq_true rfl) ⟨Nat.le_of_ble_eq_true rfl, Nat.le_of_ble_eq_true rfl⟩ dX4_closeBracket_3 (fun _ => ?_)
  refine a_aload_n (pc := 6) X 0 dX4_closeBracket_6 rfl rfl ?_
  refine a_dup (pc := 7) X dX4_closeBracket_7 rfl ?_
  refine a_getI (pc := 8) X 0 fl_RX4_43 rfl rfl rfl rfl dX4_closeBracket_8 ?_
  refine a_iconst (pc := 11) X dX4_closeBracket_11 q_ic_1 ?_
  refine a_isub (pc := 12) X dX4_closeBracket_12 ?_
  refine a_putI (pc := 13) X 0 fl_RX4_43 rfl rfl rfl rfl dX4_closeBracket_13 ?_
  obtain ⟨m2, e_m2, h⟩ := x_lt_elim h
  refine a_nm (vs2 := [m2]) (congrArg (fun q : XM => [q]) e_m2) ?_
  refine a_aload_n (pc := 16) X 0 dX4_closeBracket_16 rfl rfl ?_
  refine a_dup (pc := 17) X dX4_closeBracket_17 rfl ?_
  refine a_getI (pc := 18) X 0 fl_RX4_46 rfl rfl rfl rfl dX4_closeBracket_18 ?_
  refine a_iconst (pc := 21) X dX4_closeBracket_21 q_ic_1 ?_
  refine a_isub (pc := 22) X dX4_closeBracket_22 ?_
  refine a_putI (pc := 23) X 0 fl_RX4_46 rfl rfl rfl rfl dX4_closeBracket_23 ?_
  obtain ⟨m3, e_m3, h⟩ := x_lt_elim h
  refine a_nm (vs2 := [m3]) (congrArg (fun q : XM => [q]) e_m3) ?_
  refine a_aload_n (pc := 26) X 0 dX4_closeBracket_26 rfl rfl ?_
  obtain ⟨y4, e_y4, h⟩ := x_bo_elim h
  refine a_callV (pc := 27) (st2 := []) (vs2 := [y4]) X [(0, 0, 9)] [some y4] 0 0 4 [] [] cv_RX4_83 (c_X4_settleNots (ad0 := ad0)  e_y4) rfl rfl rfl rfl rfl rfl rfl rfl rfl rfl rfl rfl rfl rfl rfl (Nat.le_of_ble_eq_true rfl) ⟨Nat.le_of_ble_eq_true rfl, Nat.le_of_ble_eq_true rfl⟩ dX4_closeBracket_27 (fun _ => ?_)
  have h := Option.some.inj h; subst h
  exact a_vret (pc := 30) X trivial dX4_closeBracket_30
