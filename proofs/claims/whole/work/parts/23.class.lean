-- class: functional forms and contracts, written by wip/whole/gen.py out of the bytecode.
theorem dX11_feed_0 : decode cX11_feed 0 = .ok (.aload_n 0, 1) := by decide +kernel
theorem dX11_feed_1 : decode cX11_feed 1 = .ok (.getfield 12, 3) := by decide +kernel
theorem dX11_feed_4 : decode cX11_feed 4 = .ok (.getfield 78, 3) := by decide +kernel
theorem dX11_feed_7 : decode cX11_feed 7 = .ok (.bipush 20, 2) := by decide +kernel
theorem dX11_feed_9 : decode cX11_feed 9 = .ok (.iadd, 1) := by decide +kernel
theorem dX11_feed_10 : decode cX11_feed 10 = .ok (.sipush 940, 3) := by decide +kernel
theorem dX11_feed_13 : decode cX11_feed 13 = .ok (.if_icmp .le 5, 3) := by decide +kernel
theorem dX11_feed_16 : decode cX11_feed 16 = .ok (.iconst (-1), 1) := by decide +kernel
theorem dX11_feed_17 : decode cX11_feed 17 = .ok (.ireturn, 1) := by decide +kernel
theorem dX11_feed_18 : decode cX11_feed 18 = .ok (.aload_n 0, 1) := by decide +kernel
theorem dX11_feed_19 : decode cX11_feed 19 = .ok (.getfield 12, 3) := by decide +kernel
theorem dX11_feed_22 : decode cX11_feed 22 = .ok (.iload_n 1, 1) := by decide +kernel
theorem dX11_feed_23 : decode cX11_feed 23 = .ok (.invokevirtual 82, 3) := by decide +kernel
theorem dX11_feed_26 : decode cX11_feed 26 = .ok (.aload_n 0, 1) := by decide +kernel
theorem dX11_feed_27 : decode cX11_feed 27 = .ok (.getfield 12, 3) := by decide +kernel
theorem dX11_feed_30 : decode cX11_feed 30 = .ok (.iload_n 2, 1) := by decide +kernel
theorem dX11_feed_31 : decode cX11_feed 31 = .ok (.invokevirtual 82, 3) := by decide +kernel
theorem dX11_feed_34 : decode cX11_feed 34 = .ok (.aload_n 0, 1) := by decide +kernel
theorem dX11_feed_35 : decode cX11_feed 35 = .ok (.getfield 12, 3) := by decide +kernel
theorem dX11_feed_38 : decode cX11_feed 38 = .ok (.iload_n 3, 1) := by decide +kernel
theorem dX11_feed_39 : decode cX11_feed 39 = .ok (.invokevirtual 82, 3) := by decide +kernel
theorem dX11_feed_42 : decode cX11_feed 42 = .ok (.aload_n 0, 1) := by decide +kernel
theorem dX11_feed_43 : decode cX11_feed 43 = .ok (.getfield 12, 3) := by decide +kernel
theorem dX11_feed_46 : decode cX11_feed 46 = .ok (.iload 4, 2) := by decide +kernel
theorem dX11_feed_48 : decode cX11_feed 48 = .ok (.invokevirtual 82, 3) := by decide +kernel
theorem dX11_feed_51 : decode cX11_feed 51 = .ok (.aload_n 0, 1) := by decide +kernel
theorem dX11_feed_52 : decode cX11_feed 52 = .ok (.getfield 12, 3) := by decide +kernel
theorem dX11_feed_55 : decode cX11_feed 55 = .ok (.iload 5, 2) := by decide +kernel
theorem dX11_feed_57 : decode cX11_feed 57 = .ok (.invokevirtual 82, 3) := by decide +kernel
theorem dX11_feed_60 : decode cX11_feed 60 = .ok (.aload_n 0, 1) := by decide +kernel
theorem dX11_feed_61 : decode cX11_feed 61 = .ok (.getfield 12, 3) := by decide +kernel
theorem dX11_feed_64 : decode cX11_feed 64 = .ok (.getfield 78, 3) := by decide +kernel
theorem dX11_feed_67 : decode cX11_feed 67 = .ok (.ireturn, 1) := by decide +kernel
def f_X11_feed (v0 : XM) (x0 : Int32) (x1 : Int32) (x2 : Int32) (x3 : Int32) (x4 : Int32) : Option (Int32 × XM) :=
  if (((v0.1 1 2) + (20 : Int32)) : Int32) ≤ (940 : Int32) then
  (x_bo (f_X8_addNumber (x_sub v0 1) x0) (fun y1 =>
  x_lt (x_put v0 1 4 y1) (fun m2 =>
  x_bo (f_X8_addNumber (x_sub m2 1) x1) (fun y3 =>
  x_lt (x_put m2 1 4 y3) (fun m4 =>
  x_bo (f_X8_addNumber (x_sub m4 1) x2) (fun y5 =>
  x_lt (x_put m4 1 4 y5) (fun m6 =>
  x_bo (f_X8_addNumber (x_sub m6 1) x3) (fun y7 =>
  x_lt (x_put m6 1 4 y7) (fun m8 =>
  x_bo (f_X8_addNumber (x_sub m8 1) x4) (fun y9 =>
  x_lt (x_put m8 1 4 y9) (fun m10 =>
  some (m10.1 1 2, m10))))))))))))
  else (some ((-1 : Int32), v0))
set_option maxRecDepth 100000 in
set_option maxHeartbeats 4000000 in
theorem c_X11_feed {l : Launch}  {ad0 : Nat → Nat} {v0 : XM} {x0 : Int32} {x1 : Int32} {x2 : Int32} {x3 : Int32} {x4 : Int32}  {o : Int32 × XM} (h : f_X11_feed v0 x0 x1 x2 x3 x4 = some o) : CT l yX11_feed cX11_feed 6 (some .int) 2 [(shFoldRoads, ad0)] [v0] (fun aK => [.ref (ad0 0), .int x0, .int x1, .int x2, .int x3, .int x4]) (some (.int o.1)) True [o.2] := by
  refine CT_of (by decide) (fun _ => Nat.le_of_ble_eq_true rfl) ?_
  intro p e s m args below meth c D tc aK aV A X
  have X : Cx p s m args meth c cX11_feed 6 (some .int) RX11 D tc aK aV A [(shFoldRoads, ad0)] := X
  show aW p l e (x_Rm 2) s m args below meth c D tc A 6 [(shFoldRoads, ad0)] (some (.int o.1)) True [o.2] 0 [(0, .ref (ad0 0)), (1, .int x0), (2, .int x1), (3, .int x2), (4, .int x3), (5, .int x4)] [] [v0]
  unfold f_X11_feed at h
  refine a_aload_n (pc := 0) X 0 dX11_feed_0 rfl rfl ?_
  refine a_getR (pc := 1) X 0 1 1 fl_RX11_12 rfl rfl rfl rfl rfl dX11_feed_1 ?_
  refine a_getI (pc := 4) X 0 fl_RX11_78 rfl rfl rfl rfl dX11_feed_4 ?_
  refine a_bipush (pc := 7) X dX11_feed_7 q_bp_20 ?_
  refine a_iadd (pc := 9) X dX11_feed_9 ?_
  refine a_sipush (pc := 10) X dX11_feed_10 q_sp_940 ?_
  refine a_icmp_le (pc := 13) X 18 dX11_feed_13 rfl (fun c_13 => ?_) (fun c_13 => ?_)
  · have h := x_ifp c_13 h
    refine a_aload_n (pc := 18) X 0 dX11_feed_18 rfl rfl ?_
    refine a_getR (pc := 19) X 0 1 1 fl_RX11_12 rfl rfl rfl rfl rfl dX11_feed_19 ?_
    refine a_iload_n (pc := 22) X 1 dX11_feed_22 rfl rfl ?_
    obtain ⟨y1, e_y1, h⟩ := x_bo_elim h
    refine a_callV (pc := 23) (st2 := []) (vs2 := [x_put v0 1 4 y1]) X [(0, 1, 4)] [some y1] 0 1 8 [.int x0] [] cv_RX11_82 (c_X8_addNumber (ad0 := (fun i => ad0 (i + 1)))  e_y1) rfl rfl rfl rfl rfl rfl rfl rfl rfl rfl rfl rfl rfl rfl rfl (Nat.le_of_ble_eq_true rfl) ⟨Nat.le_of_ble_eq_true rfl, Nat.le_of_ble_eq_true rfl⟩ dX11_feed_23 (fun _ => ?_)
    obtain ⟨m2, e_m2, h⟩ := x_lt_elim h
    refine a_nm (vs2 := [m2]) (congrArg (fun q : XM => [q]) e_m2) ?_
    refine a_aload_n (pc := 26) X 0 dX11_feed_26 rfl rfl ?_
    refine a_getR (pc := 27) X 0 1 1 fl_RX11_12 rfl rfl rfl rfl rfl dX11_feed_27 ?_
    refine a_iload_n (pc := 30) X 2 dX11_feed_30 rfl rfl ?_
    obtain ⟨y3, e_y3, h⟩ := x_bo_elim h
    refine a_callV (pc := 31) (st2 := []) (vs2 := [x_put m2 1 4 y3]) X [(0, 1, 4)] [some y3] 0 1 8 [.int x1] [] cv_RX11_82 (c_X8_addNumber (ad0 := (fun i => ad0 (i + 1)))  e_y3) rfl rfl rfl rfl rfl rfl rfl rfl rfl rfl rfl rfl rfl rfl rfl (Nat.le_of_ble_eq_true rfl) ⟨Nat.le_of_ble_eq_true rfl, Nat.le_of_ble_eq_true rfl⟩ dX11_feed_31 (fun _ => ?_)
    obtain ⟨m4, e_m4, h⟩ := x_lt_elim h
    refine a_nm (vs2 := [m4]) (congrArg (fun q : XM => [q]) e_m4) ?_
    refine a_aload_n (pc := 34) X 0 dX11_feed_34 rfl rfl ?_
    refine a_getR (pc := 35) X 0 1 1 fl_RX11_12 rfl rfl rfl rfl rfl dX11_feed_35 ?_
    refine a_iload_n (pc := 38) X 3 dX11_feed_38 rfl rfl ?_
    obtain ⟨y5, e_y5, h⟩ := x_bo_elim h
    refine a_callV (pc := 39) (st2 := []) (vs2 := [x_put m4 1 4 y5]) X [(0, 1, 4)] [some y5] 0 1 8 [.int x2] [] cv_RX11_82 (c_X8_addNumber (ad0 := (fun i => ad0 (i + 1)))  e_y5) rfl rfl rfl rfl rfl rfl rfl rfl rfl rfl rfl rfl rfl rfl rfl (Nat.le_of_ble_eq_true rfl) ⟨Nat.le_of_ble_eq_true rfl, Nat.le_of_ble_eq_true rfl⟩ dX11_feed_39 (fun _ => ?_)
    obtain ⟨m6, e_m6, h⟩ := x_lt_elim h
    refine a_nm (vs2 := [m6]) (congrArg (fun q : XM => [q]) e_m6) ?_
    refine a_aload_n (pc := 42) X 0 dX11_feed_42 rfl rfl ?_
    refine a_getR (pc := 43) X 0 1 1 fl_RX11_12 rfl rfl rfl rfl rfl dX11_feed_43 ?_
    refine a_iload (pc := 46) X 4 dX11_feed_46 rfl ?_
    obtain ⟨y7, e_y7, h⟩ := x_bo_elim h
    refine a_callV (pc := 48) (st2 := []) (vs2 := [x_put m6 1 4 y7]) X [(0, 1, 4)] [some y7] 0 1 8 [.int x3] [] cv_RX11_82 (c_X8_addNumber (ad0 := (fun i => ad0 (i + 1)))  e_y7) rfl rfl rfl rfl rfl rfl rfl rfl rfl rfl rfl rfl rfl rfl rfl (Nat.le_of_ble_eq_true rfl) ⟨Nat.le_of_ble_eq_true rfl, Nat.le_of_ble_eq_true rfl⟩ dX11_feed_48 (fun _ => ?_)
    obtain ⟨m8, e_m8, h⟩ := x_lt_elim h
    refine a_nm (vs2 := [m8]) (congrArg (fun q : XM => [q]) e_m8) ?_
    refine a_aload_n (pc := 51) X 0 dX11_feed_51 rfl rfl ?_
    refine a_getR (pc := 52) X 0 1 1 fl_RX11_12 rfl rfl rfl rfl rfl dX11_feed_52 ?_
    refine a_iload (pc := 55) X 5 dX11_feed_55 rfl ?_
    obtain ⟨y9, e_y9, h⟩ := x_bo_elim h
    refine a_callV (pc := 57) (st2 := []) (vs2 := [x_put m8 1 4 y9]) X [(0, 1, 4)] [some y9] 0 1 8 [.int x4] [] cv_RX11_82 (c_X8_addNumber (ad0 := (fun i => ad0 (i + 1)))  e_y9) rfl rfl rfl rfl rfl rfl rfl rfl rfl rfl rfl rfl rfl rfl rfl (Nat.le_of_ble_eq_true rfl) ⟨Nat.le_of_ble_eq_true rfl, Nat.le_of_ble_eq_true rfl⟩ dX11_feed_57 (fun _ => ?_)
    obtain ⟨m10, e_m10, h⟩ := x_lt_elim h
    refine a_nm (vs2 := [m10]) (congrArg (fun q : XM => [q]) e_m10) ?_
    refine a_aload_n (pc := 60) X 0 dX11_feed_60 rfl rfl ?_
    refine a_getR (pc := 61) X 0 1 1 fl_RX11_12 rfl rfl rfl rfl rfl dX11_feed_61 ?_
    refine a_getI (pc := 64) X 0 fl_RX11_78 rfl rfl rfl rfl dX11_feed_64 ?_
    have h := Option.some.inj h; subst h
    exact a_iret (pc := 67) X trivial dX11_feed_67
  · have h := x_ifn c_13 h
    refine a_iconst (pc := 16) X dX11_feed_16 q_ic_m1 ?_
    have h := Option.some.inj h; subst h
    exact a_iret (pc := 17) X trivial dX11_feed_17
theorem dX11_end_0 : decode cX11_end 0 = .ok (.iload_n 1, 1) := by decide +kernel
theorem dX11_end_1 : decode cX11_end 1 = .ok (.ifCond .lt 14, 3) := by decide +kernel
theorem dX11_end_4 : decode cX11_end 4 = .ok (.iload_n 1, 1) := by decide +kernel
theorem dX11_end_5 : decode cX11_end 5 = .ok (.aload_n 0, 1) := by decide +kernel
theorem dX11_end_6 : decode cX11_end 6 = .ok (.getfield 12, 3) := by decide +kernel
theorem dX11_end_9 : decode cX11_end 9 = .ok (.getfield 78, 3) := by decide +kernel
theorem dX11_end_12 : decode cX11_end 12 = .ok (.if_icmp .le 5, 3) := by decide +kernel
theorem dX11_end_15 : decode cX11_end 15 = .ok (.iconst 0, 1) := by decide +kernel
theorem dX11_end_16 : decode cX11_end 16 = .ok (.ireturn, 1) := by decide +kernel
theorem dX11_end_17 : decode cX11_end 17 = .ok (.aload_n 0, 1) := by decide +kernel
theorem dX11_end_18 : decode cX11_end 18 = .ok (.getfield 12, 3) := by decide +kernel
theorem dX11_end_21 : decode cX11_end 21 = .ok (.iload_n 1, 1) := by decide +kernel
theorem dX11_end_22 : decode cX11_end 22 = .ok (.putfield 78, 3) := by decide +kernel
theorem dX11_end_25 : decode cX11_end 25 = .ok (.iconst 1, 1) := by decide +kernel
theorem dX11_end_26 : decode cX11_end 26 = .ok (.ireturn, 1) := by decide +kernel
def f_X11_end (v0 : XM) (x0 : Int32) : Int32 × XM :=
  if x0 < (0 : Int32) then
  (((0 : Int32), v0))
  else (if (x0 : Int32) ≤ (v0.1 1 2) then
  (x_lt (x_si v0 1 2 x0) (fun m1 =>
  ((1 : Int32), m1)))
  else (((0 : Int32), v0)))
set_option maxRecDepth 100000 in
set_option maxHeartbeats 4000000 in
theorem c_X11_end {l : Launch}  {ad0 : Nat → Nat} {v0 : XM} {x0 : Int32}  {o : Int32 × XM} (h : f_X11_end v0 x0 = o) : CT l yX11_end cX11_end 2 (some .boolean) 0 [(shFoldRoads, ad0)] [v0] (fun aK => [.ref (ad0 0), .int x0]) (some (.int o.1)) (x_Z o.1) [o.2] := by
  refine CT_of (by decide) (fun _ => Nat.le_of_ble_eq_true rfl) ?_
  intro p e s m args below meth c D tc aK aV A X
  have X : Cx p s m args meth c cX11_end 2 (some .boolean) RX11 D tc aK aV A [(shFoldRoads, ad0)] := X
  show aW p l e (x_Rm 0) s m args below meth c D tc A 2 [(shFoldRoads, ad0)] (some (.int o.1)) (x_Z o.1) [o.2] 0 [(0, .ref (ad0 0)), (1, .int x0)] [] [v0]
  unfold f_X11_end at h
  refine a_iload_n (pc := 0) X 1 dX11_end_0 rfl rfl ?_
  refine a_if_lt (pc := 1) X 15 dX11_end_1 rfl (fun c_1 => ?_) (fun c_1 => ?_)
  · have h := x_ifp c_1 h
    refine a_iconst (pc := 15) X dX11_end_15 q_ic_0 ?_
    subst h
    exact a_zret (pc := 16) X x_Z0 x_Z0 dX11_end_16
  · have h := x_ifn c_1 h
    refine a_iload_n (pc := 4) X 1 dX11_end_4 rfl rfl ?_
    refine a_aload_n (pc := 5) X 0 dX11_end_5 rfl rfl ?_
    refine a_getR (pc := 6) X 0 1 1 fl_RX11_12 rfl rfl rfl rfl rfl dX11_end_6 ?_
    refine a_getI (pc := 9) X 0 fl_RX11_78 rfl rfl rfl rfl dX11_end_9 ?_
    refine a_icmp_le (pc := 12) X 17 dX11_end_12 rfl (fun c_12 => ?_) (fun c_12 => ?_)
    · have h := x_ifp c_12 h
      refine a_aload_n (pc := 17) X 0 dX11_end_17 rfl rfl ?_
      refine a_getR (pc := 18) X 0 1 1 fl_RX11_12 rfl rfl rfl rfl rfl dX11_end_18 ?_
      refine a_iload_n (pc := 21) X 1 dX11_end_21 rfl rfl ?_
      refine a_putI (pc := 22) X 0 fl_RX11_78 rfl rfl rfl rfl dX11_end_22 ?_
      obtain ⟨m1, e_m1, h⟩ := x_lt_elim h
      refine a_nm (vs2 := [m1]) (congrArg (fun q : XM => [q]) e_m1) ?_
      refine a_iconst (pc := 25) X dX11_end_25 q_ic_1 ?_
      subst h
      exact a_zret (pc := 26) X x_Z1 x_Z1 dX11_end_26
    · have h := x_ifn c_12 h
      refine a_iconst (pc := 15) X dX11_end_15 q_ic_0 ?_
      subst h
      exact a_zret (pc := 16) X x_Z0 x_Z0 dX11_end_16
theorem dX11_valley_0 : decode cX11_valley 0 = .ok (.aload_n 0, 1) := by decide +kernel
theorem dX11_valley_1 : decode cX11_valley 1 = .ok (.getfield 46, 3) := by decide +kernel
theorem dX11_valley_4 : decode cX11_valley 4 = .ok (.aload_n 0, 1) := by decide +kernel
theorem dX11_valley_5 : decode cX11_valley 5 = .ok (.getfield 12, 3) := by decide +kernel
theorem dX11_valley_8 : decode cX11_valley 8 = .ok (.invokevirtual 86, 3) := by decide +kernel
theorem dX11_valley_11 : decode cX11_valley 11 = .ok (.istore_n 1, 1) := by decide +kernel
theorem dX11_valley_12 : decode cX11_valley 12 = .ok (.aload_n 0, 1) := by decide +kernel
theorem dX11_valley_13 : decode cX11_valley 13 = .ok (.getfield 12, 3) := by decide +kernel
theorem dX11_valley_16 : decode cX11_valley 16 = .ok (.iconst 0, 1) := by decide +kernel
theorem dX11_valley_17 : decode cX11_valley 17 = .ok (.putfield 78, 3) := by decide +kernel
theorem dX11_valley_20 : decode cX11_valley 20 = .ok (.iload_n 1, 1) := by decide +kernel
theorem dX11_valley_21 : decode cX11_valley 21 = .ok (.iconst (-1), 1) := by decide +kernel
theorem dX11_valley_22 : decode cX11_valley 22 = .ok (.if_icmp .ne 13, 3) := by decide +kernel
theorem dX11_valley_25 : decode cX11_valley 25 = .ok (.iconst (-1), 1) := by decide +kernel
theorem dX11_valley_26 : decode cX11_valley 26 = .ok (.aload_n 0, 1) := by decide +kernel
theorem dX11_valley_27 : decode cX11_valley 27 = .ok (.getfield 12, 3) := by decide +kernel
theorem dX11_valley_30 : decode cX11_valley 30 = .ok (.getfield 90, 3) := by decide +kernel
theorem dX11_valley_33 : decode cX11_valley 33 = .ok (.isub, 1) := by decide +kernel
theorem dX11_valley_34 : decode cX11_valley 34 = .ok (.ireturn, 1) := by decide +kernel
theorem dX11_valley_35 : decode cX11_valley 35 = .ok (.aload_n 0, 1) := by decide +kernel
theorem dX11_valley_36 : decode cX11_valley 36 = .ok (.getfield 19, 3) := by decide +kernel
theorem dX11_valley_39 : decode cX11_valley 39 = .ok (.aload_n 0, 1) := by decide +kernel
theorem dX11_valley_40 : decode cX11_valley 40 = .ok (.getfield 46, 3) := by decide +kernel
theorem dX11_valley_43 : decode cX11_valley 43 = .ok (.getfield 93, 3) := by decide +kernel
theorem dX11_valley_46 : decode cX11_valley 46 = .ok (.invokevirtual 96, 3) := by decide +kernel
theorem dX11_valley_49 : decode cX11_valley 49 = .ok (.aload_n 0, 1) := by decide +kernel
theorem dX11_valley_50 : decode cX11_valley 50 = .ok (.getfield 39, 3) := by decide +kernel
theorem dX11_valley_53 : decode cX11_valley 53 = .ok (.invokevirtual 100, 3) := by decide +kernel
theorem dX11_valley_56 : decode cX11_valley 56 = .ok (.iload_n 1, 1) := by decide +kernel
theorem dX11_valley_57 : decode cX11_valley 57 = .ok (.ireturn, 1) := by decide +kernel
def f_X11_valley (v0 : XM) : Option (Int32 × XM) :=
  x_bo (f_X6_readValley (x_sub v0 265) (x_sub v0 1)) (fun y1 =>
  x_lt (x_put (x_put v0 265 17 y1.2.1) 1 4 y1.2.2) (fun m2 =>
  x_lt (x_si m2 1 2 (0 : Int32)) (fun m3 =>
  if (y1.1 : Int32) = (-1 : Int32) then
  (some ((-1 : Int32) - (m3.1 1 11), m3))
  else (x_bo (f_X10_found (x_sub m3 5) (x_sub m3 266)) (fun y4 =>
  x_lt (x_put m3 5 41 y4) (fun m5 =>
  x_lt (f_X1_forget (x_sub m5 143)) (fun y6 =>
  x_lt (x_put m5 143 122 y6) (fun m7 =>
  some (y1.1, m7)))))))))
set_option maxRecDepth 100000 in
set_option maxHeartbeats 4000000 in
theorem c_X11_valley {l : Launch}  {ad0 : Nat → Nat} {v0 : XM}   {o : Int32 × XM} (h : f_X11_valley v0 = some o) : CT l yX11_valley cX11_valley 2 (some .int) 7 [(shFoldRoads, ad0)] [v0] (fun aK => [.ref (ad0 0)]) (some (.int o.1)) True [o.2] := by
  refine CT_of (by decide) (fun _ => Nat.le_of_ble_eq_true rfl) ?_
  intro p e s m args below meth c D tc aK aV A X
  have X : Cx p s m args meth c cX11_valley 2 (some .int) RX11 D tc aK aV A [(shFoldRoads, ad0)] := X
  show aW p l e (x_Rm 7) s m args below meth c D tc A 2 [(shFoldRoads, ad0)] (some (.int o.1)) True [o.2] 0 [(0, .ref (ad0 0))] [] [v0]
  unfold f_X11_valley at h
  refine a_aload_n (pc := 0) X 0 dX11_valley_0 rfl rfl ?_
  refine a_getR (pc := 1) X 0 265 265 fl_RX11_46 rfl rfl rfl rfl rfl dX11_valley_1 ?_
  refine a_aload_n (pc := 4) X 0 dX11_valley_4 rfl rfl ?_
  refine a_getR (pc := 5) X 0 1 1 fl_RX11_12 rfl rfl rfl rfl rfl dX11_valley_5 ?_
  obtain ⟨y1, e_y1, h⟩ := x_bo_elim h
  refine a_callV (pc := 8) (st2 := [.int y1.1]) (vs2 := [x_put (x_put v0 265 17 y1.2.1) 1 4 y1.2.2]) X [(0, 265, 17), (0, 1, 4)] [some y1.2.1, some y1.2.2] 0 265 6 [.ref (ad0 1)] [] cv_RX11_86 (c_X6_readValley (ad0 := (fun i => ad0 (i + 265))) (ad1 := (fun i => ad0 (i + 1)))  e_y1) rfl rfl rfl rfl rfl rfl rfl rfl rfl rfl rfl rfl rfl rfl rfl (Nat.le_of_ble_eq_true rfl) ⟨Nat.le_of_ble_eq_true rfl, Nat.le_of_ble_eq_true rfl⟩ dX11_valley_8 (fun _ => ?_)
  obtain ⟨m2, e_m2, h⟩ := x_lt_elim h
  refine a_nm (vs2 := [m2]) (congrArg (fun q : XM => [q]) e_m2) ?_
  refine a_istore_n (pc := 11) X [(1, .int y1.1), (0, .ref (ad0 0))] dX11_valley_11 rfl (by decide) rfl ?_
  refine a_aload_n (pc := 12) X 1 dX11_valley_12 rfl rfl ?_
  refine a_getR (pc := 13) X 0 1 1 fl_RX11_12 rfl rfl rfl rfl rfl dX11_valley_13 ?_
  refine a_iconst (pc := 16) X dX11_valley_16 q_ic_0 ?_
  refine a_putI (pc := 17) X 0 fl_RX11_78 rfl rfl rfl rfl dX11_valley_17 ?_
  obtain ⟨m3, e_m3, h⟩ := x_lt_elim h
  refine a_nm (vs2 := [m3]) (congrArg (fun q : XM => [q]) e_m3) ?_
  refine a_iload_n (pc := 20) X 0 dX11_valley_20 rfl rfl ?_
  refine a_iconst (pc := 21) X dX11_valley_21 q_ic_m1 ?_
  refine a_icmp_ne (pc := 22) X 35 dX11_valley_22 rfl (fun c_22 => ?_) (fun c_22 => ?_)
  · have h := x_ifn c_22 h
    refine a_aload_n (pc := 35) X 1 dX11_valley_35 rfl rfl ?_
    refine a_getR (pc := 36) X 0 5 5 fl_RX11_19 rfl rfl rfl rfl rfl dX11_valley_36 ?_
    refine a_aload_n (pc := 39) X 1 dX11_valley_39 rfl rfl ?_
    refine a_getR (pc := 40) X 0 265 265 fl_RX11_46 rfl rfl rfl rfl rfl dX11_valley_40 ?_
    refine a_getR (pc := 43) X 0 1 266 fl_RX11_93 rfl rfl rfl rfl rfl dX11_valley_43 ?_
    obtain ⟨y4, e_y4, h⟩ := x_bo_elim h
    refine a_callV (pc := 46) (st2 := []) (vs2 := [x_put m3 5 41 y4]) X [(0, 5, 41), (0, 266, 16)] [some y4, none] 0 5 10 [.ref (ad0 266)] [] cv_RX11_96 (c_X10_found (ad0 := (fun i => ad0 (i + 5))) (ad1 := (fun i => ad0 (i + 266)))  e_y4) rfl rfl rfl rfl rfl rfl rfl rfl rfl rfl rfl rfl rfl rfl rfl (Nat.le_of_ble_eq_true rfl) ⟨Nat.le_of_ble_eq_true rfl, Nat.le_of_ble_eq_true rfl⟩ dX11_valley_46 (fun _ => ?_)
    obtain ⟨m5, e_m5, h⟩ := x_lt_elim h
    refine a_nm (vs2 := [m5]) (congrArg (fun q : XM => [q]) e_m5) ?_
    refine a_aload_n (pc := 49) X 1 dX11_valley_49 rfl rfl ?_
    refine a_getR (pc := 50) X 0 143 143 fl_RX11_39 rfl rfl rfl rfl rfl dX11_valley_50 ?_
    obtain ⟨y6, e_y6, h⟩ := x_lt_elim h
    refine a_callV (pc := 53) (st2 := []) (vs2 := [x_put m5 143 122 y6]) X [(0, 143, 122)] [some y6] 0 143 1 [] [] cv_RX11_100 (c_X1_forget (ad0 := (fun i => ad0 (i + 143)))  e_y6) rfl rfl rfl rfl rfl rfl rfl rfl rfl rfl rfl rfl rfl rfl rfl (Nat.le_of_ble_eq_true rfl) ⟨Nat.le_of_ble_eq_true rfl, Nat.le_of_ble_eq_true rfl⟩ dX11_valley_53 (fun _ => ?_)
    obtain ⟨m7, e_m7, h⟩ := x_lt_elim h
    refine a_nm (vs2 := [m7]) (congrArg (fun q : XM => [q]) e_m7) ?_
    refine a_iload_n (pc := 56) X 0 dX11_valley_56 rfl rfl ?_
    have h := Option.some.inj h; subst h
    exact a_iret (pc := 57) X trivial dX11_valley_57
  · have h := x_ifp c_22 h
    refine a_iconst (pc := 25) X dX11_valley_25 q_ic_m1 ?_
    refine a_aload_n (pc := 26) X 1 dX11_valley_26 rfl rfl ?_
    refine a_getR (pc := 27) X 0 1 1 fl_RX11_12 rfl rfl rfl rfl rfl dX11_valley_27 ?_
    refine a_getI (pc := 30) X 0 fl_RX11_90 rfl rfl rfl rfl dX11_valley_30 ?_
    refine a_isub (pc := 33) X dX11_valley_33 ?_
    have h := Option.some.inj h; subst h
    exact a_iret (pc := 34) X trivial dX11_valley_34
theorem dX11_fault_0 : decode cX11_fault 0 = .ok (.aload_n 0, 1) := by decide +kernel
theorem dX11_fault_1 : decode cX11_fault 1 = .ok (.getfield 12, 3) := by decide +kernel
theorem dX11_fault_4 : decode cX11_fault 4 = .ok (.getfield 103, 3) := by decide +kernel
theorem dX11_fault_7 : decode cX11_fault 7 = .ok (.ireturn, 1) := by decide +kernel
def f_X11_fault (v0 : XM) : Int32 :=
  (v0.1 1 10 : Int32)
set_option maxRecDepth 100000 in
set_option maxHeartbeats 4000000 in
theorem c_X11_fault {l : Launch}  {ad0 : Nat → Nat} {v0 : XM}   {o : Int32} (h : f_X11_fault v0 = o) : CT l yX11_fault cX11_fault 1 (some .int) 0 [(shFoldRoads, ad0)] [v0] (fun aK => [.ref (ad0 0)]) (some (.int o)) True [v0] := by
  refine CT_of (by decide) (fun _ => Nat.le_of_ble_eq_true rfl) ?_
  intro p e s m args below meth c D tc aK aV A X
  have X : Cx p s m args meth c cX11_fault 1 (some .int) RX11 D tc aK aV A [(shFoldRoads, ad0)] := X
  show aW p l e (x_Rm 0) s m args below meth c D tc A 1 [(shFoldRoads, ad0)] (some (.int o)) True [v0] 0 [(0, .ref (ad0 0))] [] [v0]
  unfold f_X11_fault at h
  refine a_aload_n (pc := 0) X 0 dX11_fault_0 rfl rfl ?_
  refine a_getR (pc := 1) X 0 1 1 fl_RX11_12 rfl rfl rfl rfl rfl dX11_fault_1 ?_
  refine a_getI (pc := 4) X 0 fl_RX11_103 rfl rfl rfl rfl dX11_fault_4 ?_
  subst h
  exact a_iret (pc := 7) X trivial dX11_fault_7
theorem dX11_fold_0 : decode cX11_fold 0 = .ok (.aload_n 0, 1) := by decide +kernel
theorem dX11_fold_1 : decode cX11_fold 1 = .ok (.getfield 19, 3) := by decide +kernel
theorem dX11_fold_4 : decode cX11_fold 4 = .ok (.getfield 106, 3) := by decide +kernel
theorem dX11_fold_7 : decode cX11_fold 7 = .ok (.iload_n 1, 1) := by decide +kernel
theorem dX11_fold_8 : decode cX11_fold 8 = .ok (.invokevirtual 150, 3) := by decide +kernel
theorem dX11_fold_11 : decode cX11_fold 11 = .ok (.ifCond .ne 5, 3) := by decide +kernel
theorem dX11_fold_14 : decode cX11_fold 14 = .ok (.iconst (-1), 1) := by decide +kernel
theorem dX11_fold_15 : decode cX11_fold 15 = .ok (.ireturn, 1) := by decide +kernel
theorem dX11_fold_16 : decode cX11_fold 16 = .ok (.iload_n 2, 1) := by decide +kernel
theorem dX11_fold_17 : decode cX11_fold 17 = .ok (.tableswitch 117 0 5 #[39, 54, 69, 78, 93, 108], 39) := by decide +kernel
theorem dX11_fold_56 : decode cX11_fold 56 = .ok (.aload_n 0, 1) := by decide +kernel
theorem dX11_fold_57 : decode cX11_fold 57 = .ok (.getfield 19, 3) := by decide +kernel
theorem dX11_fold_60 : decode cX11_fold 60 = .ok (.getfield 106, 3) := by decide +kernel
theorem dX11_fold_63 : decode cX11_fold 63 = .ok (.getfield 153, 3) := by decide +kernel
theorem dX11_fold_66 : decode cX11_fold 66 = .ok (.iload_n 1, 1) := by decide +kernel
theorem dX11_fold_67 : decode cX11_fold 67 = .ok (.invokevirtual 125, 3) := by decide +kernel
theorem dX11_fold_70 : decode cX11_fold 70 = .ok (.ireturn, 1) := by decide +kernel
theorem dX11_fold_71 : decode cX11_fold 71 = .ok (.aload_n 0, 1) := by decide +kernel
theorem dX11_fold_72 : decode cX11_fold 72 = .ok (.getfield 19, 3) := by decide +kernel
theorem dX11_fold_75 : decode cX11_fold 75 = .ok (.getfield 106, 3) := by decide +kernel
theorem dX11_fold_78 : decode cX11_fold 78 = .ok (.getfield 156, 3) := by decide +kernel
theorem dX11_fold_81 : decode cX11_fold 81 = .ok (.iload_n 1, 1) := by decide +kernel
theorem dX11_fold_82 : decode cX11_fold 82 = .ok (.invokevirtual 125, 3) := by decide +kernel
theorem dX11_fold_85 : decode cX11_fold 85 = .ok (.ireturn, 1) := by decide +kernel
theorem dX11_fold_86 : decode cX11_fold 86 = .ok (.aload_n 0, 1) := by decide +kernel
theorem dX11_fold_87 : decode cX11_fold 87 = .ok (.getfield 19, 3) := by decide +kernel
theorem dX11_fold_90 : decode cX11_fold 90 = .ok (.iload_n 1, 1) := by decide +kernel
theorem dX11_fold_91 : decode cX11_fold 91 = .ok (.invokevirtual 159, 3) := by decide +kernel
theorem dX11_fold_94 : decode cX11_fold 94 = .ok (.ireturn, 1) := by decide +kernel
theorem dX11_fold_95 : decode cX11_fold 95 = .ok (.aload_n 0, 1) := by decide +kernel
theorem dX11_fold_96 : decode cX11_fold 96 = .ok (.getfield 19, 3) := by decide +kernel
theorem dX11_fold_99 : decode cX11_fold 99 = .ok (.getfield 106, 3) := by decide +kernel
theorem dX11_fold_102 : decode cX11_fold 102 = .ok (.getfield 162, 3) := by decide +kernel
theorem dX11_fold_105 : decode cX11_fold 105 = .ok (.iload_n 1, 1) := by decide +kernel
theorem dX11_fold_106 : decode cX11_fold 106 = .ok (.invokevirtual 125, 3) := by decide +kernel
theorem dX11_fold_109 : decode cX11_fold 109 = .ok (.ireturn, 1) := by decide +kernel
theorem dX11_fold_110 : decode cX11_fold 110 = .ok (.aload_n 0, 1) := by decide +kernel
theorem dX11_fold_111 : decode cX11_fold 111 = .ok (.getfield 19, 3) := by decide +kernel
theorem dX11_fold_114 : decode cX11_fold 114 = .ok (.getfield 118, 3) := by decide +kernel
theorem dX11_fold_117 : decode cX11_fold 117 = .ok (.getfield 165, 3) := by decide +kernel
theorem dX11_fold_120 : decode cX11_fold 120 = .ok (.iload_n 1, 1) := by decide +kernel
theorem dX11_fold_121 : decode cX11_fold 121 = .ok (.invokevirtual 125, 3) := by decide +kernel
theorem dX11_fold_124 : decode cX11_fold 124 = .ok (.ireturn, 1) := by decide +kernel
theorem dX11_fold_125 : decode cX11_fold 125 = .ok (.aload_n 0, 1) := by decide +kernel
theorem dX11_fold_126 : decode cX11_fold 126 = .ok (.getfield 19, 3) := by decide +kernel
theorem dX11_fold_129 : decode cX11_fold 129 = .ok (.iload_n 1, 1) := by decide +kernel
theorem dX11_fold_130 : decode cX11_fold 130 = .ok (.invokevirtual 168, 3) := by decide +kernel
theorem dX11_fold_133 : decode cX11_fold 133 = .ok (.ireturn, 1) := by decide +kernel
theorem dX11_fold_134 : decode cX11_fold 134 = .ok (.iconst (-1), 1) := by decide +kernel
theorem dX11_fold_135 : decode cX11_fold 135 = .ok (.ireturn, 1) := by decide +kernel
def f_X11_fold (v0 : XM) (x0 : Int32) (x1 : Int32) : Option (Int32) :=
  x_lt (f_X9_hasFold (x_sub v0 6) x0) (fun y1 =>
  if y1 = (0 : Int32) then
  (some ((-1 : Int32) : Int32))
  else (if x1 = (0 : Int32) then
  (x_lt (r_get 12 (x_sub v0 7) x0) (fun y3 =>
  some (y3 : Int32)))
  else (if x1 = (1 : Int32) then
  (x_lt (r_get 12 (x_sub v0 9) x0) (fun y4 =>
  some (y4 : Int32)))
  else (if x1 = (2 : Int32) then
  (x_lt (f_X10_deepNow (x_sub v0 5) x0) (fun y5 =>
  some (y5 : Int32)))
  else (if x1 = (3 : Int32) then
  (x_lt (r_get 12 (x_sub v0 13) x0) (fun y6 =>
  some (y6 : Int32)))
  else (if x1 = (4 : Int32) then
  (x_lt (r_get 12 (x_sub v0 35) x0) (fun y7 =>
  some (y7 : Int32)))
  else (if x1 = (5 : Int32) then
  (x_bo (f_X10_goersAlong (x_sub v0 5) x0) (fun y8 =>
  some (y8 : Int32)))
  else (some ((-1 : Int32) : Int32)))))))))
set_option maxRecDepth 100000 in
set_option maxHeartbeats 4000000 in
theorem c_X11_fold {l : Launch}  {ad0 : Nat → Nat} {v0 : XM} {x0 : Int32} {x1 : Int32}  {o : Int32} (h : f_X11_fold v0 x0 x1 = some o) : CT l yX11_fold cX11_fold 3 (some .int) 3 [(shFoldRoads, ad0)] [v0] (fun aK => [.ref (ad0 0), .int x0, .int x1]) (some (.int o)) True [v0] := by
  refine CT_of (by decide) (fun _ => Nat.le_of_ble_eq_true rfl) ?_
  intro p e s m args below meth c D tc aK aV A X
  have X : Cx p s m args meth c cX11_fold 3 (some .int) RX11 D tc aK aV A [(shFoldRoads, ad0)] := X
  show aW p l e (x_Rm 3) s m args below meth c D tc A 3 [(shFoldRoads, ad0)] (some (.int o)) True [v0] 0 [(0, .ref (ad0 0)), (1, .int x0), (2, .int x1)] [] [v0]
  unfold f_X11_fold at h
  refine a_aload_n (pc := 0) X 0 dX11_fold_0 rfl rfl ?_
  refine a_getR (pc := 1) X 0 5 5 fl_RX11_19 rfl rfl rfl rfl rfl dX11_fold_1 ?_
  refine a_getR (pc := 4) X 0 1 6 fl_RX11_106 rfl rfl rfl rfl rfl dX11_fold_4 ?_
  refine a_iload_n (pc := 7) X 1 dX11_fold_7 rfl rfl ?_
  obtain ⟨y1, e_y1, h⟩ := x_lt_elim h
  refine a_callV (pc := 8) (st2 := [.int y1]) (vs2 := [v0]) X [(0, 6, 16)] [none] 0 6 9 [.int x0] [] cv_RX11_150 (c_X9_hasFold (ad0 := (fun i => ad0 (i + 6)))  e_y1) rfl rfl rfl rfl rfl rfl rfl rfl rfl rfl rfl rfl rfl rfl rfl (Nat.le_of_ble_eq_true rfl) ⟨Nat.le_of_ble_eq_true rfl, Nat.le_of_ble_eq_true rfl⟩ dX11_fold_8 (fun z_8 => ?_)
  refine a_if_ne (pc := 11) X 16 dX11_fold_11 rfl (fun c_11 => ?_) (fun c_11 => ?_)
  · have h := x_ifn c_11 h
    refine a_iload_n (pc := 16) X 2 dX11_fold_16 rfl rfl ?_
    by_cases c_17_0 : x1 = (0 : Int32)
    · have h := x_ifp c_17_0 h
      refine a_tin (pc := 17) X 56 dX11_fold_17 c_17_0 (by decide) (by decide) rfl rfl ?_
      refine a_aload_n (pc := 56) X 0 dX11_fold_56 rfl rfl ?_
      refine a_getR (pc := 57) X 0 5 5 fl_RX11_19 rfl rfl rfl rfl rfl dX11_fold_57 ?_
      refine a_getR (pc := 60) X 0 1 6 fl_RX11_106 rfl rfl rfl rfl rfl dX11_fold_60 ?_
      refine a_getR (pc := 63) X 0 1 7 fl_RX11_153 rfl rfl rfl rfl rfl dX11_fold_63 ?_
      refine a_iload_n (pc := 66) X 1 dX11_fold_66 rfl rfl ?_
      obtain ⟨y3, e_y3, h⟩ := x_lt_elim h
      refine a_callV (pc := 67) (st2 := [.int y3]) (vs2 := [v0]) X [(0, 7, 2)] [none] 0 7 3 [.int x0] [] cv_RX11_125 (ct_get (ad0 := (fun i => ad0 (i + 7))) (by decide) e_y3) rfl rfl rfl rfl rfl rfl rfl rfl rfl rfl rfl rfl rfl rfl rfl (Nat.le_of_ble_eq_true rfl) ⟨Nat.le_of_ble_eq_true rfl, Nat.le_of_ble_eq_true rfl⟩ dX11_fold_67 (fun _ => ?_)
      have h := Option.some.inj h; subst h
      exact a_iret (pc := 70) X trivial dX11_fold_70
    · have h := x_ifn c_17_0 h
      by_cases c_17_1 : x1 = (1 : Int32)
      · have h := x_ifp c_17_1 h
        refine a_tin (pc := 17) X 71 dX11_fold_17 c_17_1 (by decide) (by decide) rfl rfl ?_
        refine a_aload_n (pc := 71) X 0 dX11_fold_71 rfl rfl ?_
        refine a_getR (pc := 72) X 0 5 5 fl_RX11_19 rfl rfl rfl rfl rfl dX11_fold_72 ?_
        refine a_getR (pc := 75) X 0 1 6 fl_RX11_106 rfl rfl rfl rfl rfl dX11_fold_75 ?_
        refine a_getR (pc := 78) X 0 3 9 fl_RX11_156 rfl rfl rfl rfl rfl dX11_fold_78 ?_
        refine a_iload_n (pc := 81) X 1 dX11_fold_81 rfl rfl ?_
        obtain ⟨y4, e_y4, h⟩ := x_lt_elim h
        refine a_callV (pc := 82) (st2 := [.int y4]) (vs2 := [v0]) X [(0, 9, 2)] [none] 0 9 3 [.int x0] [] cv_RX11_125 (ct_get (ad0 := (fun i => ad0 (i + 9))) (by decide) e_y4) rfl rfl rfl rfl rfl rfl rfl rfl rfl rfl rfl rfl rfl rfl rfl (Nat.le_of_ble_eq_true rfl) ⟨Nat.le_of_ble_eq_true rfl, Nat.le_of_ble_eq_true rfl⟩ dX11_fold_82 (fun _ => ?_)
        have h := Option.some.inj h; subst h
        exact a_iret (pc := 85) X trivial dX11_fold_85
      · have h := x_ifn c_17_1 h
        by_cases c_17_2 : x1 = (2 : Int32)
        · have h := x_ifp c_17_2 h
          refine a_tin (pc := 17) X 86 dX11_fold_17 c_17_2 (by decide) (by decide) rfl rfl ?_
          refine a_aload_n (pc := 86) X 0 dX11_fold_86 rfl rfl ?_
          refine a_getR (pc := 87) X 0 5 5 fl_RX11_19 rfl rfl rfl rfl rfl dX11_fold_87 ?_
          refine a_iload_n (pc := 90) X 1 dX11_fold_90 rfl rfl ?_
          obtain ⟨y5, e_y5, h⟩ := x_lt_elim h
          refine a_callV (pc := 91) (st2 := [.int y5]) (vs2 := [v0]) X [(0, 5, 32)] [none] 0 5 10 [.int x0] [] cv_RX11_159 (c_X10_deepNow (ad0 := (fun i => ad0 (i + 5)))  e_y5) rfl rfl rfl rfl rfl rfl rfl rfl rfl rfl rfl rfl rfl rfl rfl (Nat.le_of_ble_eq_true rfl) ⟨Nat.le_of_ble_eq_true rfl, Nat.le_of_ble_eq_true rfl⟩ dX11_fold_91 (fun _ => ?_)
          have h := Option.some.inj h; subst h
          exact a_iret (pc := 94) X trivial dX11_fold_94
        · have h := x_ifn c_17_2 h
          by_cases c_17_3 : x1 = (3 : Int32)
          · have h := x_ifp c_17_3 h
            refine a_tin (pc := 17) X 95 dX11_fold_17 c_17_3 (by decide) (by decide) rfl rfl ?_
            refine a_aload_n (pc := 95) X 0 dX11_fold_95 rfl rfl ?_
            refine a_getR (pc := 96) X 0 5 5 fl_RX11_19 rfl rfl rfl rfl rfl dX11_fold_96 ?_
            refine a_getR (pc := 99) X 0 1 6 fl_RX11_106 rfl rfl rfl rfl rfl dX11_fold_99 ?_
            refine a_getR (pc := 102) X 0 7 13 fl_RX11_162 rfl rfl rfl rfl rfl dX11_fold_102 ?_
            refine a_iload_n (pc := 105) X 1 dX11_fold_105 rfl rfl ?_
            obtain ⟨y6, e_y6, h⟩ := x_lt_elim h
            refine a_callV (pc := 106) (st2 := [.int y6]) (vs2 := [v0]) X [(0, 13, 2)] [none] 0 13 3 [.int x0] [] cv_RX11_125 (ct_get (ad0 := (fun i => ad0 (i + 13))) (by decide) e_y6) rfl rfl rfl rfl rfl rfl rfl rfl rfl rfl rfl rfl rfl rfl rfl (Nat.le_of_ble_eq_true rfl) ⟨Nat.le_of_ble_eq_true rfl, Nat.le_of_ble_eq_true rfl⟩ dX11_fold_106 (fun _ => ?_)
            have h := Option.some.inj h; subst h
            exact a_iret (pc := 109) X trivial dX11_fold_109
          · have h := x_ifn c_17_3 h
            by_cases c_17_4 : x1 = (4 : Int32)
            · have h := x_ifp c_17_4 h
              refine a_tin (pc := 17) X 110 dX11_fold_17 c_17_4 (by decide) (by decide) rfl rfl ?_
              refine a_aload_n (pc := 110) X 0 dX11_fold_110 rfl rfl ?_
              refine a_getR (pc := 111) X 0 5 5 fl_RX11_19 rfl rfl rfl rfl rfl dX11_fold_111 ?_
              refine a_getR (pc := 114) X 0 17 22 fl_RX11_118 rfl rfl rfl rfl rfl dX11_fold_114 ?_
              refine a_getR (pc := 117) X 0 13 35 fl_RX11_165 rfl rfl rfl rfl rfl dX11_fold_117 ?_
              refine a_iload_n (pc := 120) X 1 dX11_fold_120 rfl rfl ?_
              obtain ⟨y7, e_y7, h⟩ := x_lt_elim h
              refine a_callV (pc := 121) (st2 := [.int y7]) (vs2 := [v0]) X [(0, 35, 2)] [none] 0 35 3 [.int x0] [] cv_RX11_125 (ct_get (ad0 := (fun i => ad0 (i + 35))) (by decide) e_y7) rfl rfl rfl rfl rfl rfl rfl rfl rfl rfl rfl rfl rfl rfl rfl (Nat.le_of_ble_eq_true rfl) ⟨Nat.le_of_ble_eq_true rfl, Nat.le_of_ble_eq_true rfl⟩ dX11_fold_121 (fun _ => ?_)
              have h := Option.some.inj h; subst h
              exact a_iret (pc := 124) X trivial dX11_fold_124
            · have h := x_ifn c_17_4 h
              by_cases c_17_5 : x1 = (5 : Int32)
              · have h := x_ifp c_17_5 h
                refine a_tin (pc := 17) X 125 dX11_fold_17 c_17_5 (by decide) (by decide) rfl rfl ?_
                refine a_aload_n (pc := 125) X 0 dX11_fold_125 rfl rfl ?_
                refine a_getR (pc := 126) X 0 5 5 fl_RX11_19 rfl rfl rfl rfl rfl dX11_fold_126 ?_
                refine a_iload_n (pc := 129) X 1 dX11_fold_129 rfl rfl ?_
                obtain ⟨y8, e_y8, h⟩ := x_bo_elim h
                refine a_callV (pc := 130) (st2 := [.int y8]) (vs2 := [v0]) X [(0, 5, 32)] [none] 0 5 10 [.int x0] [] cv_RX11_168 (c_X10_goersAlong (ad0 := (fun i => ad0 (i + 5)))  e_y8) rfl rfl rfl rfl rfl rfl rfl rfl rfl rfl rfl rfl rfl rfl rfl (Nat.le_of_ble_eq_true rfl) ⟨Nat.le_of_ble_eq_true rfl, Nat.le_of_ble_eq_true rfl⟩ dX11_fold_130 (fun _ => ?_)
                have h := Option.some.inj h; subst h
                exact a_iret (pc := 133) X trivial dX11_fold_133
              · have h := x_ifn c_17_5 h
                refine a_tout (pc := 17) X 134 dX11_fold_17 (by have q0 := x_ne c_17_0; have q1 := x_ne c_17_1; have q2 := x_ne c_17_2; have q3 := x_ne c_17_3; have q4 := x_ne c_17_4; have q5 := x_ne c_17_5; have q0 : (x1 : Int32).toInt ≠ 0 := q0; have q1 : (x1 : Int32).toInt ≠ 1 := q1; have q2 : (x1 : Int32).toInt ≠ 2 := q2; have q3 : (x1 : Int32).toInt ≠ 3 := q3; have q4 : (x1 : Int32).toInt ≠ 4 := q4; have q5 : (x1 : Int32).toInt ≠ 5 := q5; omega) rfl ?_
                refine a_iconst (pc := 134) X dX11_fold_134 q_ic_m1 ?_
                have h := Option.some.inj h; subst h
                exact a_iret (pc := 135) X trivial dX11_fold_135
  · have h := x_ifp c_11 h
    refine a_iconst (pc := 14) X dX11_fold_14 q_ic_m1 ?_
    have h := Option.some.inj h; subst h
    exact a_iret (pc := 15) X trivial dX11_fold_15
theorem dX11_spot_0 : decode cX11_spot 0 = .ok (.aload_n 0, 1) := by decide +kernel
theorem dX11_spot_1 : decode cX11_spot 1 = .ok (.getfield 19, 3) := by decide +kernel
theorem dX11_spot_4 : decode cX11_spot 4 = .ok (.getfield 106, 3) := by decide +kernel
theorem dX11_spot_7 : decode cX11_spot 7 = .ok (.iload_n 1, 1) := by decide +kernel
theorem dX11_spot_8 : decode cX11_spot 8 = .ok (.invokevirtual 171, 3) := by decide +kernel
theorem dX11_spot_11 : decode cX11_spot 11 = .ok (.ifCond .ne 5, 3) := by decide +kernel
theorem dX11_spot_14 : decode cX11_spot 14 = .ok (.iconst (-1), 1) := by decide +kernel
theorem dX11_spot_15 : decode cX11_spot 15 = .ok (.ireturn, 1) := by decide +kernel
theorem dX11_spot_16 : decode cX11_spot 16 = .ok (.iload_n 2, 1) := by decide +kernel
theorem dX11_spot_17 : decode cX11_spot 17 = .ok (.tableswitch 79 0 3 #[31, 46, 58, 70], 31) := by decide +kernel
theorem dX11_spot_48 : decode cX11_spot 48 = .ok (.aload_n 0, 1) := by decide +kernel
theorem dX11_spot_49 : decode cX11_spot 49 = .ok (.getfield 19, 3) := by decide +kernel
theorem dX11_spot_52 : decode cX11_spot 52 = .ok (.getfield 106, 3) := by decide +kernel
theorem dX11_spot_55 : decode cX11_spot 55 = .ok (.getfield 174, 3) := by decide +kernel
theorem dX11_spot_58 : decode cX11_spot 58 = .ok (.iload_n 1, 1) := by decide +kernel
theorem dX11_spot_59 : decode cX11_spot 59 = .ok (.ishr, 1) := by decide +kernel
theorem dX11_spot_60 : decode cX11_spot 60 = .ok (.iconst 1, 1) := by decide +kernel
theorem dX11_spot_61 : decode cX11_spot 61 = .ok (.iand, 1) := by decide +kernel
theorem dX11_spot_62 : decode cX11_spot 62 = .ok (.ireturn, 1) := by decide +kernel
theorem dX11_spot_63 : decode cX11_spot 63 = .ok (.aload_n 0, 1) := by decide +kernel
theorem dX11_spot_64 : decode cX11_spot 64 = .ok (.getfield 19, 3) := by decide +kernel
theorem dX11_spot_67 : decode cX11_spot 67 = .ok (.getfield 106, 3) := by decide +kernel
theorem dX11_spot_70 : decode cX11_spot 70 = .ok (.iload_n 1, 1) := by decide +kernel
theorem dX11_spot_71 : decode cX11_spot 71 = .ok (.invokevirtual 177, 3) := by decide +kernel
theorem dX11_spot_74 : decode cX11_spot 74 = .ok (.ireturn, 1) := by decide +kernel
theorem dX11_spot_75 : decode cX11_spot 75 = .ok (.aload_n 0, 1) := by decide +kernel
theorem dX11_spot_76 : decode cX11_spot 76 = .ok (.getfield 19, 3) := by decide +kernel
theorem dX11_spot_79 : decode cX11_spot 79 = .ok (.getfield 106, 3) := by decide +kernel
theorem dX11_spot_82 : decode cX11_spot 82 = .ok (.iload_n 1, 1) := by decide +kernel
theorem dX11_spot_83 : decode cX11_spot 83 = .ok (.invokevirtual 180, 3) := by decide +kernel
theorem dX11_spot_86 : decode cX11_spot 86 = .ok (.ireturn, 1) := by decide +kernel
theorem dX11_spot_87 : decode cX11_spot 87 = .ok (.aload_n 0, 1) := by decide +kernel
theorem dX11_spot_88 : decode cX11_spot 88 = .ok (.getfield 19, 3) := by decide +kernel
theorem dX11_spot_91 : decode cX11_spot 91 = .ok (.iload_n 1, 1) := by decide +kernel
theorem dX11_spot_92 : decode cX11_spot 92 = .ok (.invokevirtual 183, 3) := by decide +kernel
theorem dX11_spot_95 : decode cX11_spot 95 = .ok (.ireturn, 1) := by decide +kernel
theorem dX11_spot_96 : decode cX11_spot 96 = .ok (.iconst (-1), 1) := by decide +kernel
theorem dX11_spot_97 : decode cX11_spot 97 = .ok (.ireturn, 1) := by decide +kernel
def f_X11_spot (v0 : XM) (x0 : Int32) (x1 : Int32) : Option (Int32) :=
  x_lt (f_X9_hasSpot (x_sub v0 6) x0) (fun y1 =>
  if y1 = (0 : Int32) then
  (some ((-1 : Int32) : Int32))
  else (if x1 = (0 : Int32) then
  (x_lt (((v0.1 6 5) >>> (x0 &&& 31)) &&& (1 : Int32)) (fun y3 =>
  some (y3 : Int32)))
  else (if x1 = (1 : Int32) then
  (x_bo (f_X9_thingsAt (x_sub v0 6) x0) (fun y4 =>
  some (y4 : Int32)))
  else (if x1 = (2 : Int32) then
  (x_bo (f_X9_foldsAt (x_sub v0 6) x0) (fun y5 =>
  some (y5 : Int32)))
  else (if x1 = (3 : Int32) then
  (x_bo (f_X10_walkersAt (x_sub v0 5) x0) (fun y6 =>
  some (y6 : Int32)))
  else (some ((-1 : Int32) : Int32)))))))
set_option maxRecDepth 100000 in
set_option maxHeartbeats 4000000 in
theorem c_X11_spot {l : Launch}  {ad0 : Nat → Nat} {v0 : XM} {x0 : Int32} {x1 : Int32}  {o : Int32} (h : f_X11_spot v0 x0 x1 = some o) : CT l yX11_spot cX11_spot 3 (some .int) 4 [(shFoldRoads, ad0)] [v0] (fun aK => [.ref (ad0 0), .int x0, .int x1]) (some (.int o)) True [v0] := by
  refine CT_of (by decide) (fun _ => Nat.le_of_ble_eq_true rfl) ?_
  intro p e s m args below meth c D tc aK aV A X
  have X : Cx p s m args meth c cX11_spot 3 (some .int) RX11 D tc aK aV A [(shFoldRoads, ad0)] := X
  show aW p l e (x_Rm 4) s m args below meth c D tc A 3 [(shFoldRoads, ad0)] (some (.int o)) True [v0] 0 [(0, .ref (ad0 0)), (1, .int x0), (2, .int x1)] [] [v0]
  unfold f_X11_spot at h
  refine a_aload_n (pc := 0) X 0 dX11_spot_0 rfl rfl ?_
  refine a_getR (pc := 1) X 0 5 5 fl_RX11_19 rfl rfl rfl rfl rfl dX11_spot_1 ?_
  refine a_getR (pc := 4) X 0 1 6 fl_RX11_106 rfl rfl rfl rfl rfl dX11_spot_4 ?_
  refine a_iload_n (pc := 7) X 1 dX11_spot_7 rfl rfl ?_
  obtain ⟨y1, e_y1, h⟩ := x_lt_elim h
  refine a_callV (pc := 8) (st2 := [.int y1]) (vs2 := [v0]) X [(0, 6, 16)] [none] 0 6 9 [.int x0] [] cv_RX11_171 (c_X9_hasSpot (ad0 := (fun i => ad0 (i + 6)))  e_y1) rfl rfl rfl rfl rfl rfl rfl rfl rfl rfl rfl rfl rfl rfl rfl (Nat.le_of_ble_eq_true rfl) ⟨Nat.le_of_ble_eq_true rfl, Nat.le_of_ble_eq_true rfl⟩ dX11_spot_8 (fun z_8 => ?_)
  refine a_if_ne (pc := 11) X 16 dX11_spot_11 rfl (fun c_11 => ?_) (fun c_11 => ?_)
  · have h := x_ifn c_11 h
    refine a_iload_n (pc := 16) X 2 dX11_spot_16 rfl rfl ?_
    by_cases c_17_0 : x1 = (0 : Int32)
    · have h := x_ifp c_17_0 h
      refine a_tin (pc := 17) X 48 dX11_spot_17 c_17_0 (by decide) (by decide) rfl rfl ?_
      refine a_aload_n (pc := 48) X 0 dX11_spot_48 rfl rfl ?_
      refine a_getR (pc := 49) X 0 5 5 fl_RX11_19 rfl rfl rfl rfl rfl dX11_spot_49 ?_
      refine a_getR (pc := 52) X 0 1 6 fl_RX11_106 rfl rfl rfl rfl rfl dX11_spot_52 ?_
      refine a_getI (pc := 55) X 0 fl_RX11_174 rfl rfl rfl rfl dX11_spot_55 ?_
      refine a_iload_n (pc := 58) X 1 dX11_spot_58 rfl rfl ?_
      refine a_ishr (pc := 59) X dX11_spot_59 ?_
      refine a_iconst (pc := 60) X dX11_spot_60 q_ic_1 ?_
      refine a_iand (pc := 61) X dX11_spot_61 ?_
      obtain ⟨y3, e_y3, h⟩ := x_lt_elim h
      refine a_ni e_y3 ?_
      have h := Option.some.inj h; subst h
      exact a_iret (pc := 62) X trivial dX11_spot_62
    · have h := x_ifn c_17_0 h
      by_cases c_17_1 : x1 = (1 : Int32)
      · have h := x_ifp c_17_1 h
        refine a_tin (pc := 17) X 63 dX11_spot_17 c_17_1 (by decide) (by decide) rfl rfl ?_
        refine a_aload_n (pc := 63) X 0 dX11_spot_63 rfl rfl ?_
        refine a_getR (pc := 64) X 0 5 5 fl_RX11_19 rfl rfl rfl rfl rfl dX11_spot_64 ?_
        refine a_getR (pc := 67) X 0 1 6 fl_RX11_106 rfl rfl rfl rfl rfl dX11_spot_67 ?_
        refine a_iload_n (pc := 70) X 1 dX11_spot_70 rfl rfl ?_
        obtain ⟨y4, e_y4, h⟩ := x_bo_elim h
        refine a_callV (pc := 71) (st2 := [.int y4]) (vs2 := [v0]) X [(0, 6, 16)] [none] 0 6 9 [.int x0] [] cv_RX11_177 (c_X9_thingsAt (ad0 := (fun i => ad0 (i + 6)))  e_y4) rfl rfl rfl rfl rfl rfl rfl rfl rfl rfl rfl rfl rfl rfl rfl (Nat.le_of_ble_eq_true rfl) ⟨Nat.le_of_ble_eq_true rfl, Nat.le_of_ble_eq_true rfl⟩ dX11_spot_71 (fun _ => ?_)
        have h := Option.some.inj h; subst h
        exact a_iret (pc := 74) X trivial dX11_spot_74
      · have h := x_ifn c_17_1 h
        by_cases c_17_2 : x1 = (2 : Int32)
        · have h := x_ifp c_17_2 h
          refine a_tin (pc := 17) X 75 dX11_spot_17 c_17_2 (by decide) (by decide) rfl rfl ?_
          refine a_aload_n (pc := 75) X 0 dX11_spot_75 rfl rfl ?_
          refine a_getR (pc := 76) X 0 5 5 fl_RX11_19 rfl rfl rfl rfl rfl dX11_spot_76 ?_
          refine a_getR (pc := 79) X 0 1 6 fl_RX11_106 rfl rfl rfl rfl rfl dX11_spot_79 ?_
          refine a_iload_n (pc := 82) X 1 dX11_spot_82 rfl rfl ?_
          obtain ⟨y5, e_y5, h⟩ := x_bo_elim h
          refine a_callV (pc := 83) (st2 := [.int y5]) (vs2 := [v0]) X [(0, 6, 16)] [none] 0 6 9 [.int x0] [] cv_RX11_180 (c_X9_foldsAt (ad0 := (fun i => ad0 (i + 6)))  e_y5) rfl rfl rfl rfl rfl rfl rfl rfl rfl rfl rfl rfl rfl rfl rfl (Nat.le_of_ble_eq_true rfl) ⟨Nat.le_of_ble_eq_true rfl, Nat.le_of_ble_eq_true rfl⟩ dX11_spot_83 (fun _ => ?_)
          have h := Option.some.inj h; subst h
          exact a_iret (pc := 86) X trivial dX11_spot_86
        · have h := x_ifn c_17_2 h
          by_cases c_17_3 : x1 = (3 : Int32)
          · have h := x_ifp c_17_3 h
            refine a_tin (pc := 17) X 87 dX11_spot_17 c_17_3 (by decide) (by decide) rfl rfl ?_
            refine a_aload_n (pc := 87) X 0 dX11_spot_87 rfl rfl ?_
            refine a_getR (pc := 88) X 0 5 5 fl_RX11_19 rfl rfl rfl rfl rfl dX11_spot_88 ?_
            refine a_iload_n (pc := 91) X 1 dX11_spot_91 rfl rfl ?_
            obtain ⟨y6, e_y6, h⟩ := x_bo_elim h
            refine a_callV (pc := 92) (st2 := [.int y6]) (vs2 := [v0]) X [(0, 5, 32)] [none] 0 5 10 [.int x0] [] cv_RX11_183 (c_X10_walkersAt (ad0 := (fun i => ad0 (i + 5)))  e_y6) rfl rfl rfl rfl rfl rfl rfl rfl rfl rfl rfl rfl rfl rfl rfl (Nat.le_of_ble_eq_true rfl) ⟨Nat.le_of_ble_eq_true rfl, Nat.le_of_ble_eq_true rfl⟩ dX11_spot_92 (fun _ => ?_)
            have h := Option.some.inj h; subst h
            exact a_iret (pc := 95) X trivial dX11_spot_95
          · have h := x_ifn c_17_3 h
            refine a_tout (pc := 17) X 96 dX11_spot_17 (by have q0 := x_ne c_17_0; have q1 := x_ne c_17_1; have q2 := x_ne c_17_2; have q3 := x_ne c_17_3; have q0 : (x1 : Int32).toInt ≠ 0 := q0; have q1 : (x1 : Int32).toInt ≠ 1 := q1; have q2 : (x1 : Int32).toInt ≠ 2 := q2; have q3 : (x1 : Int32).toInt ≠ 3 := q3; omega) rfl ?_
            refine a_iconst (pc := 96) X dX11_spot_96 q_ic_m1 ?_
            have h := Option.some.inj h; subst h
            exact a_iret (pc := 97) X trivial dX11_spot_97
  · have h := x_ifp c_11 h
    refine a_iconst (pc := 14) X dX11_spot_14 q_ic_m1 ?_
    have h := Option.some.inj h; subst h
    exact a_iret (pc := 15) X trivial dX11_spot_15
theorem dX11_now_0 : decode cX11_now 0 = .ok (.iload_n 1, 1) := by decide +kernel
theorem dX11_now_1 : decode cX11_now 1 = .ok (.tableswitch 124 0 7 #[47, 58, 69, 77, 85, 93, 105, 113], 47) := by decide +kernel
theorem dX11_now_48 : decode cX11_now 48 = .ok (.aload_n 0, 1) := by decide +kernel
theorem dX11_now_49 : decode cX11_now 49 = .ok (.getfield 19, 3) := by decide +kernel
theorem dX11_now_52 : decode cX11_now 52 = .ok (.getfield 118, 3) := by decide +kernel
theorem dX11_now_55 : decode cX11_now 55 = .ok (.getfield 186, 3) := by decide +kernel
theorem dX11_now_58 : decode cX11_now 58 = .ok (.ireturn, 1) := by decide +kernel
theorem dX11_now_59 : decode cX11_now 59 = .ok (.aload_n 0, 1) := by decide +kernel
theorem dX11_now_60 : decode cX11_now 60 = .ok (.getfield 19, 3) := by decide +kernel
theorem dX11_now_63 : decode cX11_now 63 = .ok (.getfield 118, 3) := by decide +kernel
theorem dX11_now_66 : decode cX11_now 66 = .ok (.getfield 189, 3) := by decide +kernel
theorem dX11_now_69 : decode cX11_now 69 = .ok (.ireturn, 1) := by decide +kernel
theorem dX11_now_70 : decode cX11_now 70 = .ok (.aload_n 0, 1) := by decide +kernel
theorem dX11_now_71 : decode cX11_now 71 = .ok (.getfield 19, 3) := by decide +kernel
theorem dX11_now_74 : decode cX11_now 74 = .ok (.invokevirtual 192, 3) := by decide +kernel
theorem dX11_now_77 : decode cX11_now 77 = .ok (.ireturn, 1) := by decide +kernel
theorem dX11_now_78 : decode cX11_now 78 = .ok (.aload_n 0, 1) := by decide +kernel
theorem dX11_now_79 : decode cX11_now 79 = .ok (.getfield 19, 3) := by decide +kernel
theorem dX11_now_82 : decode cX11_now 82 = .ok (.invokevirtual 196, 3) := by decide +kernel
theorem dX11_now_85 : decode cX11_now 85 = .ok (.ireturn, 1) := by decide +kernel
theorem dX11_now_86 : decode cX11_now 86 = .ok (.aload_n 0, 1) := by decide +kernel
theorem dX11_now_87 : decode cX11_now 87 = .ok (.getfield 19, 3) := by decide +kernel
theorem dX11_now_90 : decode cX11_now 90 = .ok (.invokevirtual 199, 3) := by decide +kernel
theorem dX11_now_93 : decode cX11_now 93 = .ok (.ireturn, 1) := by decide +kernel
theorem dX11_now_94 : decode cX11_now 94 = .ok (.aload_n 0, 1) := by decide +kernel
theorem dX11_now_95 : decode cX11_now 95 = .ok (.getfield 67, 3) := by decide +kernel
theorem dX11_now_98 : decode cX11_now 98 = .ok (.aload_n 0, 1) := by decide +kernel
theorem dX11_now_99 : decode cX11_now 99 = .ok (.getfield 19, 3) := by decide +kernel
theorem dX11_now_102 : decode cX11_now 102 = .ok (.invokevirtual 146, 3) := by decide +kernel
theorem dX11_now_105 : decode cX11_now 105 = .ok (.ireturn, 1) := by decide +kernel
theorem dX11_now_106 : decode cX11_now 106 = .ok (.aload_n 0, 1) := by decide +kernel
theorem dX11_now_107 : decode cX11_now 107 = .ok (.getfield 19, 3) := by decide +kernel
theorem dX11_now_110 : decode cX11_now 110 = .ok (.invokevirtual 202, 3) := by decide +kernel
theorem dX11_now_113 : decode cX11_now 113 = .ok (.ireturn, 1) := by decide +kernel
theorem dX11_now_114 : decode cX11_now 114 = .ok (.aload_n 0, 1) := by decide +kernel
theorem dX11_now_115 : decode cX11_now 115 = .ok (.getfield 19, 3) := by decide +kernel
theorem dX11_now_118 : decode cX11_now 118 = .ok (.getfield 118, 3) := by decide +kernel
theorem dX11_now_121 : decode cX11_now 121 = .ok (.getfield 205, 3) := by decide +kernel
theorem dX11_now_124 : decode cX11_now 124 = .ok (.ireturn, 1) := by decide +kernel
theorem dX11_now_125 : decode cX11_now 125 = .ok (.iconst (-1), 1) := by decide +kernel
theorem dX11_now_126 : decode cX11_now 126 = .ok (.ireturn, 1) := by decide +kernel
def f_X11_now (v0 : XM) (x0 : Int32) : Option (Int32 × XM) :=
  if x0 = (0 : Int32) then
  (some (v0.1 22 0, v0))
  else (if x0 = (1 : Int32) then
  (some (v0.1 22 1, v0))
  else (if x0 = (2 : Int32) then
  (x_bo (f_X10_goers (x_sub v0 5)) (fun y2 =>
  some (y2, v0)))
  else (if x0 = (3 : Int32) then
  (x_bo (f_X10_slippedFolds (x_sub v0 5)) (fun y3 =>
  some (y3, v0)))
  else (if x0 = (4 : Int32) then
  (x_bo (f_X10_knownThings (x_sub v0 5)) (fun y4 =>
  some (y4, v0)))
  else (if x0 = (5 : Int32) then
  (x_bo (f_X2_lostWalkers (x_sub v0 300) (x_sub v0 5)) (fun y5 =>
  x_lt (x_put v0 300 15 y5.2) (fun m6 =>
  some (y5.1, m6))))
  else (if x0 = (6 : Int32) then
  (x_bo (f_X10_tiredInAll (x_sub v0 5)) (fun y7 =>
  some (y7, v0)))
  else (if x0 = (7 : Int32) then
  (some (v0.1 22 2, v0))
  else (some ((-1 : Int32), v0)))))))))
set_option maxRecDepth 100000 in
set_option maxHeartbeats 4000000 in
theorem c_X11_now {l : Launch}  {ad0 : Nat → Nat} {v0 : XM} {x0 : Int32}  {o : Int32 × XM} (h : f_X11_now v0 x0 = some o) : CT l yX11_now cX11_now 2 (some .int) 7 [(shFoldRoads, ad0)] [v0] (fun aK => [.ref (ad0 0), .int x0]) (some (.int o.1)) True [o.2] := by
  refine CT_of (by decide) (fun _ => Nat.le_of_ble_eq_true rfl) ?_
  intro p e s m args below meth c D tc aK aV A X
  have X : Cx p s m args meth c cX11_now 2 (some .int) RX11 D tc aK aV A [(shFoldRoads, ad0)] := X
  show aW p l e (x_Rm 7) s m args below meth c D tc A 2 [(shFoldRoads, ad0)] (some (.int o.1)) True [o.2] 0 [(0, .ref (ad0 0)), (1, .int x0)] [] [v0]
  unfold f_X11_now at h
  refine a_iload_n (pc := 0) X 1 dX11_now_0 rfl rfl ?_
  by_cases c_1_0 : x0 = (0 : Int32)
  · have h := x_ifp c_1_0 h
    refine a_tin (pc := 1) X 48 dX11_now_1 c_1_0 (by decide) (by decide) rfl rfl ?_
    refine a_aload_n (pc := 48) X 0 dX11_now_48 rfl rfl ?_
    refine a_getR (pc := 49) X 0 5 5 fl_RX11_19 rfl rfl rfl rfl rfl dX11_now_49 ?_
    refine a_getR (pc := 52) X 0 17 22 fl_RX11_118 rfl rfl rfl rfl rfl dX11_now_52 ?_
    refine a_getI (pc := 55) X 0 fl_RX11_186 rfl rfl rfl rfl dX11_now_55 ?_
    have h := Option.some.inj h; subst h
    exact a_iret (pc := 58) X trivial dX11_now_58
  · have h := x_ifn c_1_0 h
    by_cases c_1_1 : x0 = (1 : Int32)
    · have h := x_ifp c_1_1 h
      refine a_tin (pc := 1) X 59 dX11_now_1 c_1_1 (by decide) (by decide) rfl rfl ?_
      refine a_aload_n (pc := 59) X 0 dX11_now_59 rfl rfl ?_
      refine a_getR (pc := 60) X 0 5 5 fl_RX11_19 rfl rfl rfl rfl rfl dX11_now_60 ?_
      refine a_getR (pc := 63) X 0 17 22 fl_RX11_118 rfl rfl rfl rfl rfl dX11_now_63 ?_
      refine a_getI (pc := 66) X 0 fl_RX11_189 rfl rfl rfl rfl dX11_now_66 ?_
      have h := Option.some.inj h; subst h
      exact a_iret (pc := 69) X trivial dX11_now_69
    · have h := x_ifn c_1_1 h
      by_cases c_1_2 : x0 = (2 : Int32)
      · have h := x_ifp c_1_2 h
        refine a_tin (pc := 1) X 70 dX11_now_1 c_1_2 (by decide) (by decide) rfl rfl ?_
        refine a_aload_n (pc := 70) X 0 dX11_now_70 rfl rfl ?_
        refine a_getR (pc := 71) X 0 5 5 fl_RX11_19 rfl rfl rfl rfl rfl dX11_now_71 ?_
        obtain ⟨y2, e_y2, h⟩ := x_bo_elim h
        refine a_callV (pc := 74) (st2 := [.int y2]) (vs2 := [v0]) X [(0, 5, 32)] [none] 0 5 10 [] [] cv_RX11_192 (c_X10_goers (ad0 := (fun i => ad0 (i + 5)))  e_y2) rfl rfl rfl rfl rfl rfl rfl rfl rfl rfl rfl rfl rfl rfl rfl (Nat.le_of_ble_eq_true rfl) ⟨Nat.le_of_ble_eq_true rfl, Nat.le_of_ble_eq_true rfl⟩ dX11_now_74 (fun _ => ?_)
        have h := Option.some.inj h; subst h
        exact a_iret (pc := 77) X trivial dX11_now_77
      · have h := x_ifn c_1_2 h
        by_cases c_1_3 : x0 = (3 : Int32)
        · have h := x_ifp c_1_3 h
          refine a_tin (pc := 1) X 78 dX11_now_1 c_1_3 (by decide) (by decide) rfl rfl ?_
          refine a_aload_n (pc := 78) X 0 dX11_now_78 rfl rfl ?_
          refine a_getR (pc := 79) X 0 5 5 fl_RX11_19 rfl rfl rfl rfl rfl dX11_now_79 ?_
          obtain ⟨y3, e_y3, h⟩ := x_bo_elim h
          refine a_callV (pc := 82) (st2 := [.int y3]) (vs2 := [v0]) X [(0, 5, 32)] [none] 0 5 10 [] [] cv_RX11_196 (c_X10_slippedFolds (ad0 := (fun i => ad0 (i + 5)))  e_y3) rfl rfl rfl rfl rfl rfl rfl rfl rfl rfl rfl rfl rfl rfl rfl (Nat.le_of_ble_eq_true rfl) ⟨Nat.le_of_ble_eq_true rfl, Nat.le_of_ble_eq_true rfl⟩ dX11_now_82 (fun _ => ?_)
          have h := Option.some.inj h; subst h
          exact a_iret (pc := 85) X trivial dX11_now_85
        · have h := x_ifn c_1_3 h
          by_cases c_1_4 : x0 = (4 : Int32)
          · have h := x_ifp c_1_4 h
            refine a_tin (pc := 1) X 86 dX11_now_1 c_1_4 (by decide) (by decide) rfl rfl ?_
            refine a_aload_n (pc := 86) X 0 dX11_now_86 rfl rfl ?_
            refine a_getR (pc := 87) X 0 5 5 fl_RX11_19 rfl rfl rfl rfl rfl dX11_now_87 ?_
            obtain ⟨y4, e_y4, h⟩ := x_bo_elim h
            refine a_callV (pc := 90) (st2 := [.int y4]) (vs2 := [v0]) X [(0, 5, 32)] [none] 0 5 10 [] [] cv_RX11_199 (c_X10_knownThings (ad0 := (fun i => ad0 (i + 5)))  e_y4) rfl rfl rfl rfl rfl rfl rfl rfl rfl rfl rfl rfl rfl rfl rfl (Nat.le_of_ble_eq_true rfl) ⟨Nat.le_of_ble_eq_true rfl, Nat.le_of_ble_eq_true rfl⟩ dX11_now_90 (fun _ => ?_)
            have h := Option.some.inj h; subst h
            exact a_iret (pc := 93) X trivial dX11_now_93
          · have h := x_ifn c_1_4 h
            by_cases c_1_5 : x0 = (5 : Int32)
            · have h := x_ifp c_1_5 h
              refine a_tin (pc := 1) X 94 dX11_now_1 c_1_5 (by decide) (by decide) rfl rfl ?_
              refine a_aload_n (pc := 94) X 0 dX11_now_94 rfl rfl ?_
              refine a_getR (pc := 95) X 0 300 300 fl_RX11_67 rfl rfl rfl rfl rfl dX11_now_95 ?_
              refine a_aload_n (pc := 98) X 0 dX11_now_98 rfl rfl ?_
              refine a_getR (pc := 99) X 0 5 5 fl_RX11_19 rfl rfl rfl rfl rfl dX11_now_99 ?_
              obtain ⟨y5, e_y5, h⟩ := x_bo_elim h
              refine a_callV (pc := 102) (st2 := [.int y5.1]) (vs2 := [x_put v0 300 15 y5.2]) X [(0, 300, 15), (0, 5, 32)] [some y5.2, none] 0 300 2 [.ref (ad0 5)] [] cv_RX11_146 (c_X2_lostWalkers (ad0 := (fun i => ad0 (i + 300))) (ad1 := (fun i => ad0 (i + 5)))  e_y5) rfl rfl rfl rfl rfl rfl rfl rfl rfl rfl rfl rfl rfl rfl rfl (Nat.le_of_ble_eq_true rfl) ⟨Nat.le_of_ble_eq_true rfl, Nat.le_of_ble_eq_true rfl⟩ dX11_now_102 (fun _ => ?_)
              obtain ⟨m6, e_m6, h⟩ := x_lt_elim h
              refine a_nm (vs2 := [m6]) (congrArg (fun q : XM => [q]) e_m6) ?_
              have h := Option.some.inj h; subst h
              exact a_iret (pc := 105) X trivial dX11_now_105
            · have h := x_ifn c_1_5 h
              by_cases c_1_6 : x0 = (6 : Int32)
              · have h := x_ifp c_1_6 h
                refine a_tin (pc := 1) X 106 dX11_now_1 c_1_6 (by decide) (by decide) rfl rfl ?_
                refine a_aload_n (pc := 106) X 0 dX11_now_106 rfl rfl ?_
                refine a_getR (pc := 107) X 0 5 5 fl_RX11_19 rfl rfl rfl rfl rfl dX11_now_107 ?_
                obtain ⟨y7, e_y7, h⟩ := x_bo_elim h
                refine a_callV (pc := 110) (st2 := [.int y7]) (vs2 := [v0]) X [(0, 5, 32)] [none] 0 5 10 [] [] cv_RX11_202 (c_X10_tiredInAll (ad0 := (fun i => ad0 (i + 5)))  e_y7) rfl rfl rfl rfl rfl rfl rfl rfl rfl rfl rfl rfl rfl rfl rfl (Nat.le_of_ble_eq_true rfl) ⟨Nat.le_of_ble_eq_true rfl, Nat.le_of_ble_eq_true rfl⟩ dX11_now_110 (fun _ => ?_)
                have h := Option.some.inj h; subst h
                exact a_iret (pc := 113) X trivial dX11_now_113
              · have h := x_ifn c_1_6 h
                by_cases c_1_7 : x0 = (7 : Int32)
                · have h := x_ifp c_1_7 h
                  refine a_tin (pc := 1) X 114 dX11_now_1 c_1_7 (by decide) (by decide) rfl rfl ?_
                  refine a_aload_n (pc := 114) X 0 dX11_now_114 rfl rfl ?_
                  refine a_getR (pc := 115) X 0 5 5 fl_RX11_19 rfl rfl rfl rfl rfl dX11_now_115 ?_
                  refine a_getR (pc := 118) X 0 17 22 fl_RX11_118 rfl rfl rfl rfl rfl dX11_now_118 ?_
                  refine a_getI (pc := 121) X 0 fl_RX11_205 rfl rfl rfl rfl dX11_now_121 ?_
                  have h := Option.some.inj h; subst h
                  exact a_iret (pc := 124) X trivial dX11_now_124
                · have h := x_ifn c_1_7 h
                  refine a_tout (pc := 1) X 125 dX11_now_1 (by have q0 := x_ne c_1_0; have q1 := x_ne c_1_1; have q2 := x_ne c_1_2; have q3 := x_ne c_1_3; have q4 := x_ne c_1_4; have q5 := x_ne c_1_5; have q6 := x_ne c_1_6; have q7 := x_ne c_1_7; have q0 : (x0 : Int32).toInt ≠ 0 := q0; have q1 : (x0 : Int32).toInt ≠ 1 := q1; have q2 : (x0 : Int32).toInt ≠ 2 := q2; have q3 : (x0 : Int32).toInt ≠ 3 := q3; have q4 : (x0 : Int32).toInt ≠ 4 := q4; have q5 : (x0 : Int32).toInt ≠ 5 := q5; have q6 : (x0 : Int32).toInt ≠ 6 := q6; have q7 : (x0 : Int32).toInt ≠ 7 := q7; omega) rfl ?_
                  refine a_iconst (pc := 125) X dX11_now_125 q_ic_m1 ?_
                  have h := Option.some.inj h; subst h
                  exact a_iret (pc := 126) X trivial dX11_now_126
theorem dX11_count_0 : decode cX11_count 0 = .ok (.iload_n 1, 1) := by decide +kernel
theorem dX11_count_1 : decode cX11_count 1 = .ok (.tableswitch 102 0 5 #[39, 50, 61, 72, 83, 94], 39) := by decide +kernel
theorem dX11_count_40 : decode cX11_count 40 = .ok (.aload_n 0, 1) := by decide +kernel
theorem dX11_count_41 : decode cX11_count 41 = .ok (.getfield 19, 3) := by decide +kernel
theorem dX11_count_44 : decode cX11_count 44 = .ok (.getfield 106, 3) := by decide +kernel
theorem dX11_count_47 : decode cX11_count 47 = .ok (.getfield 208, 3) := by decide +kernel
theorem dX11_count_50 : decode cX11_count 50 = .ok (.ireturn, 1) := by decide +kernel
theorem dX11_count_51 : decode cX11_count 51 = .ok (.aload_n 0, 1) := by decide +kernel
theorem dX11_count_52 : decode cX11_count 52 = .ok (.getfield 19, 3) := by decide +kernel
theorem dX11_count_55 : decode cX11_count 55 = .ok (.getfield 106, 3) := by decide +kernel
theorem dX11_count_58 : decode cX11_count 58 = .ok (.getfield 211, 3) := by decide +kernel
theorem dX11_count_61 : decode cX11_count 61 = .ok (.ireturn, 1) := by decide +kernel
theorem dX11_count_62 : decode cX11_count 62 = .ok (.aload_n 0, 1) := by decide +kernel
theorem dX11_count_63 : decode cX11_count 63 = .ok (.getfield 19, 3) := by decide +kernel
theorem dX11_count_66 : decode cX11_count 66 = .ok (.getfield 106, 3) := by decide +kernel
theorem dX11_count_69 : decode cX11_count 69 = .ok (.getfield 214, 3) := by decide +kernel
theorem dX11_count_72 : decode cX11_count 72 = .ok (.ireturn, 1) := by decide +kernel
theorem dX11_count_73 : decode cX11_count 73 = .ok (.aload_n 0, 1) := by decide +kernel
theorem dX11_count_74 : decode cX11_count 74 = .ok (.getfield 19, 3) := by decide +kernel
theorem dX11_count_77 : decode cX11_count 77 = .ok (.getfield 106, 3) := by decide +kernel
theorem dX11_count_80 : decode cX11_count 80 = .ok (.getfield 217, 3) := by decide +kernel
theorem dX11_count_83 : decode cX11_count 83 = .ok (.ireturn, 1) := by decide +kernel
theorem dX11_count_84 : decode cX11_count 84 = .ok (.aload_n 0, 1) := by decide +kernel
theorem dX11_count_85 : decode cX11_count 85 = .ok (.getfield 19, 3) := by decide +kernel
theorem dX11_count_88 : decode cX11_count 88 = .ok (.getfield 106, 3) := by decide +kernel
theorem dX11_count_91 : decode cX11_count 91 = .ok (.getfield 220, 3) := by decide +kernel
theorem dX11_count_94 : decode cX11_count 94 = .ok (.ireturn, 1) := by decide +kernel
theorem dX11_count_95 : decode cX11_count 95 = .ok (.aload_n 0, 1) := by decide +kernel
theorem dX11_count_96 : decode cX11_count 96 = .ok (.getfield 12, 3) := by decide +kernel
theorem dX11_count_99 : decode cX11_count 99 = .ok (.getfield 78, 3) := by decide +kernel
theorem dX11_count_102 : decode cX11_count 102 = .ok (.ireturn, 1) := by decide +kernel
theorem dX11_count_103 : decode cX11_count 103 = .ok (.iconst (-1), 1) := by decide +kernel
theorem dX11_count_104 : decode cX11_count 104 = .ok (.ireturn, 1) := by decide +kernel
def f_X11_count (v0 : XM) (x0 : Int32) : Int32 :=
  if x0 = (0 : Int32) then
  ((v0.1 6 0 : Int32))
  else (if x0 = (1 : Int32) then
  ((v0.1 6 1 : Int32))
  else (if x0 = (2 : Int32) then
  ((v0.1 6 2 : Int32))
  else (if x0 = (3 : Int32) then
  ((v0.1 6 3 : Int32))
  else (if x0 = (4 : Int32) then
  ((v0.1 6 4 : Int32))
  else (if x0 = (5 : Int32) then
  ((v0.1 1 2 : Int32))
  else (((-1 : Int32) : Int32)))))))
set_option maxRecDepth 100000 in
set_option maxHeartbeats 4000000 in
theorem c_X11_count {l : Launch}  {ad0 : Nat → Nat} {v0 : XM} {x0 : Int32}  {o : Int32} (h : f_X11_count v0 x0 = o) : CT l yX11_count cX11_count 2 (some .int) 0 [(shFoldRoads, ad0)] [v0] (fun aK => [.ref (ad0 0), .int x0]) (some (.int o)) True [v0] := by
  refine CT_of (by decide) (fun _ => Nat.le_of_ble_eq_true rfl) ?_
  intro p e s m args below meth c D tc aK aV A X
  have X : Cx p s m args meth c cX11_count 2 (some .int) RX11 D tc aK aV A [(shFoldRoads, ad0)] := X
  show aW p l e (x_Rm 0) s m args below meth c D tc A 2 [(shFoldRoads, ad0)] (some (.int o)) True [v0] 0 [(0, .ref (ad0 0)), (1, .int x0)] [] [v0]
  unfold f_X11_count at h
  refine a_iload_n (pc := 0) X 1 dX11_count_0 rfl rfl ?_
  by_cases c_1_0 : x0 = (0 : Int32)
  · have h := x_ifp c_1_0 h
    refine a_tin (pc := 1) X 40 dX11_count_1 c_1_0 (by decide) (by decide) rfl rfl ?_
    refine a_aload_n (pc := 40) X 0 dX11_count_40 rfl rfl ?_
    refine a_getR (pc := 41) X 0 5 5 fl_RX11_19 rfl rfl rfl rfl rfl dX11_count_41 ?_
    refine a_getR (pc := 44) X 0 1 6 fl_RX11_106 rfl rfl rfl rfl rfl dX11_count_44 ?_
    refine a_getI (pc := 47) X 0 fl_RX11_208 rfl rfl rfl rfl dX11_count_47 ?_
    subst h
    exact a_iret (pc := 50) X trivial dX11_count_50
  · have h := x_ifn c_1_0 h
    by_cases c_1_1 : x0 = (1 : Int32)
    · have h := x_ifp c_1_1 h
      refine a_tin (pc := 1) X 51 dX11_count_1 c_1_1 (by decide) (by decide) rfl rfl ?_
      refine a_aload_n (pc := 51) X 0 dX11_count_51 rfl rfl ?_
      refine a_getR (pc := 52) X 0 5 5 fl_RX11_19 rfl rfl rfl rfl rfl dX11_count_52 ?_
      refine a_getR (pc := 55) X 0 1 6 fl_RX11_106 rfl rfl rfl rfl rfl dX11_count_55 ?_
      refine a_getI (pc := 58) X 0 fl_RX11_211 rfl rfl rfl rfl dX11_count_58 ?_
      subst h
      exact a_iret (pc := 61) X trivial dX11_count_61
    · have h := x_ifn c_1_1 h
      by_cases c_1_2 : x0 = (2 : Int32)
      · have h := x_ifp c_1_2 h
        refine a_tin (pc := 1) X 62 dX11_count_1 c_1_2 (by decide) (by decide) rfl rfl ?_
        refine a_aload_n (pc := 62) X 0 dX11_count_62 rfl rfl ?_
        refine a_getR (pc := 63) X 0 5 5 fl_RX11_19 rfl rfl rfl rfl rfl dX11_count_63 ?_
        refine a_getR (pc := 66) X 0 1 6 fl_RX11_106 rfl rfl rfl rfl rfl dX11_count_66 ?_
        refine a_getI (pc := 69) X 0 fl_RX11_214 rfl rfl rfl rfl dX11_count_69 ?_
        subst h
        exact a_iret (pc := 72) X trivial dX11_count_72
      · have h := x_ifn c_1_2 h
        by_cases c_1_3 : x0 = (3 : Int32)
        · have h := x_ifp c_1_3 h
          refine a_tin (pc := 1) X 73 dX11_count_1 c_1_3 (by decide) (by decide) rfl rfl ?_
          refine a_aload_n (pc := 73) X 0 dX11_count_73 rfl rfl ?_
          refine a_getR (pc := 74) X 0 5 5 fl_RX11_19 rfl rfl rfl rfl rfl dX11_count_74 ?_
          refine a_getR (pc := 77) X 0 1 6 fl_RX11_106 rfl rfl rfl rfl rfl dX11_count_77 ?_
          refine a_getI (pc := 80) X 0 fl_RX11_217 rfl rfl rfl rfl dX11_count_80 ?_
          subst h
          exact a_iret (pc := 83) X trivial dX11_count_83
        · have h := x_ifn c_1_3 h
          by_cases c_1_4 : x0 = (4 : Int32)
          · have h := x_ifp c_1_4 h
            refine a_tin (pc := 1) X 84 dX11_count_1 c_1_4 (by decide) (by decide) rfl rfl ?_
            refine a_aload_n (pc := 84) X 0 dX11_count_84 rfl rfl ?_
            refine a_getR (pc := 85) X 0 5 5 fl_RX11_19 rfl rfl rfl rfl rfl dX11_count_85 ?_
            refine a_getR (pc := 88) X 0 1 6 fl_RX11_106 rfl rfl rfl rfl rfl dX11_count_88 ?_
            refine a_getI (pc := 91) X 0 fl_RX11_220 rfl rfl rfl rfl dX11_count_91 ?_
            subst h
            exact a_iret (pc := 94) X trivial dX11_count_94
          · have h := x_ifn c_1_4 h
            by_cases c_1_5 : x0 = (5 : Int32)
            · have h := x_ifp c_1_5 h
              refine a_tin (pc := 1) X 95 dX11_count_1 c_1_5 (by decide) (by decide) rfl rfl ?_
              refine a_aload_n (pc := 95) X 0 dX11_count_95 rfl rfl ?_
              refine a_getR (pc := 96) X 0 1 1 fl_RX11_12 rfl rfl rfl rfl rfl dX11_count_96 ?_
              refine a_getI (pc := 99) X 0 fl_RX11_78 rfl rfl rfl rfl dX11_count_99 ?_
              subst h
              exact a_iret (pc := 102) X trivial dX11_count_102
            · have h := x_ifn c_1_5 h
              refine a_tout (pc := 1) X 103 dX11_count_1 (by have q0 := x_ne c_1_0; have q1 := x_ne c_1_1; have q2 := x_ne c_1_2; have q3 := x_ne c_1_3; have q4 := x_ne c_1_4; have q5 := x_ne c_1_5; have q0 : (x0 : Int32).toInt ≠ 0 := q0; have q1 : (x0 : Int32).toInt ≠ 1 := q1; have q2 : (x0 : Int32).toInt ≠ 2 := q2; have q3 : (x0 : Int32).toInt ≠ 3 := q3; have q4 : (x0 : Int32).toInt ≠ 4 := q4; have q5 : (x0 : Int32).toInt ≠ 5 := q5; omega) rfl ?_
              refine a_iconst (pc := 103) X dX11_count_103 q_ic_m1 ?_
              subst h
              exact a_iret (pc := 104) X trivial dX11_count_104
theorem dX11_odds_0 : decode cX11_odds 0 = .ok (.aload_n 0, 1) := by decide +kernel
theorem dX11_odds_1 : decode cX11_odds 1 = .ok (.getfield 19, 3) := by decide +kernel
theorem dX11_odds_4 : decode cX11_odds 4 = .ok (.getfield 106, 3) := by decide +kernel
theorem dX11_odds_7 : decode cX11_odds 7 = .ok (.iload_n 1, 1) := by decide +kernel
theorem dX11_odds_8 : decode cX11_odds 8 = .ok (.invokevirtual 109, 3) := by decide +kernel
theorem dX11_odds_11 : decode cX11_odds 11 = .ok (.ifCond .eq 14, 3) := by decide +kernel
theorem dX11_odds_14 : decode cX11_odds 14 = .ok (.iload_n 2, 1) := by decide +kernel
theorem dX11_odds_15 : decode cX11_odds 15 = .ok (.iconst 1, 1) := by decide +kernel
theorem dX11_odds_16 : decode cX11_odds 16 = .ok (.if_icmp .lt 9, 3) := by decide +kernel
theorem dX11_odds_19 : decode cX11_odds 19 = .ok (.iload_n 2, 1) := by decide +kernel
theorem dX11_odds_20 : decode cX11_odds 20 = .ok (.bipush 30, 2) := by decide +kernel
theorem dX11_odds_22 : decode cX11_odds 22 = .ok (.if_icmp .le 5, 3) := by decide +kernel
theorem dX11_odds_25 : decode cX11_odds 25 = .ok (.iconst (-1), 1) := by decide +kernel
theorem dX11_odds_26 : decode cX11_odds 26 = .ok (.ireturn, 1) := by decide +kernel
theorem dX11_odds_27 : decode cX11_odds 27 = .ok (.aload_n 0, 1) := by decide +kernel
theorem dX11_odds_28 : decode cX11_odds 28 = .ok (.getfield 32, 3) := by decide +kernel
theorem dX11_odds_31 : decode cX11_odds 31 = .ok (.aload_n 0, 1) := by decide +kernel
theorem dX11_odds_32 : decode cX11_odds 32 = .ok (.getfield 19, 3) := by decide +kernel
theorem dX11_odds_35 : decode cX11_odds 35 = .ok (.getfield 118, 3) := by decide +kernel
theorem dX11_odds_38 : decode cX11_odds 38 = .ok (.invokevirtual 230, 3) := by decide +kernel
theorem dX11_odds_41 : decode cX11_odds 41 = .ok (.iconst 0, 1) := by decide +kernel
theorem dX11_odds_42 : decode cX11_odds 42 = .ok (.istore 4, 2) := by decide +kernel
theorem dX11_odds_44 : decode cX11_odds 44 = .ok (.iconst 0, 1) := by decide +kernel
theorem dX11_odds_45 : decode cX11_odds 45 = .ok (.istore 5, 2) := by decide +kernel
theorem dX11_odds_47 : decode cX11_odds 47 = .ok (.iload 5, 2) := by decide +kernel
theorem dX11_odds_49 : decode cX11_odds 49 = .ok (.iload_n 2, 1) := by decide +kernel
theorem dX11_odds_50 : decode cX11_odds 50 = .ok (.if_icmp .ge 71, 3) := by decide +kernel
theorem dX11_odds_53 : decode cX11_odds 53 = .ok (.aload_n 0, 1) := by decide +kernel
theorem dX11_odds_54 : decode cX11_odds 54 = .ok (.getfield 19, 3) := by decide +kernel
theorem dX11_odds_57 : decode cX11_odds 57 = .ok (.bipush 20, 2) := by decide +kernel
theorem dX11_odds_59 : decode cX11_odds 59 = .ok (.iload_n 3, 1) := by decide +kernel
theorem dX11_odds_60 : decode cX11_odds 60 = .ok (.iload 5, 2) := by decide +kernel
theorem dX11_odds_62 : decode cX11_odds 62 = .ok (.iadd, 1) := by decide +kernel
theorem dX11_odds_63 : decode cX11_odds 63 = .ok (.invokevirtual 246, 3) := by decide +kernel
theorem dX11_odds_66 : decode cX11_odds 66 = .ok (.pop, 1) := by decide +kernel
theorem dX11_odds_67 : decode cX11_odds 67 = .ok (.aload_n 0, 1) := by decide +kernel
theorem dX11_odds_68 : decode cX11_odds 68 = .ok (.getfield 19, 3) := by decide +kernel
theorem dX11_odds_71 : decode cX11_odds 71 = .ok (.getfield 118, 3) := by decide +kernel
theorem dX11_odds_74 : decode cX11_odds 74 = .ok (.getfield 143, 3) := by decide +kernel
theorem dX11_odds_77 : decode cX11_odds 77 = .ok (.iload_n 1, 1) := by decide +kernel
theorem dX11_odds_78 : decode cX11_odds 78 = .ok (.invokevirtual 125, 3) := by decide +kernel
theorem dX11_odds_81 : decode cX11_odds 81 = .ok (.aload_n 0, 1) := by decide +kernel
theorem dX11_odds_82 : decode cX11_odds 82 = .ok (.getfield 32, 3) := by decide +kernel
theorem dX11_odds_85 : decode cX11_odds 85 = .ok (.getfield 143, 3) := by decide +kernel
theorem dX11_odds_88 : decode cX11_odds 88 = .ok (.iload_n 1, 1) := by decide +kernel
theorem dX11_odds_89 : decode cX11_odds 89 = .ok (.invokevirtual 125, 3) := by decide +kernel
theorem dX11_odds_92 : decode cX11_odds 92 = .ok (.iconst (-1), 1) := by decide +kernel
theorem dX11_odds_93 : decode cX11_odds 93 = .ok (.ixor, 1) := by decide +kernel
theorem dX11_odds_94 : decode cX11_odds 94 = .ok (.iand, 1) := by decide +kernel
theorem dX11_odds_95 : decode cX11_odds 95 = .ok (.ifCond .eq 6, 3) := by decide +kernel
theorem dX11_odds_98 : decode cX11_odds 98 = .ok (.iinc 4 1, 3) := by decide +kernel
theorem dX11_odds_101 : decode cX11_odds 101 = .ok (.aload_n 0, 1) := by decide +kernel
theorem dX11_odds_102 : decode cX11_odds 102 = .ok (.getfield 19, 3) := by decide +kernel
theorem dX11_odds_105 : decode cX11_odds 105 = .ok (.getfield 118, 3) := by decide +kernel
theorem dX11_odds_108 : decode cX11_odds 108 = .ok (.aload_n 0, 1) := by decide +kernel
theorem dX11_odds_109 : decode cX11_odds 109 = .ok (.getfield 32, 3) := by decide +kernel
theorem dX11_odds_112 : decode cX11_odds 112 = .ok (.invokevirtual 230, 3) := by decide +kernel
theorem dX11_odds_115 : decode cX11_odds 115 = .ok (.iinc 5 1, 3) := by decide +kernel
theorem dX11_odds_118 : decode cX11_odds 118 = .ok (.goto (-71), 3) := by decide +kernel
theorem dX11_odds_121 : decode cX11_odds 121 = .ok (.iload 4, 2) := by decide +kernel
theorem dX11_odds_123 : decode cX11_odds 123 = .ok (.ireturn, 1) := by decide +kernel
def f_X11_odds_101 (k47 : XM → Int32 → Int32 → Int32 → Int32 → Int32 → Option (Int32 × XM)) (w0 : XM) (l1 : Int32) (l2 : Int32) (l3 : Int32) (l4 : Int32) (l5 : Int32) : Option (Int32 × XM) :=
  x_lt (f_X5_become (x_sub w0 22) (x_sub w0 128)) (fun y1 =>
  x_lt (x_put w0 22 15 y1) (fun m2 =>
  k47 m2 l1 l2 l3 l4 (l5 + 1)))
def f_X11_odds_47 (k47 : XM → Int32 → Int32 → Int32 → Int32 → Int32 → Option (Int32 × XM)) (w0 : XM) (l1 : Int32) (l2 : Int32) (l3 : Int32) (l4 : Int32) (l5 : Int32) : Option (Int32 × XM) :=
  if (l2 : Int32) ≤ l5 then
  (some (l4, w0))
  else (x_bo (f_X10_drawHours (x_sub w0 5) (20 : Int32) (l3 + l5)) (fun y3 =>
  x_lt (x_put w0 5 32 y3.2) (fun m4 =>
  x_lt (r_get 5 (x_sub m4 31) l1) (fun y5 =>
  x_lt (r_get 5 (x_sub m4 137) l1) (fun y6 =>
  if (y5 &&& (y6 ^^^ (-1 : Int32))) = (0 : Int32) then
  (f_X11_odds_101  k47 m4 l1 l2 l3 l4 l5)
  else (f_X11_odds_101  k47 m4 l1 l2 l3 (l4 + 1) l5))))))
def f_X11_odds (v0 : XM) (x0 : Int32) (x1 : Int32) (x2 : Int32) : Option (Int32 × XM) :=
  x_lt (f_X9_hasWalker (x_sub v0 6) x0) (fun y7 =>
  if y7 = (0 : Int32) then
  (some ((-1 : Int32), v0))
  else (if (x1 : Int32) < (1 : Int32) then
  (some ((-1 : Int32), v0))
  else (if (x1 : Int32) ≤ (30 : Int32) then
  (x_lt (f_X5_become (x_sub v0 128) (x_sub v0 22)) (fun y8 =>
  x_lt (x_put v0 128 15 y8) (fun m9 =>
  x_lp (φ := XM → Int32 → Int32 → Int32 → Int32 → Int32 → Option (Int32 × XM)) (fun _ _ _ _ _ _ => none) (f_X11_odds_47  ) x_NN m9 x0 x1 x2 (0 : Int32) (0 : Int32))))
  else (some ((-1 : Int32), v0)))))
set_option maxRecDepth 100000 in
set_option maxHeartbeats 4000000 in
theorem w_X11_odds_101 {p : Program} {l : Launch} {e : Env} {s : State} {m : MethodId} {args : Array Value} {below : List Frame} {meth : Method} {c : Code} {D : va_G} {tc : Nat → ClassId} {aK aV : Nat → Nat} {A : Nat → Prop} {ad0 : Nat → Nat}  (X : Cx p s m args meth c cX11_odds 6 (some .int) RX11 D tc aK aV A [(shFoldRoads, ad0)])  {o : Int32 × XM} {k47 : XM → Int32 → Int32 → Int32 → Int32 → Int32 → Option (Int32 × XM)} (hk47 : ∀ (w0 : XM) (l1 : Int32) (l2 : Int32) (l3 : Int32) (l4 : Int32) (l5 : Int32), k47 w0 l1 l2 l3 l4 l5 = some o → aW p l e (x_Rm 6) s m args below meth c D tc A 6 [(shFoldRoads, ad0)] (some (.int o.1)) True [o.2] 47 [(0, .ref (ad0 0)), (1, .int l1), (2, .int l2), (3, .int l3), (4, .int l4), (5, .int l5)] [] [w0]) {w0 : XM} {l1 : Int32} {l2 : Int32} {l3 : Int32} {l4 : Int32} {l5 : Int32}  (h : f_X11_odds_101  k47 w0 l1 l2 l3 l4 l5 = some o) : aW p l e (x_Rm 6) s m args below meth c D tc A 6 [(shFoldRoads, ad0)] (some (.int o.1)) True [o.2] 101 [(0, .ref (ad0 0)), (1, .int l1), (2, .int l2), (3, .int l3), (4, .int l4), (5, .int l5)] [] [w0] := by
  unfold f_X11_odds_101 at h
  refine a_aload_n (pc := 101) X 0 dX11_odds_101 rfl rfl ?_
  refine a_getR (pc := 102) X 0 5 5 fl_RX11_19 rfl rfl rfl rfl rfl dX11_odds_102 ?_
  refine a_getR (pc := 105) X 0 17 22 fl_RX11_118 rfl rfl rfl rfl rfl dX11_odds_105 ?_
  refine a_aload_n (pc := 108) X 0 dX11_odds_108 rfl rfl ?_
  refine a_getR (pc := 109) X 0 128 128 fl_RX11_32 rfl rfl rfl rfl rfl dX11_odds_109 ?_
  obtain ⟨y1, e_y1, h⟩ := x_lt_elim h
  refine a_callV (pc := 112) (st2 := []) (vs2 := [x_put w0 22 15 y1]) X [(0, 22, 15), (0, 128, 15)] [some y1, none] 0 22 5 [.ref (ad0 128)] [] cv_RX11_230 (c_X5_become (ad0 := (fun i => ad0 (i + 22))) (ad1 := (fun i => ad0 (i + 128)))  e_y1) rfl rfl rfl rfl rfl rfl rfl rfl rfl rfl rfl rfl rfl rfl rfl (Nat.le_of_ble_eq_true rfl) ⟨Nat.le_of_ble_eq_true rfl, Nat.le_of_ble_eq_true rfl⟩ dX11_odds_112 (fun _ => ?_)
  obtain ⟨m2, e_m2, h⟩ := x_lt_elim h
  refine a_nm (vs2 := [m2]) (congrArg (fun q : XM => [q]) e_m2) ?_
  refine a_iinc (pc := 115) X 5 [(5, .int (l5 + 1)), (0, .ref (ad0 0)), (1, .int l1), (2, .int l2), (3, .int l3), (4, .int l4)] dX11_odds_115 rfl (congrArg (HAdd.hAdd l5) q_ic_1) (by decide) rfl ?_
  refine a_goto (pc := 118) X 47 dX11_odds_118 rfl ?_
  refine a_sub [1, 2, 3, 4, 5, 0] rfl ?_
  exact hk47 _ _ _ _ _ _ h
set_option maxRecDepth 100000 in
set_option maxHeartbeats 4000000 in
theorem w_X11_odds_47 {p : Program} {l : Launch} {e : Env} {s : State} {m : MethodId} {args : Array Value} {below : List Frame} {meth : Method} {c : Code} {D : va_G} {tc : Nat → ClassId} {aK aV : Nat → Nat} {A : Nat → Prop} {ad0 : Nat → Nat}  (X : Cx p s m args meth c cX11_odds 6 (some .int) RX11 D tc aK aV A [(shFoldRoads, ad0)])  {o : Int32 × XM}  : ∀ (n : Nat), ∀ (w0 : XM) (l1 : Int32) (l2 : Int32) (l3 : Int32) (l4 : Int32) (l5 : Int32), x_lp (φ := XM → Int32 → Int32 → Int32 → Int32 → Int32 → Option (Int32 × XM)) (fun _ _ _ _ _ _ => none) (f_X11_odds_47  ) n w0 l1 l2 l3 l4 l5 = some o → aW p l e (x_Rm 6) s m args below meth c D tc A 6 [(shFoldRoads, ad0)] (some (.int o.1)) True [o.2] 47 [(0, .ref (ad0 0)), (1, .int l1), (2, .int l2), (3, .int l3), (4, .int l4), (5, .int l5)] [] [w0] := by
  intro n
  induction n with
  | zero => intro w0 l1 l2 l3 l4 l5 h; exact absurd h (fun q => by cases q)
  | succ n ih =>
    intro w0 l1 l2 l3 l4 l5 h
    have h : f_X11_odds_47   (x_lp (φ := XM → Int32 → Int32 → Int32 → Int32 → Int32 → Option (Int32 × XM)) (fun _ _ _ _ _ _ => none) (f_X11_odds_47  ) n) w0 l1 l2 l3 l4 l5 = some o := h
    generalize x_lp (φ := XM → Int32 → Int32 → Int32 → Int32 → Int32 → Option (Int32 × XM)) (fun _ _ _ _ _ _ => none) (f_X11_odds_47  ) n = k47 at h ih
    have hk47 := ih
    unfold f_X11_odds_47 at h
    refine a_iload (pc := 47) X 5 dX11_odds_47 rfl ?_
    refine a_iload_n (pc := 49) X 2 dX11_odds_49 rfl rfl ?_
    refine a_icmp_ge (pc := 50) X 121 dX11_odds_50 rfl (fun c_50 => ?_) (fun c_50 => ?_)
    · have h := x_ifp c_50 h
      refine a_iload (pc := 121) X 4 dX11_odds_121 rfl ?_
      have h := Option.some.inj h; subst h
      exact a_iret (pc := 123) X trivial dX11_odds_123
    · have h := x_ifn c_50 h
      refine a_aload_n (pc := 53) X 0 dX11_odds_53 rfl rfl ?_
      refine a_getR (pc := 54) X 0 5 5 fl_RX11_19 rfl rfl rfl rfl rfl dX11_odds_54 ?_
      refine a_bipush (pc := 57) X dX11_odds_57 q_bp_20 ?_
      refine a_iload_n (pc := 59) X 3 dX11_odds_59 rfl rfl ?_
      refine a_iload (pc := 60) X 5 dX11_odds_60 rfl ?_
      refine a_iadd (pc := 62) X dX11_odds_62 ?_
      obtain ⟨y3, e_y3, h⟩ := x_bo_elim h
      refine a_callV (pc := 63) (st2 := [.int y3.1]) (vs2 := [x_put w0 5 32 y3.2]) X [(0, 5, 32)] [some y3.2] 0 5 10 [.int (20 : Int32), .int (l3 + l5)] [] cv_RX11_246 (c_X10_drawHours (ad0 := (fun i => ad0 (i + 5)))  e_y3) rfl rfl rfl rfl rfl rfl rfl rfl rfl rfl rfl rfl rfl rfl rfl (Nat.le_of_ble_eq_true rfl) ⟨Nat.le_of_ble_eq_true rfl, Nat.le_of_ble_eq_true rfl⟩ dX11_odds_63 (fun _ => ?_)
      obtain ⟨m4, e_m4, h⟩ := x_lt_elim h
      refine a_nm (vs2 := [m4]) (congrArg (fun q : XM => [q]) e_m4) ?_
      refine a_pop (pc := 66) X dX11_odds_66 rfl ?_
      refine a_aload_n (pc := 67) X 0 dX11_odds_67 rfl rfl ?_
      refine a_getR (pc := 68) X 0 5 5 fl_RX11_19 rfl rfl rfl rfl rfl dX11_odds_68 ?_
      refine a_getR (pc := 71) X 0 17 22 fl_RX11_118 rfl rfl rfl rfl rfl dX11_odds_71 ?_
      refine a_getR (pc := 74) X 0 9 31 fl_RX11_143 rfl rfl rfl rfl rfl dX11_odds_74 ?_
      refine a_iload_n (pc := 77) X 1 dX11_odds_77 rfl rfl ?_
      obtain ⟨y5, e_y5, h⟩ := x_lt_elim h
      refine a_callV (pc := 78) (st2 := [.int y5]) (vs2 := [m4]) X [(0, 31, 2)] [none] 0 31 3 [.int l1] [] cv_RX11_125 (ct_get (ad0 := (fun i => ad0 (i + 31))) (by decide) e_y5) rfl rfl rfl rfl rfl rfl rfl rfl rfl rfl rfl rfl rfl rfl rfl (Nat.le_of_ble_eq_true rfl) ⟨Nat.le_of_ble_eq_true rfl, Nat.le_of_ble_eq_true rfl⟩ dX11_odds_78 (fun _ => ?_)
      refine a_aload_n (pc := 81) X 0 dX11_odds_81 rfl rfl ?_
      refine a_getR (pc := 82) X 0 128 128 fl_RX11_32 rfl rfl rfl rfl rfl dX11_odds_82 ?_
      refine a_getR (pc := 85) X 0 9 137 fl_RX11_143 rfl rfl rfl rfl rfl dX11_odds_85 ?_
      refine a_iload_n (pc := 88) X 1 dX11_odds_88 rfl rfl ?_
      obtain ⟨y6, e_y6, h⟩ := x_lt_elim h
      refine a_callV (pc := 89) (st2 := [.int y6, .int y5]) (vs2 := [m4]) X [(0, 137, 2)] [none] 0 137 3 [.int l1] [.int y5] cv_RX11_125 (ct_get (ad0 := (fun i => ad0 (i + 137))) (by decide) e_y6) rfl rfl rfl rfl rfl rfl rfl rfl rfl rfl rfl rfl rfl rfl rfl (Nat.le_of_ble_eq_true rfl) ⟨Nat.le_of_ble_eq_true rfl, Nat.le_of_ble_eq_true rfl⟩ dX11_odds_89 (fun _ => ?_)
      refine a_iconst (pc := 92) X dX11_odds_92 q_ic_m1 ?_
      refine a_ixor (pc := 93) X dX11_odds_93 ?_
      refine a_iand (pc := 94) X dX11_odds_94 ?_
      refine a_if_eq (pc := 95) X 101 dX11_odds_95 rfl (fun c_95 => ?_) (fun c_95 => ?_)
      · have h := x_ifp c_95 h
        exact w_X11_odds_101 X   hk47  h
      · have h := x_ifn c_95 h
        refine a_iinc (pc := 98) X 4 [(4, .int (l4 + 1)), (0, .ref (ad0 0)), (1, .int l1), (2, .int l2), (3, .int l3), (5, .int l5)] dX11_odds_98 rfl (congrArg (HAdd.hAdd l4) q_ic_1) (by decide) rfl ?_
        refine a_sub [1, 2, 3, 4, 0, 5] rfl ?_
        exact w_X11_odds_101 X   hk47  h
set_option maxRecDepth 100000 in
set_option maxHeartbeats 4000000 in
theorem c_X11_odds {l : Launch}  {ad0 : Nat → Nat} {v0 : XM} {x0 : Int32} {x1 : Int32} {x2 : Int32}  {o : Int32 × XM} (h : f_X11_odds v0 x0 x1 x2 = some o) : CT l yX11_odds cX11_odds 6 (some .int) 6 [(shFoldRoads, ad0)] [v0] (fun aK => [.ref (ad0 0), .int x0, .int x1, .int x2]) (some (.int o.1)) True [o.2] := by
  refine CT_of (by decide) (fun _ => Nat.le_of_ble_eq_true rfl) ?_
  intro p e s m args below meth c D tc aK aV A X
  have X : Cx p s m args meth c cX11_odds 6 (some .int) RX11 D tc aK aV A [(shFoldRoads, ad0)] := X
  show aW p l e (x_Rm 6) s m args below meth c D tc A 6 [(shFoldRoads, ad0)] (some (.int o.1)) True [o.2] 0 [(0, .ref (ad0 0)), (1, .int x0), (2, .int x1), (3, .int x2)] [] [v0]
  unfold f_X11_odds at h
  refine a_aload_n (pc := 0) X 0 dX11_odds_0 rfl rfl ?_
  refine a_getR (pc := 1) X 0 5 5 fl_RX11_19 rfl rfl rfl rfl rfl dX11_odds_1 ?_
  refine a_getR (pc := 4) X 0 1 6 fl_RX11_106 rfl rfl rfl rfl rfl dX11_odds_4 ?_
  refine a_iload_n (pc := 7) X 1 dX11_odds_7 rfl rfl ?_
  obtain ⟨y7, e_y7, h⟩ := x_lt_elim h
  refine a_callV (pc := 8) (st2 := [.int y7]) (vs2 := [v0]) X [(0, 6, 16)] [none] 0 6 9 [.int x0] [] cv_RX11_109 (c_X9_hasWalker (ad0 := (fun i => ad0 (i + 6)))  e_y7) rfl rfl rfl rfl rfl rfl rfl rfl rfl rfl rfl rfl rfl rfl rfl (Nat.le_of_ble_eq_true rfl) ⟨Nat.le_of_ble_eq_true rfl, Nat.le_of_ble_eq_true rfl⟩ dX11_odds_8 (fun z_8 => ?_)
  refine a_if_eq (pc := 11) X 25 dX11_odds_11 rfl (fun c_11 => ?_) (fun c_11 => ?_)
  · have h := x_ifp c_11 h
    refine a_iconst (pc := 25) X dX11_odds_25 q_ic_m1 ?_
    have h := Option.some.inj h; subst h
    exact a_iret (pc := 26) X trivial dX11_odds_26
  · have h := x_ifn c_11 h
    refine a_iload_n (pc := 14) X 2 dX11_odds_14 rfl rfl ?_
    refine a_iconst (pc := 15) X dX11_odds_15 q_ic_1 ?_
    refine a_icmp_lt (pc := 16) X 25 dX11_odds_16 rfl (fun c_16 => ?_) (fun c_16 => ?_)
    · have h := x_ifp c_16 h
      refine a_iconst (pc := 25) X dX11_odds_25 q_ic_m1 ?_
      have h := Option.some.inj h; subst h
      exact a_iret (pc := 26) X trivial dX11_odds_26
    · have h := x_ifn c_16 h
      refine a_iload_n (pc := 19) X 2 dX11_odds_19 rfl rfl ?_
      refine a_bipush (pc := 20) X dX11_odds_20 q_bp_30 ?_
      refine a_icmp_le (pc := 22) X 27 dX11_odds_22 rfl (fun c_22 => ?_) (fun c_22 => ?_)
      · have h := x_ifp c_22 h
        refine a_aload_n (pc := 27) X 0 dX11_odds_27 rfl rfl ?_
        refine a_getR (pc := 28) X 0 128 128 fl_RX11_32 rfl rfl rfl rfl rfl dX11_odds_28 ?_
        refine a_aload_n (pc := 31) X 0 dX11_odds_31 rfl rfl ?_
        refine a_getR (pc := 32) X 0 5 5 fl_RX11_19 rfl rfl rfl rfl rfl dX11_odds_32 ?_
        refine a_getR (pc := 35) X 0 17 22 fl_RX11_118 rfl rfl rfl rfl rfl dX11_odds_35 ?_
        obtain ⟨y8, e_y8, h⟩ := x_lt_elim h
        refine a_callV (pc := 38) (st2 := []) (vs2 := [x_put v0 128 15 y8]) X [(0, 128, 15), (0, 22, 15)] [some y8, none] 0 128 5 [.ref (ad0 22)] [] cv_RX11_230 (c_X5_become (ad0 := (fun i => ad0 (i + 128))) (ad1 := (fun i => ad0 (i + 22)))  e_y8) rfl rfl rfl rfl rfl rfl rfl rfl rfl rfl rfl rfl rfl rfl rfl (Nat.le_of_ble_eq_true rfl) ⟨Nat.le_of_ble_eq_true rfl, Nat.le_of_ble_eq_true rfl⟩ dX11_odds_38 (fun _ => ?_)
        obtain ⟨m9, e_m9, h⟩ := x_lt_elim h
        refine a_nm (vs2 := [m9]) (congrArg (fun q : XM => [q]) e_m9) ?_
        refine a_iconst (pc := 41) X dX11_odds_41 q_ic_0 ?_
        refine a_istore (pc := 42) X [(4, .int (0 : Int32)), (0, .ref (ad0 0)), (1, .int x0), (2, .int x1), (3, .int x2)] dX11_odds_42 (by decide) rfl ?_
        refine a_iconst (pc := 44) X dX11_odds_44 q_ic_0 ?_
        refine a_istore (pc := 45) X [(5, .int (0 : Int32)), (4, .int (0 : Int32)), (0, .ref (ad0 0)), (1, .int x0), (2, .int x1), (3, .int x2)] dX11_odds_45 (by decide) rfl ?_
        refine a_sub [2, 3, 4, 5, 1, 0] rfl ?_
        exact w_X11_odds_47 X    x_NN _ _ _ _ _ _ h
      · have h := x_ifn c_22 h
        refine a_iconst (pc := 25) X dX11_odds_25 q_ic_m1 ?_
        have h := Option.some.inj h; subst h
        exact a_iret (pc := 26) X trivial dX11_odds_26
theorem dX11_takes_0 : decode cX11_takes 0 = .ok (.aload_n 0, 1) := by decide +kernel
theorem dX11_takes_1 : decode cX11_takes 1 = .ok (.getfield 19, 3) := by decide +kernel
theorem dX11_takes_4 : decode cX11_takes 4 = .ok (.getfield 106, 3) := by decide +kernel
theorem dX11_takes_7 : decode cX11_takes 7 = .ok (.iload_n 1, 1) := by decide +kernel
theorem dX11_takes_8 : decode cX11_takes 8 = .ok (.invokevirtual 109, 3) := by decide +kernel
theorem dX11_takes_11 : decode cX11_takes 11 = .ok (.ifCond .eq 17, 3) := by decide +kernel
theorem dX11_takes_14 : decode cX11_takes 14 = .ok (.aload_n 0, 1) := by decide +kernel
theorem dX11_takes_15 : decode cX11_takes 15 = .ok (.getfield 19, 3) := by decide +kernel
theorem dX11_takes_18 : decode cX11_takes 18 = .ok (.getfield 106, 3) := by decide +kernel
theorem dX11_takes_21 : decode cX11_takes 21 = .ok (.iload_n 2, 1) := by decide +kernel
theorem dX11_takes_22 : decode cX11_takes 22 = .ok (.invokevirtual 150, 3) := by decide +kernel
theorem dX11_takes_25 : decode cX11_takes 25 = .ok (.ifCond .ne 5, 3) := by decide +kernel
theorem dX11_takes_28 : decode cX11_takes 28 = .ok (.iconst (-1), 1) := by decide +kernel
theorem dX11_takes_29 : decode cX11_takes 29 = .ok (.ireturn, 1) := by decide +kernel
theorem dX11_takes_30 : decode cX11_takes 30 = .ok (.aload_n 0, 1) := by decide +kernel
theorem dX11_takes_31 : decode cX11_takes 31 = .ok (.getfield 19, 3) := by decide +kernel
theorem dX11_takes_34 : decode cX11_takes 34 = .ok (.iload_n 2, 1) := by decide +kernel
theorem dX11_takes_35 : decode cX11_takes 35 = .ok (.aload_n 0, 1) := by decide +kernel
theorem dX11_takes_36 : decode cX11_takes 36 = .ok (.getfield 19, 3) := by decide +kernel
theorem dX11_takes_39 : decode cX11_takes 39 = .ok (.getfield 106, 3) := by decide +kernel
theorem dX11_takes_42 : decode cX11_takes 42 = .ok (.getfield 131, 3) := by decide +kernel
theorem dX11_takes_45 : decode cX11_takes 45 = .ok (.iload_n 1, 1) := by decide +kernel
theorem dX11_takes_46 : decode cX11_takes 46 = .ok (.invokevirtual 125, 3) := by decide +kernel
theorem dX11_takes_49 : decode cX11_takes 49 = .ok (.invokevirtual 257, 3) := by decide +kernel
theorem dX11_takes_52 : decode cX11_takes 52 = .ok (.ireturn, 1) := by decide +kernel
def f_X11_takes (v0 : XM) (x0 : Int32) (x1 : Int32) : Option (Int32) :=
  x_lt (f_X9_hasWalker (x_sub v0 6) x0) (fun y1 =>
  if y1 = (0 : Int32) then
  (some ((-1 : Int32) : Int32))
  else (x_lt (f_X9_hasFold (x_sub v0 6) x1) (fun y2 =>
  if y2 = (0 : Int32) then
  (some ((-1 : Int32) : Int32))
  else (x_lt (r_get 5 (x_sub v0 19) x0) (fun y3 =>
  x_bo (f_X10_hoursOn (x_sub v0 5) x1 y3) (fun y4 =>
  some (y4 : Int32)))))))
set_option maxRecDepth 100000 in
set_option maxHeartbeats 4000000 in
theorem c_X11_takes {l : Launch}  {ad0 : Nat → Nat} {v0 : XM} {x0 : Int32} {x1 : Int32}  {o : Int32} (h : f_X11_takes v0 x0 x1 = some o) : CT l yX11_takes cX11_takes 3 (some .int) 3 [(shFoldRoads, ad0)] [v0] (fun aK => [.ref (ad0 0), .int x0, .int x1]) (some (.int o)) True [v0] := by
  refine CT_of (by decide) (fun _ => Nat.le_of_ble_eq_true rfl) ?_
  intro p e s m args below meth c D tc aK aV A X
  have X : Cx p s m args meth c cX11_takes 3 (some .int) RX11 D tc aK aV A [(shFoldRoads, ad0)] := X
  show aW p l e (x_Rm 3) s m args below meth c D tc A 3 [(shFoldRoads, ad0)] (some (.int o)) True [v0] 0 [(0, .ref (ad0 0)), (1, .int x0), (2, .int x1)] [] [v0]
  unfold f_X11_takes at h
  refine a_aload_n (pc := 0) X 0 dX11_takes_0 rfl rfl ?_
  refine a_getR (pc := 1) X 0 5 5 fl_RX11_19 rfl rfl rfl rfl rfl dX11_takes_1 ?_
  refine a_getR (pc := 4) X 0 1 6 fl_RX11_106 rfl rfl rfl rfl rfl dX11_takes_4 ?_
  refine a_iload_n (pc := 7) X 1 dX11_takes_7 rfl rfl ?_
  obtain ⟨y1, e_y1, h⟩ := x_lt_elim h
  refine a_callV (pc := 8) (st2 := [.int y1]) (vs2 := [v0]) X [(0, 6, 16)] [none] 0 6 9 [.int x0] [] cv_RX11_109 (c_X9_hasWalker (ad0 := (fun i => ad0 (i + 6)))  e_y1) rfl rfl rfl rfl rfl rfl rfl rfl rfl rfl rfl rfl rfl rfl rfl (Nat.le_of_ble_eq_true rfl) ⟨Nat.le_of_ble_eq_true rfl, Nat.le_of_ble_eq_true rfl⟩ dX11_takes_8 (fun z_8 => ?_)
  refine a_if_eq (pc := 11) X 28 dX11_takes_11 rfl (fun c_11 => ?_) (fun c_11 => ?_)
  · have h := x_ifp c_11 h
    refine a_iconst (pc := 28) X dX11_takes_28 q_ic_m1 ?_
    have h := Option.some.inj h; subst h
    exact a_iret (pc := 29) X trivial dX11_takes_29
  · have h := x_ifn c_11 h
    refine a_aload_n (pc := 14) X 0 dX11_takes_14 rfl rfl ?_
    refine a_getR (pc := 15) X 0 5 5 fl_RX11_19 rfl rfl rfl rfl rfl dX11_takes_15 ?_
    refine a_getR (pc := 18) X 0 1 6 fl_RX11_106 rfl rfl rfl rfl rfl dX11_takes_18 ?_
    refine a_iload_n (pc := 21) X 2 dX11_takes_21 rfl rfl ?_
    obtain ⟨y2, e_y2, h⟩ := x_lt_elim h
    refine a_callV (pc := 22) (st2 := [.int y2]) (vs2 := [v0]) X [(0, 6, 16)] [none] 0 6 9 [.int x1] [] cv_RX11_150 (c_X9_hasFold (ad0 := (fun i => ad0 (i + 6)))  e_y2) rfl rfl rfl rfl rfl rfl rfl rfl rfl rfl rfl rfl rfl rfl rfl (Nat.le_of_ble_eq_true rfl) ⟨Nat.le_of_ble_eq_true rfl, Nat.le_of_ble_eq_true rfl⟩ dX11_takes_22 (fun z_22 => ?_)
    refine a_if_ne (pc := 25) X 30 dX11_takes_25 rfl (fun c_25 => ?_) (fun c_25 => ?_)
    · have h := x_ifn c_25 h
      refine a_aload_n (pc := 30) X 0 dX11_takes_30 rfl rfl ?_
      refine a_getR (pc := 31) X 0 5 5 fl_RX11_19 rfl rfl rfl rfl rfl dX11_takes_31 ?_
      refine a_iload_n (pc := 34) X 2 dX11_takes_34 rfl rfl ?_
      refine a_aload_n (pc := 35) X 0 dX11_takes_35 rfl rfl ?_
      refine a_getR (pc := 36) X 0 5 5 fl_RX11_19 rfl rfl rfl rfl rfl dX11_takes_36 ?_
      refine a_getR (pc := 39) X 0 1 6 fl_RX11_106 rfl rfl rfl rfl rfl dX11_takes_39 ?_
      refine a_getR (pc := 42) X 0 13 19 fl_RX11_131 rfl rfl rfl rfl rfl dX11_takes_42 ?_
      refine a_iload_n (pc := 45) X 1 dX11_takes_45 rfl rfl ?_
      obtain ⟨y3, e_y3, h⟩ := x_lt_elim h
      refine a_callV (pc := 46) (st2 := [.int y3, .int x1, .ref (ad0 5)]) (vs2 := [v0]) X [(0, 19, 2)] [none] 0 19 3 [.int x0] [.int x1, .ref (ad0 5)] cv_RX11_125 (ct_get (ad0 := (fun i => ad0 (i + 19))) (by decide) e_y3) rfl rfl rfl rfl rfl rfl rfl rfl rfl rfl rfl rfl rfl rfl rfl (Nat.le_of_ble_eq_true rfl) ⟨Nat.le_of_ble_eq_true rfl, Nat.le_of_ble_eq_true rfl⟩ dX11_takes_46 (fun _ => ?_)
      obtain ⟨y4, e_y4, h⟩ := x_bo_elim h
      refine a_callV (pc := 49) (st2 := [.int y4]) (vs2 := [v0]) X [(0, 5, 32)] [none] 0 5 10 [.int x1, .int y3] [] cv_RX11_257 (c_X10_hoursOn (ad0 := (fun i => ad0 (i + 5)))  e_y4) rfl rfl rfl rfl rfl rfl rfl rfl rfl rfl rfl rfl rfl rfl rfl (Nat.le_of_ble_eq_true rfl) ⟨Nat.le_of_ble_eq_true rfl, Nat.le_of_ble_eq_true rfl⟩ dX11_takes_49 (fun _ => ?_)
      have h := Option.some.inj h; subst h
      exact a_iret (pc := 52) X trivial dX11_takes_52
    · have h := x_ifp c_25 h
      refine a_iconst (pc := 28) X dX11_takes_28 q_ic_m1 ?_
      have h := Option.some.inj h; subst h
      exact a_iret (pc := 29) X trivial dX11_takes_29
theorem dX11_canSetOut_0 : decode cX11_canSetOut 0 = .ok (.aload_n 0, 1) := by decide +kernel
theorem dX11_canSetOut_1 : decode cX11_canSetOut 1 = .ok (.getfield 19, 3) := by decide +kernel
theorem dX11_canSetOut_4 : decode cX11_canSetOut 4 = .ok (.getfield 106, 3) := by decide +kernel
theorem dX11_canSetOut_7 : decode cX11_canSetOut 7 = .ok (.iload_n 1, 1) := by decide +kernel
theorem dX11_canSetOut_8 : decode cX11_canSetOut 8 = .ok (.invokevirtual 109, 3) := by decide +kernel
theorem dX11_canSetOut_11 : decode cX11_canSetOut 11 = .ok (.ifCond .eq 18, 3) := by decide +kernel
theorem dX11_canSetOut_14 : decode cX11_canSetOut 14 = .ok (.aload_n 0, 1) := by decide +kernel
theorem dX11_canSetOut_15 : decode cX11_canSetOut 15 = .ok (.getfield 19, 3) := by decide +kernel
theorem dX11_canSetOut_18 : decode cX11_canSetOut 18 = .ok (.iload_n 1, 1) := by decide +kernel
theorem dX11_canSetOut_19 : decode cX11_canSetOut 19 = .ok (.invokevirtual 292, 3) := by decide +kernel
theorem dX11_canSetOut_22 : decode cX11_canSetOut 22 = .ok (.ifCond .ne 7, 3) := by decide +kernel
theorem dX11_canSetOut_25 : decode cX11_canSetOut 25 = .ok (.iconst 1, 1) := by decide +kernel
theorem dX11_canSetOut_26 : decode cX11_canSetOut 26 = .ok (.goto 4, 3) := by decide +kernel
theorem dX11_canSetOut_29 : decode cX11_canSetOut 29 = .ok (.iconst 0, 1) := by decide +kernel
theorem dX11_canSetOut_30 : decode cX11_canSetOut 30 = .ok (.ireturn, 1) := by decide +kernel
def f_X11_canSetOut (v0 : XM) (x0 : Int32) : Int32 :=
  x_lt (f_X9_hasWalker (x_sub v0 6) x0) (fun y1 =>
  if y1 = (0 : Int32) then
  (((0 : Int32) : Int32))
  else (x_lt (f_X10_isGoing (x_sub v0 5) x0) (fun y2 =>
  if y2 = (0 : Int32) then
  (((1 : Int32) : Int32))
  else (((0 : Int32) : Int32)))))
set_option maxRecDepth 100000 in
set_option maxHeartbeats 4000000 in
theorem c_X11_canSetOut {l : Launch}  {ad0 : Nat → Nat} {v0 : XM} {x0 : Int32}  {o : Int32} (h : f_X11_canSetOut v0 x0 = o) : CT l yX11_canSetOut cX11_canSetOut 2 (some .boolean) 2 [(shFoldRoads, ad0)] [v0] (fun aK => [.ref (ad0 0), .int x0]) (some (.int o)) (x_Z o) [v0] := by
  refine CT_of (by decide) (fun _ => Nat.le_of_ble_eq_true rfl) ?_
  intro p e s m args below meth c D tc aK aV A X
  have X : Cx p s m args meth c cX11_canSetOut 2 (some .boolean) RX11 D tc aK aV A [(shFoldRoads, ad0)] := X
  show aW p l e (x_Rm 2) s m args below meth c D tc A 2 [(shFoldRoads, ad0)] (some (.int o)) (x_Z o) [v0] 0 [(0, .ref (ad0 0)), (1, .int x0)] [] [v0]
  unfold f_X11_canSetOut at h
  refine a_aload_n (pc := 0) X 0 dX11_canSetOut_0 rfl rfl ?_
  refine a_getR (pc := 1) X 0 5 5 fl_RX11_19 rfl rfl rfl rfl rfl dX11_canSetOut_1 ?_
  refine a_getR (pc := 4) X 0 1 6 fl_RX11_106 rfl rfl rfl rfl rfl dX11_canSetOut_4 ?_
  refine a_iload_n (pc := 7) X 1 dX11_canSetOut_7 rfl rfl ?_
  obtain ⟨y1, e_y1, h⟩ := x_lt_elim h
  refine a_callV (pc := 8) (st2 := [.int y1]) (vs2 := [v0]) X [(0, 6, 16)] [none] 0 6 9 [.int x0] [] cv_RX11_109 (c_X9_hasWalker (ad0 := (fun i => ad0 (i + 6)))  e_y1) rfl rfl rfl rfl rfl rfl rfl rfl rfl rfl rfl rfl rfl rfl rfl (Nat.le_of_ble_eq_true rfl) ⟨Nat.le_of_ble_eq_true rfl, Nat.le_of_ble_eq_true rfl⟩ dX11_canSetOut_8 (fun z_8 => ?_)
  refine a_if_eq (pc := 11) X 29 dX11_canSetOut_11 rfl (fun c_11 => ?_) (fun c_11 => ?_)
  · have h := x_ifp c_11 h
    refine a_iconst (pc := 29) X dX11_canSetOut_29 q_ic_0 ?_
    subst h
    exact a_zret (pc := 30) X x_Z0 x_Z0 dX11_canSetOut_30
  · have h := x_ifn c_11 h
    refine a_aload_n (pc := 14) X 0 dX11_canSetOut_14 rfl rfl ?_
    refine a_getR (pc := 15) X 0 5 5 fl_RX11_19 rfl rfl rfl rfl rfl dX11_canSetOut_15 ?_
    refine a_iload_n (pc := 18) X 1 dX11_canSetOut_18 rfl rfl ?_
    obtain ⟨y2, e_y2, h⟩ := x_lt_elim h
    refine a_callV (pc := 19) (st2 := [.int y2]) (vs2 := [v0]) X [(0, 5, 32)] [none] 0 5 10 [.int x0] [] cv_RX11_292 (c_X10_isGoing (ad0 := (fun i => ad0 (i + 5)))  e_y2) rfl rfl rfl rfl rfl rfl rfl rfl rfl rfl rfl rfl rfl rfl rfl (Nat.le_of_ble_eq_true rfl) ⟨Nat.le_of_ble_eq_true rfl, Nat.le_of_ble_eq_true rfl⟩ dX11_canSetOut_19 (fun z_19 => ?_)
    refine a_if_ne (pc := 22) X 29 dX11_canSetOut_22 rfl (fun c_22 => ?_) (fun c_22 => ?_)
    · have h := x_ifn c_22 h
      refine a_iconst (pc := 29) X dX11_canSetOut_29 q_ic_0 ?_
      subst h
      exact a_zret (pc := 30) X x_Z0 x_Z0 dX11_canSetOut_30
    · have h := x_ifp c_22 h
      refine a_iconst (pc := 25) X dX11_canSetOut_25 q_ic_1 ?_
      refine a_goto (pc := 26) X 30 dX11_canSetOut_26 rfl ?_
      subst h
      exact a_zret (pc := 30) X x_Z1 x_Z1 dX11_canSetOut_30
theorem dX11_way_0 : decode cX11_way 0 = .ok (.aload_n 0, 1) := by decide +kernel
theorem dX11_way_1 : decode cX11_way 1 = .ok (.iload_n 1, 1) := by decide +kernel
theorem dX11_way_2 : decode cX11_way 2 = .ok (.invokevirtual 260, 3) := by decide +kernel
theorem dX11_way_5 : decode cX11_way 5 = .ok (.ifCond .eq 17, 3) := by decide +kernel
theorem dX11_way_8 : decode cX11_way 8 = .ok (.aload_n 0, 1) := by decide +kernel
theorem dX11_way_9 : decode cX11_way 9 = .ok (.getfield 19, 3) := by decide +kernel
theorem dX11_way_12 : decode cX11_way 12 = .ok (.getfield 106, 3) := by decide +kernel
theorem dX11_way_15 : decode cX11_way 15 = .ok (.iload_n 2, 1) := by decide +kernel
theorem dX11_way_16 : decode cX11_way 16 = .ok (.invokevirtual 171, 3) := by decide +kernel
theorem dX11_way_19 : decode cX11_way 19 = .ok (.ifCond .ne 5, 3) := by decide +kernel
theorem dX11_way_22 : decode cX11_way 22 = .ok (.iconst (-1), 1) := by decide +kernel
theorem dX11_way_23 : decode cX11_way 23 = .ok (.ireturn, 1) := by decide +kernel
theorem dX11_way_24 : decode cX11_way 24 = .ok (.aload_n 0, 1) := by decide +kernel
theorem dX11_way_25 : decode cX11_way 25 = .ok (.getfield 67, 3) := by decide +kernel
theorem dX11_way_28 : decode cX11_way 28 = .ok (.aload_n 0, 1) := by decide +kernel
theorem dX11_way_29 : decode cX11_way 29 = .ok (.getfield 19, 3) := by decide +kernel
theorem dX11_way_32 : decode cX11_way 32 = .ok (.iload_n 1, 1) := by decide +kernel
theorem dX11_way_33 : decode cX11_way 33 = .ok (.iload_n 2, 1) := by decide +kernel
theorem dX11_way_34 : decode cX11_way 34 = .ok (.invokevirtual 263, 3) := by decide +kernel
theorem dX11_way_37 : decode cX11_way 37 = .ok (.ireturn, 1) := by decide +kernel
def f_X11_way (v0 : XM) (x0 : Int32) (x1 : Int32) : Option (Int32 × XM) :=
  x_lt (f_X11_canSetOut v0 x0) (fun y1 =>
  if y1 = (0 : Int32) then
  (some ((-1 : Int32), v0))
  else (x_lt (f_X9_hasSpot (x_sub v0 6) x1) (fun y2 =>
  if y2 = (0 : Int32) then
  (some ((-1 : Int32), v0))
  else (x_bo (f_X2_findWay (x_sub v0 300) (x_sub v0 5) x0 x1) (fun y3 =>
  x_lt (x_put v0 300 15 y3.2) (fun m4 =>
  some (y3.1, m4)))))))
set_option maxRecDepth 100000 in
set_option maxHeartbeats 4000000 in
theorem c_X11_way {l : Launch}  {ad0 : Nat → Nat} {v0 : XM} {x0 : Int32} {x1 : Int32}  {o : Int32 × XM} (h : f_X11_way v0 x0 x1 = some o) : CT l yX11_way cX11_way 3 (some .int) 6 [(shFoldRoads, ad0)] [v0] (fun aK => [.ref (ad0 0), .int x0, .int x1]) (some (.int o.1)) True [o.2] := by
  refine CT_of (by decide) (fun _ => Nat.le_of_ble_eq_true rfl) ?_
  intro p e s m args below meth c D tc aK aV A X
  have X : Cx p s m args meth c cX11_way 3 (some .int) RX11 D tc aK aV A [(shFoldRoads, ad0)] := X
  show aW p l e (x_Rm 6) s m args below meth c D tc A 3 [(shFoldRoads, ad0)] (some (.int o.1)) True [o.2] 0 [(0, .ref (ad0 0)), (1, .int x0), (2, .int x1)] [] [v0]
  unfold f_X11_way at h
  refine a_aload_n (pc := 0) X 0 dX11_way_0 rfl rfl ?_
  refine a_iload_n (pc := 1) X 1 dX11_way_1 rfl rfl ?_
  obtain ⟨y1, e_y1, h⟩ := x_lt_elim h
  refine a_callV (pc := 2) (st2 := [.int y1]) (vs2 := [v0]) X [(0, 0, 318)] [none] 0 0 11 [.int x0] [] cv_RX11_260 (c_X11_canSetOut (ad0 := ad0)  e_y1) rfl rfl rfl rfl rfl rfl rfl rfl rfl rfl rfl rfl rfl rfl rfl (Nat.le_of_ble_eq_true rfl) ⟨Nat.le_of_ble_eq_true rfl, Nat.le_of_ble_eq_true rfl⟩ dX11_way_2 (fun z_2 => ?_)
  refine a_if_eq (pc := 5) X 22 dX11_way_5 rfl (fun c_5 => ?_) (fun c_5 => ?_)
  · have h := x_ifp c_5 h
    refine a_iconst (pc := 22) X dX11_way_22 q_ic_m1 ?_
    have h := Option.some.inj h; subst h
    exact a_iret (pc := 23) X trivial dX11_way_23
  · have h := x_ifn c_5 h
    refine a_aload_n (pc := 8) X 0 dX11_way_8 rfl rfl ?_
    refine a_getR (pc := 9) X 0 5 5 fl_RX11_19 rfl rfl rfl rfl rfl dX11_way_9 ?_
    refine a_getR (pc := 12) X 0 1 6 fl_RX11_106 rfl rfl rfl rfl rfl dX11_way_12 ?_
    refine a_iload_n (pc := 15) X 2 dX11_way_15 rfl rfl ?_
    obtain ⟨y2, e_y2, h⟩ := x_lt_elim h
    refine a_callV (pc := 16) (st2 := [.int y2]) (vs2 := [v0]) X [(0, 6, 16)] [none] 0 6 9 [.int x1] [] cv_RX11_171 (c_X9_hasSpot (ad0 := (fun i => ad0 (i + 6)))  e_y2) rfl rfl rfl rfl rfl rfl rfl rfl rfl rfl rfl rfl rfl rfl rfl (Nat.le_of_ble_eq_true rfl) ⟨Nat.le_of_ble_eq_true rfl, Nat.le_of_ble_eq_true rfl⟩ dX11_way_16 (fun z_16 => ?_)
    refine a_if_ne (pc := 19) X 24 dX11_way_19 rfl (fun c_19 => ?_) (fun c_19 => ?_)
    · have h := x_ifn c_19 h
      refine a_aload_n (pc := 24) X 0 dX11_way_24 rfl rfl ?_
      refine a_getR (pc := 25) X 0 300 300 fl_RX11_67 rfl rfl rfl rfl rfl dX11_way_25 ?_
      refine a_aload_n (pc := 28) X 0 dX11_way_28 rfl rfl ?_
      refine a_getR (pc := 29) X 0 5 5 fl_RX11_19 rfl rfl rfl rfl rfl dX11_way_29 ?_
      refine a_iload_n (pc := 32) X 1 dX11_way_32 rfl rfl ?_
      refine a_iload_n (pc := 33) X 2 dX11_way_33 rfl rfl ?_
      obtain ⟨y3, e_y3, h⟩ := x_bo_elim h
      refine a_callV (pc := 34) (st2 := [.int y3.1]) (vs2 := [x_put v0 300 15 y3.2]) X [(0, 300, 15), (0, 5, 32)] [some y3.2, none] 0 300 2 [.ref (ad0 5), .int x0, .int x1] [] cv_RX11_263 (c_X2_findWay (ad0 := (fun i => ad0 (i + 300))) (ad1 := (fun i => ad0 (i + 5)))  e_y3) rfl rfl rfl rfl rfl rfl rfl rfl rfl rfl rfl rfl rfl rfl rfl (Nat.le_of_ble_eq_true rfl) ⟨Nat.le_of_ble_eq_true rfl, Nat.le_of_ble_eq_true rfl⟩ dX11_way_34 (fun _ => ?_)
      obtain ⟨m4, e_m4, h⟩ := x_lt_elim h
      refine a_nm (vs2 := [m4]) (congrArg (fun q : XM => [q]) e_m4) ?_
      have h := Option.some.inj h; subst h
      exact a_iret (pc := 37) X trivial dX11_way_37
    · have h := x_ifp c_19 h
      refine a_iconst (pc := 22) X dX11_way_22 q_ic_m1 ?_
      have h := Option.some.inj h; subst h
      exact a_iret (pc := 23) X trivial dX11_way_23
theorem dX11_wayAt_0 : decode cX11_wayAt 0 = .ok (.iload_n 1, 1) := by decide +kernel
theorem dX11_wayAt_1 : decode cX11_wayAt 1 = .ok (.ifCond .lt 28, 3) := by decide +kernel
theorem dX11_wayAt_4 : decode cX11_wayAt 4 = .ok (.iload_n 1, 1) := by decide +kernel
theorem dX11_wayAt_5 : decode cX11_wayAt 5 = .ok (.aload_n 0, 1) := by decide +kernel
theorem dX11_wayAt_6 : decode cX11_wayAt 6 = .ok (.getfield 67, 3) := by decide +kernel
theorem dX11_wayAt_9 : decode cX11_wayAt 9 = .ok (.getfield 267, 3) := by decide +kernel
theorem dX11_wayAt_12 : decode cX11_wayAt 12 = .ok (.if_icmp .ge 17, 3) := by decide +kernel
theorem dX11_wayAt_15 : decode cX11_wayAt 15 = .ok (.aload_n 0, 1) := by decide +kernel
theorem dX11_wayAt_16 : decode cX11_wayAt 16 = .ok (.getfield 67, 3) := by decide +kernel
theorem dX11_wayAt_19 : decode cX11_wayAt 19 = .ok (.getfield 270, 3) := by decide +kernel
theorem dX11_wayAt_22 : decode cX11_wayAt 22 = .ok (.iload_n 1, 1) := by decide +kernel
theorem dX11_wayAt_23 : decode cX11_wayAt 23 = .ok (.invokevirtual 125, 3) := by decide +kernel
theorem dX11_wayAt_26 : decode cX11_wayAt 26 = .ok (.goto 4, 3) := by decide +kernel
theorem dX11_wayAt_29 : decode cX11_wayAt 29 = .ok (.iconst (-1), 1) := by decide +kernel
theorem dX11_wayAt_30 : decode cX11_wayAt 30 = .ok (.ireturn, 1) := by decide +kernel
def f_X11_wayAt (v0 : XM) (x0 : Int32) : Int32 :=
  if x0 < (0 : Int32) then
  (((-1 : Int32) : Int32))
  else (if ((v0.1 300 6) : Int32) ≤ x0 then
  (((-1 : Int32) : Int32))
  else (x_lt (r_get 8 (x_sub v0 311) x0) (fun y1 =>
  (y1 : Int32))))
set_option maxRecDepth 100000 in
set_option maxHeartbeats 4000000 in
theorem c_X11_wayAt {l : Launch}  {ad0 : Nat → Nat} {v0 : XM} {x0 : Int32}  {o : Int32} (h : f_X11_wayAt v0 x0 = o) : CT l yX11_wayAt cX11_wayAt 2 (some .int) 1 [(shFoldRoads, ad0)] [v0] (fun aK => [.ref (ad0 0), .int x0]) (some (.int o)) True [v0] := by
  refine CT_of (by decide) (fun _ => Nat.le_of_ble_eq_true rfl) ?_
  intro p e s m args below meth c D tc aK aV A X
  have X : Cx p s m args meth c cX11_wayAt 2 (some .int) RX11 D tc aK aV A [(shFoldRoads, ad0)] := X
  show aW p l e (x_Rm 1) s m args below meth c D tc A 2 [(shFoldRoads, ad0)] (some (.int o)) True [v0] 0 [(0, .ref (ad0 0)), (1, .int x0)] [] [v0]
  unfold f_X11_wayAt at h
  refine a_iload_n (pc := 0) X 1 dX11_wayAt_0 rfl rfl ?_
  refine a_if_lt (pc := 1) X 29 dX11_wayAt_1 rfl (fun c_1 => ?_) (fun c_1 => ?_)
  · have h := x_ifp c_1 h
    refine a_iconst (pc := 29) X dX11_wayAt_29 q_ic_m1 ?_
    subst h
    exact a_iret (pc := 30) X trivial dX11_wayAt_30
  · have h := x_ifn c_1 h
    refine a_iload_n (pc := 4) X 1 dX11_wayAt_4 rfl rfl ?_
    refine a_aload_n (pc := 5) X 0 dX11_wayAt_5 rfl rfl ?_
    refine a_getR (pc := 6) X 0 300 300 fl_RX11_67 rfl rfl rfl rfl rfl dX11_wayAt_6 ?_
    refine a_getI (pc := 9) X 0 fl_RX11_267 rfl rfl rfl rfl dX11_wayAt_9 ?_
    refine a_icmp_ge (pc := 12) X 29 dX11_wayAt_12 rfl (fun c_12 => ?_) (fun c_12 => ?_)
    · have h := x_ifp c_12 h
      refine a_iconst (pc := 29) X dX11_wayAt_29 q_ic_m1 ?_
      subst h
      exact a_iret (pc := 30) X trivial dX11_wayAt_30
    · have h := x_ifn c_12 h
      refine a_aload_n (pc := 15) X 0 dX11_wayAt_15 rfl rfl ?_
      refine a_getR (pc := 16) X 0 300 300 fl_RX11_67 rfl rfl rfl rfl rfl dX11_wayAt_16 ?_
      refine a_getR (pc := 19) X 0 11 311 fl_RX11_270 rfl rfl rfl rfl rfl dX11_wayAt_19 ?_
      refine a_iload_n (pc := 22) X 1 dX11_wayAt_22 rfl rfl ?_
      obtain ⟨y1, e_y1, h⟩ := x_lt_elim h
      refine a_callV (pc := 23) (st2 := [.int y1]) (vs2 := [v0]) X [(0, 311, 2)] [none] 0 311 3 [.int x0] [] cv_RX11_125 (ct_get (ad0 := (fun i => ad0 (i + 311))) (by decide) e_y1) rfl rfl rfl rfl rfl rfl rfl rfl rfl rfl rfl rfl rfl rfl rfl (Nat.le_of_ble_eq_true rfl) ⟨Nat.le_of_ble_eq_true rfl, Nat.le_of_ble_eq_true rfl⟩ dX11_wayAt_23 (fun _ => ?_)
      refine a_goto (pc := 26) X 30 dX11_wayAt_26 rfl ?_
      subst h
      exact a_iret (pc := 30) X trivial dX11_wayAt_30
theorem dX11_reaches_0 : decode cX11_reaches 0 = .ok (.aload_n 0, 1) := by decide +kernel
theorem dX11_reaches_1 : decode cX11_reaches 1 = .ok (.iload_n 1, 1) := by decide +kernel
theorem dX11_reaches_2 : decode cX11_reaches 2 = .ok (.invokevirtual 260, 3) := by decide +kernel
theorem dX11_reaches_5 : decode cX11_reaches 5 = .ok (.ifCond .eq 18, 3) := by decide +kernel
theorem dX11_reaches_8 : decode cX11_reaches 8 = .ok (.aload_n 0, 1) := by decide +kernel
theorem dX11_reaches_9 : decode cX11_reaches 9 = .ok (.getfield 67, 3) := by decide +kernel
theorem dX11_reaches_12 : decode cX11_reaches 12 = .ok (.aload_n 0, 1) := by decide +kernel
theorem dX11_reaches_13 : decode cX11_reaches 13 = .ok (.getfield 19, 3) := by decide +kernel
theorem dX11_reaches_16 : decode cX11_reaches 16 = .ok (.iload_n 1, 1) := by decide +kernel
theorem dX11_reaches_17 : decode cX11_reaches 17 = .ok (.invokevirtual 273, 3) := by decide +kernel
theorem dX11_reaches_20 : decode cX11_reaches 20 = .ok (.goto 4, 3) := by decide +kernel
theorem dX11_reaches_23 : decode cX11_reaches 23 = .ok (.iconst (-1), 1) := by decide +kernel
theorem dX11_reaches_24 : decode cX11_reaches 24 = .ok (.ireturn, 1) := by decide +kernel
def f_X11_reaches (v0 : XM) (x0 : Int32) : Option (Int32 × XM) :=
  x_lt (f_X11_canSetOut v0 x0) (fun y1 =>
  if y1 = (0 : Int32) then
  (some ((-1 : Int32), v0))
  else (x_bo (f_X2_reachedBy (x_sub v0 300) (x_sub v0 5) x0) (fun y2 =>
  x_lt (x_put v0 300 15 y2.2) (fun m3 =>
  some (y2.1, m3)))))
set_option maxRecDepth 100000 in
set_option maxHeartbeats 4000000 in
theorem c_X11_reaches {l : Launch}  {ad0 : Nat → Nat} {v0 : XM} {x0 : Int32}  {o : Int32 × XM} (h : f_X11_reaches v0 x0 = some o) : CT l yX11_reaches cX11_reaches 2 (some .int) 6 [(shFoldRoads, ad0)] [v0] (fun aK => [.ref (ad0 0), .int x0]) (some (.int o.1)) True [o.2] := by
  refine CT_of (by decide) (fun _ => Nat.le_of_ble_eq_true rfl) ?_
  intro p e s m args below meth c D tc aK aV A X
  have X : Cx p s m args meth c cX11_reaches 2 (some .int) RX11 D tc aK aV A [(shFoldRoads, ad0)] := X
  show aW p l e (x_Rm 6) s m args below meth c D tc A 2 [(shFoldRoads, ad0)] (some (.int o.1)) True [o.2] 0 [(0, .ref (ad0 0)), (1, .int x0)] [] [v0]
  unfold f_X11_reaches at h
  refine a_aload_n (pc := 0) X 0 dX11_reaches_0 rfl rfl ?_
  refine a_iload_n (pc := 1) X 1 dX11_reaches_1 rfl rfl ?_
  obtain ⟨y1, e_y1, h⟩ := x_lt_elim h
  refine a_callV (pc := 2) (st2 := [.int y1]) (vs2 := [v0]) X [(0, 0, 318)] [none] 0 0 11 [.int x0] [] cv_RX11_260 (c_X11_canSetOut (ad0 := ad0)  e_y1) rfl rfl rfl rfl rfl rfl rfl rfl rfl rfl rfl rfl rfl rfl rfl (Nat.le_of_ble_eq_true rfl) ⟨Nat.le_of_ble_eq_true rfl, Nat.le_of_ble_eq_true rfl⟩ dX11_reaches_2 (fun z_2 => ?_)
  refine a_if_eq (pc := 5) X 23 dX11_reaches_5 rfl (fun c_5 => ?_) (fun c_5 => ?_)
  · have h := x_ifp c_5 h
    refine a_iconst (pc := 23) X dX11_reaches_23 q_ic_m1 ?_
    have h := Option.some.inj h; subst h
    exact a_iret (pc := 24) X trivial dX11_reaches_24
  · have h := x_ifn c_5 h
    refine a_aload_n (pc := 8) X 0 dX11_reaches_8 rfl rfl ?_
    refine a_getR (pc := 9) X 0 300 300 fl_RX11_67 rfl rfl rfl rfl rfl dX11_reaches_9 ?_
    refine a_aload_n (pc := 12) X 0 dX11_reaches_12 rfl rfl ?_
    refine a_getR (pc := 13) X 0 5 5 fl_RX11_19 rfl rfl rfl rfl rfl dX11_reaches_13 ?_
    refine a_iload_n (pc := 16) X 1 dX11_reaches_16 rfl rfl ?_
    obtain ⟨y2, e_y2, h⟩ := x_bo_elim h
    refine a_callV (pc := 17) (st2 := [.int y2.1]) (vs2 := [x_put v0 300 15 y2.2]) X [(0, 300, 15), (0, 5, 32)] [some y2.2, none] 0 300 2 [.ref (ad0 5), .int x0] [] cv_RX11_273 (c_X2_reachedBy (ad0 := (fun i => ad0 (i + 300))) (ad1 := (fun i => ad0 (i + 5)))  e_y2) rfl rfl rfl rfl rfl rfl rfl rfl rfl rfl rfl rfl rfl rfl rfl (Nat.le_of_ble_eq_true rfl) ⟨Nat.le_of_ble_eq_true rfl, Nat.le_of_ble_eq_true rfl⟩ dX11_reaches_17 (fun _ => ?_)
    obtain ⟨m3, e_m3, h⟩ := x_lt_elim h
    refine a_nm (vs2 := [m3]) (congrArg (fun q : XM => [q]) e_m3) ?_
    refine a_goto (pc := 20) X 24 dX11_reaches_20 rfl ?_
    have h := Option.some.inj h; subst h
    exact a_iret (pc := 24) X trivial dX11_reaches_24
theorem dX11_gather_0 : decode cX11_gather 0 = .ok (.aload_n 0, 1) := by decide +kernel
theorem dX11_gather_1 : decode cX11_gather 1 = .ok (.iload_n 1, 1) := by decide +kernel
theorem dX11_gather_2 : decode cX11_gather 2 = .ok (.invokevirtual 260, 3) := by decide +kernel
theorem dX11_gather_5 : decode cX11_gather 5 = .ok (.ifCond .eq 18, 3) := by decide +kernel
theorem dX11_gather_8 : decode cX11_gather 8 = .ok (.aload_n 0, 1) := by decide +kernel
theorem dX11_gather_9 : decode cX11_gather 9 = .ok (.getfield 67, 3) := by decide +kernel
theorem dX11_gather_12 : decode cX11_gather 12 = .ok (.aload_n 0, 1) := by decide +kernel
theorem dX11_gather_13 : decode cX11_gather 13 = .ok (.getfield 19, 3) := by decide +kernel
theorem dX11_gather_16 : decode cX11_gather 16 = .ok (.iload_n 1, 1) := by decide +kernel
theorem dX11_gather_17 : decode cX11_gather 17 = .ok (.invokevirtual 277, 3) := by decide +kernel
theorem dX11_gather_20 : decode cX11_gather 20 = .ok (.goto 4, 3) := by decide +kernel
theorem dX11_gather_23 : decode cX11_gather 23 = .ok (.iconst (-1), 1) := by decide +kernel
theorem dX11_gather_24 : decode cX11_gather 24 = .ok (.ireturn, 1) := by decide +kernel
def f_X11_gather (v0 : XM) (x0 : Int32) : Option (Int32 × XM) :=
  x_lt (f_X11_canSetOut v0 x0) (fun y1 =>
  if y1 = (0 : Int32) then
  (some ((-1 : Int32), v0))
  else (x_bo (f_X2_findOrder (x_sub v0 300) (x_sub v0 5) x0) (fun y2 =>
  x_lt (x_put v0 300 15 y2.2) (fun m3 =>
  some (y2.1, m3)))))
set_option maxRecDepth 100000 in
set_option maxHeartbeats 4000000 in
theorem c_X11_gather {l : Launch}  {ad0 : Nat → Nat} {v0 : XM} {x0 : Int32}  {o : Int32 × XM} (h : f_X11_gather v0 x0 = some o) : CT l yX11_gather cX11_gather 2 (some .int) 7 [(shFoldRoads, ad0)] [v0] (fun aK => [.ref (ad0 0), .int x0]) (some (.int o.1)) True [o.2] := by
  refine CT_of (by decide) (fun _ => Nat.le_of_ble_eq_true rfl) ?_
  intro p e s m args below meth c D tc aK aV A X
  have X : Cx p s m args meth c cX11_gather 2 (some .int) RX11 D tc aK aV A [(shFoldRoads, ad0)] := X
  show aW p l e (x_Rm 7) s m args below meth c D tc A 2 [(shFoldRoads, ad0)] (some (.int o.1)) True [o.2] 0 [(0, .ref (ad0 0)), (1, .int x0)] [] [v0]
  unfold f_X11_gather at h
  refine a_aload_n (pc := 0) X 0 dX11_gather_0 rfl rfl ?_
  refine a_iload_n (pc := 1) X 1 dX11_gather_1 rfl rfl ?_
  obtain ⟨y1, e_y1, h⟩ := x_lt_elim h
  refine a_callV (pc := 2) (st2 := [.int y1]) (vs2 := [v0]) X [(0, 0, 318)] [none] 0 0 11 [.int x0] [] cv_RX11_260 (c_X11_canSetOut (ad0 := ad0)  e_y1) rfl rfl rfl rfl rfl rfl rfl rfl rfl rfl rfl rfl rfl rfl rfl (Nat.le_of_ble_eq_true rfl) ⟨Nat.le_of_ble_eq_true rfl, Nat.le_of_ble_eq_true rfl⟩ dX11_gather_2 (fun z_2 => ?_)
  refine a_if_eq (pc := 5) X 23 dX11_gather_5 rfl (fun c_5 => ?_) (fun c_5 => ?_)
  · have h := x_ifp c_5 h
    refine a_iconst (pc := 23) X dX11_gather_23 q_ic_m1 ?_
    have h := Option.some.inj h; subst h
    exact a_iret (pc := 24) X trivial dX11_gather_24
  · have h := x_ifn c_5 h
    refine a_aload_n (pc := 8) X 0 dX11_gather_8 rfl rfl ?_
    refine a_getR (pc := 9) X 0 300 300 fl_RX11_67 rfl rfl rfl rfl rfl dX11_gather_9 ?_
    refine a_aload_n (pc := 12) X 0 dX11_gather_12 rfl rfl ?_
    refine a_getR (pc := 13) X 0 5 5 fl_RX11_19 rfl rfl rfl rfl rfl dX11_gather_13 ?_
    refine a_iload_n (pc := 16) X 1 dX11_gather_16 rfl rfl ?_
    obtain ⟨y2, e_y2, h⟩ := x_bo_elim h
    refine a_callV (pc := 17) (st2 := [.int y2.1]) (vs2 := [x_put v0 300 15 y2.2]) X [(0, 300, 15), (0, 5, 32)] [some y2.2, none] 0 300 2 [.ref (ad0 5), .int x0] [] cv_RX11_277 (c_X2_findOrder (ad0 := (fun i => ad0 (i + 300))) (ad1 := (fun i => ad0 (i + 5)))  e_y2) rfl rfl rfl rfl rfl rfl rfl rfl rfl rfl rfl rfl rfl rfl rfl (Nat.le_of_ble_eq_true rfl) ⟨Nat.le_of_ble_eq_true rfl, Nat.le_of_ble_eq_true rfl⟩ dX11_gather_17 (fun _ => ?_)
    obtain ⟨m3, e_m3, h⟩ := x_lt_elim h
    refine a_nm (vs2 := [m3]) (congrArg (fun q : XM => [q]) e_m3) ?_
    refine a_goto (pc := 20) X 24 dX11_gather_20 rfl ?_
    have h := Option.some.inj h; subst h
    exact a_iret (pc := 24) X trivial dX11_gather_24
theorem dX11_gatherAt_0 : decode cX11_gatherAt 0 = .ok (.iload_n 1, 1) := by decide +kernel
theorem dX11_gatherAt_1 : decode cX11_gatherAt 1 = .ok (.ifCond .lt 28, 3) := by decide +kernel
theorem dX11_gatherAt_4 : decode cX11_gatherAt 4 = .ok (.iload_n 1, 1) := by decide +kernel
theorem dX11_gatherAt_5 : decode cX11_gatherAt 5 = .ok (.aload_n 0, 1) := by decide +kernel
theorem dX11_gatherAt_6 : decode cX11_gatherAt 6 = .ok (.getfield 67, 3) := by decide +kernel
theorem dX11_gatherAt_9 : decode cX11_gatherAt 9 = .ok (.getfield 280, 3) := by decide +kernel
theorem dX11_gatherAt_12 : decode cX11_gatherAt 12 = .ok (.if_icmp .ge 17, 3) := by decide +kernel
theorem dX11_gatherAt_15 : decode cX11_gatherAt 15 = .ok (.aload_n 0, 1) := by decide +kernel
theorem dX11_gatherAt_16 : decode cX11_gatherAt 16 = .ok (.getfield 67, 3) := by decide +kernel
theorem dX11_gatherAt_19 : decode cX11_gatherAt 19 = .ok (.getfield 283, 3) := by decide +kernel
theorem dX11_gatherAt_22 : decode cX11_gatherAt 22 = .ok (.iload_n 1, 1) := by decide +kernel
theorem dX11_gatherAt_23 : decode cX11_gatherAt 23 = .ok (.invokevirtual 125, 3) := by decide +kernel
theorem dX11_gatherAt_26 : decode cX11_gatherAt 26 = .ok (.goto 4, 3) := by decide +kernel
theorem dX11_gatherAt_29 : decode cX11_gatherAt 29 = .ok (.iconst (-1), 1) := by decide +kernel
theorem dX11_gatherAt_30 : decode cX11_gatherAt 30 = .ok (.ireturn, 1) := by decide +kernel
def f_X11_gatherAt (v0 : XM) (x0 : Int32) : Int32 :=
  if x0 < (0 : Int32) then
  (((-1 : Int32) : Int32))
  else (if ((v0.1 300 8) : Int32) ≤ x0 then
  (((-1 : Int32) : Int32))
  else (x_lt (r_get 6 (x_sub v0 313) x0) (fun y1 =>
  (y1 : Int32))))
set_option maxRecDepth 100000 in
set_option maxHeartbeats 4000000 in
theorem c_X11_gatherAt {l : Launch}  {ad0 : Nat → Nat} {v0 : XM} {x0 : Int32}  {o : Int32} (h : f_X11_gatherAt v0 x0 = o) : CT l yX11_gatherAt cX11_gatherAt 2 (some .int) 1 [(shFoldRoads, ad0)] [v0] (fun aK => [.ref (ad0 0), .int x0]) (some (.int o)) True [v0] := by
  refine CT_of (by decide) (fun _ => Nat.le_of_ble_eq_true rfl) ?_
  intro p e s m args below meth c D tc aK aV A X
  have X : Cx p s m args meth c cX11_gatherAt 2 (some .int) RX11 D tc aK aV A [(shFoldRoads, ad0)] := X
  show aW p l e (x_Rm 1) s m args below meth c D tc A 2 [(shFoldRoads, ad0)] (some (.int o)) True [v0] 0 [(0, .ref (ad0 0)), (1, .int x0)] [] [v0]
  unfold f_X11_gatherAt at h
  refine a_iload_n (pc := 0) X 1 dX11_gatherAt_0 rfl rfl ?_
  refine a_if_lt (pc := 1) X 29 dX11_gatherAt_1 rfl (fun c_1 => ?_) (fun c_1 => ?_)
  · have h := x_ifp c_1 h
    refine a_iconst (pc := 29) X dX11_gatherAt_29 q_ic_m1 ?_
    subst h
    exact a_iret (pc := 30) X trivial dX11_gatherAt_30
  · have h := x_ifn c_1 h
    refine a_iload_n (pc := 4) X 1 dX11_gatherAt_4 rfl rfl ?_
    refine a_aload_n (pc := 5) X 0 dX11_gatherAt_5 rfl rfl ?_
    refine a_getR (pc := 6) X 0 300 300 fl_RX11_67 rfl rfl rfl rfl rfl dX11_gatherAt_6 ?_
    refine a_getI (pc := 9) X 0 fl_RX11_280 rfl rfl rfl rfl dX11_gatherAt_9 ?_
    refine a_icmp_ge (pc := 12) X 29 dX11_gatherAt_12 rfl (fun c_12 => ?_) (fun c_12 => ?_)
    · have h := x_ifp c_12 h
      refine a_iconst (pc := 29) X dX11_gatherAt_29 q_ic_m1 ?_
      subst h
      exact a_iret (pc := 30) X trivial dX11_gatherAt_30
    · have h := x_ifn c_12 h
      refine a_aload_n (pc := 15) X 0 dX11_gatherAt_15 rfl rfl ?_
      refine a_getR (pc := 16) X 0 300 300 fl_RX11_67 rfl rfl rfl rfl rfl dX11_gatherAt_16 ?_
      refine a_getR (pc := 19) X 0 13 313 fl_RX11_283 rfl rfl rfl rfl rfl dX11_gatherAt_19 ?_
      refine a_iload_n (pc := 22) X 1 dX11_gatherAt_22 rfl rfl ?_
      obtain ⟨y1, e_y1, h⟩ := x_lt_elim h
      refine a_callV (pc := 23) (st2 := [.int y1]) (vs2 := [v0]) X [(0, 313, 2)] [none] 0 313 3 [.int x0] [] cv_RX11_125 (ct_get (ad0 := (fun i => ad0 (i + 313))) (by decide) e_y1) rfl rfl rfl rfl rfl rfl rfl rfl rfl rfl rfl rfl rfl rfl rfl (Nat.le_of_ble_eq_true rfl) ⟨Nat.le_of_ble_eq_true rfl, Nat.le_of_ble_eq_true rfl⟩ dX11_gatherAt_23 (fun _ => ?_)
      refine a_goto (pc := 26) X 30 dX11_gatherAt_26 rfl ?_
      subst h
      exact a_iret (pc := 30) X trivial dX11_gatherAt_30
theorem dX11_meet_0 : decode cX11_meet 0 = .ok (.aload_n 0, 1) := by decide +kernel
theorem dX11_meet_1 : decode cX11_meet 1 = .ok (.iload_n 1, 1) := by decide +kernel
theorem dX11_meet_2 : decode cX11_meet 2 = .ok (.invokevirtual 260, 3) := by decide +kernel
theorem dX11_meet_5 : decode cX11_meet 5 = .ok (.ifCond .eq 27, 3) := by decide +kernel
theorem dX11_meet_8 : decode cX11_meet 8 = .ok (.aload_n 0, 1) := by decide +kernel
theorem dX11_meet_9 : decode cX11_meet 9 = .ok (.iload_n 2, 1) := by decide +kernel
theorem dX11_meet_10 : decode cX11_meet 10 = .ok (.invokevirtual 260, 3) := by decide +kernel
theorem dX11_meet_13 : decode cX11_meet 13 = .ok (.ifCond .eq 19, 3) := by decide +kernel
theorem dX11_meet_16 : decode cX11_meet 16 = .ok (.aload_n 0, 1) := by decide +kernel
theorem dX11_meet_17 : decode cX11_meet 17 = .ok (.getfield 67, 3) := by decide +kernel
theorem dX11_meet_20 : decode cX11_meet 20 = .ok (.aload_n 0, 1) := by decide +kernel
theorem dX11_meet_21 : decode cX11_meet 21 = .ok (.getfield 19, 3) := by decide +kernel
theorem dX11_meet_24 : decode cX11_meet 24 = .ok (.iload_n 1, 1) := by decide +kernel
theorem dX11_meet_25 : decode cX11_meet 25 = .ok (.iload_n 2, 1) := by decide +kernel
theorem dX11_meet_26 : decode cX11_meet 26 = .ok (.invokevirtual 286, 3) := by decide +kernel
theorem dX11_meet_29 : decode cX11_meet 29 = .ok (.goto 4, 3) := by decide +kernel
theorem dX11_meet_32 : decode cX11_meet 32 = .ok (.iconst (-1), 1) := by decide +kernel
theorem dX11_meet_33 : decode cX11_meet 33 = .ok (.ireturn, 1) := by decide +kernel
def f_X11_meet (v0 : XM) (x0 : Int32) (x1 : Int32) : Option (Int32 × XM) :=
  x_lt (f_X11_canSetOut v0 x0) (fun y1 =>
  if y1 = (0 : Int32) then
  (some ((-1 : Int32), v0))
  else (x_lt (f_X11_canSetOut v0 x1) (fun y2 =>
  if y2 = (0 : Int32) then
  (some ((-1 : Int32), v0))
  else (x_bo (f_X2_findMeeting (x_sub v0 300) (x_sub v0 5) x0 x1) (fun y3 =>
  x_lt (x_put v0 300 15 y3.2) (fun m4 =>
  some (y3.1, m4)))))))
set_option maxRecDepth 100000 in
set_option maxHeartbeats 4000000 in
theorem c_X11_meet {l : Launch}  {ad0 : Nat → Nat} {v0 : XM} {x0 : Int32} {x1 : Int32}  {o : Int32 × XM} (h : f_X11_meet v0 x0 x1 = some o) : CT l yX11_meet cX11_meet 3 (some .int) 6 [(shFoldRoads, ad0)] [v0] (fun aK => [.ref (ad0 0), .int x0, .int x1]) (some (.int o.1)) True [o.2] := by
  refine CT_of (by decide) (fun _ => Nat.le_of_ble_eq_true rfl) ?_
  intro p e s m args below meth c D tc aK aV A X
  have X : Cx p s m args meth c cX11_meet 3 (some .int) RX11 D tc aK aV A [(shFoldRoads, ad0)] := X
  show aW p l e (x_Rm 6) s m args below meth c D tc A 3 [(shFoldRoads, ad0)] (some (.int o.1)) True [o.2] 0 [(0, .ref (ad0 0)), (1, .int x0), (2, .int x1)] [] [v0]
  unfold f_X11_meet at h
  refine a_aload_n (pc := 0) X 0 dX11_meet_0 rfl rfl ?_
  refine a_iload_n (pc := 1) X 1 dX11_meet_1 rfl rfl ?_
  obtain ⟨y1, e_y1, h⟩ := x_lt_elim h
  refine a_callV (pc := 2) (st2 := [.int y1]) (vs2 := [v0]) X [(0, 0, 318)] [none] 0 0 11 [.int x0] [] cv_RX11_260 (c_X11_canSetOut (ad0 := ad0)  e_y1) rfl rfl rfl rfl rfl rfl rfl rfl rfl rfl rfl rfl rfl rfl rfl (Nat.le_of_ble_eq_true rfl) ⟨Nat.le_of_ble_eq_true rfl, Nat.le_of_ble_eq_true rfl⟩ dX11_meet_2 (fun z_2 => ?_)
  refine a_if_eq (pc := 5) X 32 dX11_meet_5 rfl (fun c_5 => ?_) (fun c_5 => ?_)
  · have h := x_ifp c_5 h
    refine a_iconst (pc := 32) X dX11_meet_32 q_ic_m1 ?_
    have h := Option.some.inj h; subst h
    exact a_iret (pc := 33) X trivial dX11_meet_33
  · have h := x_ifn c_5 h
    refine a_aload_n (pc := 8) X 0 dX11_meet_8 rfl rfl ?_
    refine a_iload_n (pc := 9) X 2 dX11_meet_9 rfl rfl ?_
    obtain ⟨y2, e_y2, h⟩ := x_lt_elim h
    refine a_callV (pc := 10) (st2 := [.int y2]) (vs2 := [v0]) X [(0, 0, 318)] [none] 0 0 11 [.int x1] [] cv_RX11_260 (c_X11_canSetOut (ad0 := ad0)  e_y2) rfl rfl rfl rfl rfl rfl rfl rfl rfl rfl rfl rfl rfl rfl rfl (Nat.le_of_ble_eq_true rfl) ⟨Nat.le_of_ble_eq_true rfl, Nat.le_of_ble_eq_true rfl⟩ dX11_meet_10 (fun z_10 => ?_)
    refine a_if_eq (pc := 13) X 32 dX11_meet_13 rfl (fun c_13 => ?_) (fun c_13 => ?_)
    · have h := x_ifp c_13 h
      refine a_iconst (pc := 32) X dX11_meet_32 q_ic_m1 ?_
      have h := Option.some.inj h; subst h
      exact a_iret (pc := 33) X trivial dX11_meet_33
    · have h := x_ifn c_13 h
      refine a_aload_n (pc := 16) X 0 dX11_meet_16 rfl rfl ?_
      refine a_getR (pc := 17) X 0 300 300 fl_RX11_67 rfl rfl rfl rfl rfl dX11_meet_17 ?_
      refine a_aload_n (pc := 20) X 0 dX11_meet_20 rfl rfl ?_
      refine a_getR (pc := 21) X 0 5 5 fl_RX11_19 rfl rfl rfl rfl rfl dX11_meet_21 ?_
      refine a_iload_n (pc := 24) X 1 dX11_meet_24 rfl rfl ?_
      refine a_iload_n (pc := 25) X 2 dX11_meet_25 rfl rfl ?_
      obtain ⟨y3, e_y3, h⟩ := x_bo_elim h
      refine a_callV (pc := 26) (st2 := [.int y3.1]) (vs2 := [x_put v0 300 15 y3.2]) X [(0, 300, 15), (0, 5, 32)] [some y3.2, none] 0 300 2 [.ref (ad0 5), .int x0, .int x1] [] cv_RX11_286 (c_X2_findMeeting (ad0 := (fun i => ad0 (i + 300))) (ad1 := (fun i => ad0 (i + 5)))  e_y3) rfl rfl rfl rfl rfl rfl rfl rfl rfl rfl rfl rfl rfl rfl rfl (Nat.le_of_ble_eq_true rfl) ⟨Nat.le_of_ble_eq_true rfl, Nat.le_of_ble_eq_true rfl⟩ dX11_meet_26 (fun _ => ?_)
      obtain ⟨m4, e_m4, h⟩ := x_lt_elim h
      refine a_nm (vs2 := [m4]) (congrArg (fun q : XM => [q]) e_m4) ?_
      refine a_goto (pc := 29) X 33 dX11_meet_29 rfl ?_
      have h := Option.some.inj h; subst h
      exact a_iret (pc := 33) X trivial dX11_meet_33
theorem dX11_meetAt_0 : decode cX11_meetAt 0 = .ok (.aload_n 0, 1) := by decide +kernel
theorem dX11_meetAt_1 : decode cX11_meetAt 1 = .ok (.getfield 67, 3) := by decide +kernel
theorem dX11_meetAt_4 : decode cX11_meetAt 4 = .ok (.getfield 289, 3) := by decide +kernel
theorem dX11_meetAt_7 : decode cX11_meetAt 7 = .ok (.ireturn, 1) := by decide +kernel
def f_X11_meetAt (v0 : XM) : Int32 :=
  (v0.1 300 9 : Int32)
set_option maxRecDepth 100000 in
set_option maxHeartbeats 4000000 in
theorem c_X11_meetAt {l : Launch}  {ad0 : Nat → Nat} {v0 : XM}   {o : Int32} (h : f_X11_meetAt v0 = o) : CT l yX11_meetAt cX11_meetAt 1 (some .int) 0 [(shFoldRoads, ad0)] [v0] (fun aK => [.ref (ad0 0)]) (some (.int o)) True [v0] := by
  refine CT_of (by decide) (fun _ => Nat.le_of_ble_eq_true rfl) ?_
  intro p e s m args below meth c D tc aK aV A X
  have X : Cx p s m args meth c cX11_meetAt 1 (some .int) RX11 D tc aK aV A [(shFoldRoads, ad0)] := X
  show aW p l e (x_Rm 0) s m args below meth c D tc A 1 [(shFoldRoads, ad0)] (some (.int o)) True [v0] 0 [(0, .ref (ad0 0))] [] [v0]
  unfold f_X11_meetAt at h
  refine a_aload_n (pc := 0) X 0 dX11_meetAt_0 rfl rfl ?_
  refine a_getR (pc := 1) X 0 300 300 fl_RX11_67 rfl rfl rfl rfl rfl dX11_meetAt_1 ?_
  refine a_getI (pc := 4) X 0 fl_RX11_289 rfl rfl rfl rfl dX11_meetAt_4 ?_
  subst h
  exact a_iret (pc := 7) X trivial dX11_meetAt_7
theorem dX11_inns_0 : decode cX11_inns 0 = .ok (.iload_n 1, 1) := by decide +kernel
theorem dX11_inns_1 : decode cX11_inns 1 = .ok (.ifCond .lt 24, 3) := by decide +kernel
theorem dX11_inns_4 : decode cX11_inns 4 = .ok (.iload_n 1, 1) := by decide +kernel
theorem dX11_inns_5 : decode cX11_inns 5 = .ok (.bipush 99, 2) := by decide +kernel
theorem dX11_inns_7 : decode cX11_inns 7 = .ok (.if_icmp .gt 18, 3) := by decide +kernel
theorem dX11_inns_10 : decode cX11_inns 10 = .ok (.aload_n 0, 1) := by decide +kernel
theorem dX11_inns_11 : decode cX11_inns 11 = .ok (.getfield 67, 3) := by decide +kernel
theorem dX11_inns_14 : decode cX11_inns 14 = .ok (.aload_n 0, 1) := by decide +kernel
theorem dX11_inns_15 : decode cX11_inns 15 = .ok (.getfield 19, 3) := by decide +kernel
theorem dX11_inns_18 : decode cX11_inns 18 = .ok (.iload_n 1, 1) := by decide +kernel
theorem dX11_inns_19 : decode cX11_inns 19 = .ok (.invokevirtual 295, 3) := by decide +kernel
theorem dX11_inns_22 : decode cX11_inns 22 = .ok (.goto 4, 3) := by decide +kernel
theorem dX11_inns_25 : decode cX11_inns 25 = .ok (.iconst (-1), 1) := by decide +kernel
theorem dX11_inns_26 : decode cX11_inns 26 = .ok (.ireturn, 1) := by decide +kernel
def f_X11_inns (v0 : XM) (x0 : Int32) : Option (Int32 × XM) :=
  if x0 < (0 : Int32) then
  (some ((-1 : Int32), v0))
  else (if ((99 : Int32) : Int32) < x0 then
  (some ((-1 : Int32), v0))
  else (x_bo (f_X2_findInns (x_sub v0 300) (x_sub v0 5) x0) (fun y1 =>
  x_lt (x_put v0 300 15 y1.2) (fun m2 =>
  some (y1.1, m2)))))
set_option maxRecDepth 100000 in
set_option maxHeartbeats 4000000 in
theorem c_X11_inns {l : Launch}  {ad0 : Nat → Nat} {v0 : XM} {x0 : Int32}  {o : Int32 × XM} (h : f_X11_inns v0 x0 = some o) : CT l yX11_inns cX11_inns 2 (some .int) 7 [(shFoldRoads, ad0)] [v0] (fun aK => [.ref (ad0 0), .int x0]) (some (.int o.1)) True [o.2] := by
  refine CT_of (by decide) (fun _ => Nat.le_of_ble_eq_true rfl) ?_
  intro p e s m args below meth c D tc aK aV A X
  have X : Cx p s m args meth c cX11_inns 2 (some .int) RX11 D tc aK aV A [(shFoldRoads, ad0)] := X
  show aW p l e (x_Rm 7) s m args below meth c D tc A 2 [(shFoldRoads, ad0)] (some (.int o.1)) True [o.2] 0 [(0, .ref (ad0 0)), (1, .int x0)] [] [v0]
  unfold f_X11_inns at h
  refine a_iload_n (pc := 0) X 1 dX11_inns_0 rfl rfl ?_
  refine a_if_lt (pc := 1) X 25 dX11_inns_1 rfl (fun c_1 => ?_) (fun c_1 => ?_)
  · have h := x_ifp c_1 h
    refine a_iconst (pc := 25) X dX11_inns_25 q_ic_m1 ?_
    have h := Option.some.inj h; subst h
    exact a_iret (pc := 26) X trivial dX11_inns_26
  · have h := x_ifn c_1 h
    refine a_iload_n (pc := 4) X 1 dX11_inns_4 rfl rfl ?_
    refine a_bipush (pc := 5) X dX11_inns_5 q_bp_99 ?_
    refine a_icmp_gt (pc := 7) X 25 dX11_inns_7 rfl (fun c_7 => ?_) (fun c_7 => ?_)
    · have h := x_ifp c_7 h
      refine a_iconst (pc := 25) X dX11_inns_25 q_ic_m1 ?_
      have h := Option.some.inj h; subst h
      exact a_iret (pc := 26) X trivial dX11_inns_26
    · have h := x_ifn c_7 h
      refine a_aload_n (pc := 10) X 0 dX11_inns_10 rfl rfl ?_
      refine a_getR (pc := 11) X 0 300 300 fl_RX11_67 rfl rfl rfl rfl rfl dX11_inns_11 ?_
      refine a_aload_n (pc := 14) X 0 dX11_inns_14 rfl rfl ?_
      refine a_getR (pc := 15) X 0 5 5 fl_RX11_19 rfl rfl rfl rfl rfl dX11_inns_15 ?_
      refine a_iload_n (pc := 18) X 1 dX11_inns_18 rfl rfl ?_
      obtain ⟨y1, e_y1, h⟩ := x_bo_elim h
      refine a_callV (pc := 19) (st2 := [.int y1.1]) (vs2 := [x_put v0 300 15 y1.2]) X [(0, 300, 15), (0, 5, 32)] [some y1.2, none] 0 300 2 [.ref (ad0 5), .int x0] [] cv_RX11_295 (c_X2_findInns (ad0 := (fun i => ad0 (i + 300))) (ad1 := (fun i => ad0 (i + 5)))  e_y1) rfl rfl rfl rfl rfl rfl rfl rfl rfl rfl rfl rfl rfl rfl rfl (Nat.le_of_ble_eq_true rfl) ⟨Nat.le_of_ble_eq_true rfl, Nat.le_of_ble_eq_true rfl⟩ dX11_inns_19 (fun _ => ?_)
      obtain ⟨m2, e_m2, h⟩ := x_lt_elim h
      refine a_nm (vs2 := [m2]) (congrArg (fun q : XM => [q]) e_m2) ?_
      refine a_goto (pc := 22) X 26 dX11_inns_22 rfl ?_
      have h := Option.some.inj h; subst h
      exact a_iret (pc := 26) X trivial dX11_inns_26
theorem dX11_innsAt_0 : decode cX11_innsAt 0 = .ok (.aload_n 0, 1) := by decide +kernel
theorem dX11_innsAt_1 : decode cX11_innsAt 1 = .ok (.getfield 67, 3) := by decide +kernel
theorem dX11_innsAt_4 : decode cX11_innsAt 4 = .ok (.getfield 298, 3) := by decide +kernel
theorem dX11_innsAt_7 : decode cX11_innsAt 7 = .ok (.ireturn, 1) := by decide +kernel
def f_X11_innsAt (v0 : XM) : Int32 :=
  (v0.1 300 10 : Int32)
set_option maxRecDepth 100000 in
set_option maxHeartbeats 4000000 in
theorem c_X11_innsAt {l : Launch}  {ad0 : Nat → Nat} {v0 : XM}   {o : Int32} (h : f_X11_innsAt v0 = o) : CT l yX11_innsAt cX11_innsAt 1 (some .int) 0 [(shFoldRoads, ad0)] [v0] (fun aK => [.ref (ad0 0)]) (some (.int o)) True [v0] := by
  refine CT_of (by decide) (fun _ => Nat.le_of_ble_eq_true rfl) ?_
  intro p e s m args below meth c D tc aK aV A X
  have X : Cx p s m args meth c cX11_innsAt 1 (some .int) RX11 D tc aK aV A [(shFoldRoads, ad0)] := X
  show aW p l e (x_Rm 0) s m args below meth c D tc A 1 [(shFoldRoads, ad0)] (some (.int o)) True [v0] 0 [(0, .ref (ad0 0))] [] [v0]
  unfold f_X11_innsAt at h
  refine a_aload_n (pc := 0) X 0 dX11_innsAt_0 rfl rfl ?_
  refine a_getR (pc := 1) X 0 300 300 fl_RX11_67 rfl rfl rfl rfl rfl dX11_innsAt_1 ?_
  refine a_getI (pc := 4) X 0 fl_RX11_298 rfl rfl rfl rfl dX11_innsAt_4 ?_
  subst h
  exact a_iret (pc := 7) X trivial dX11_innsAt_7
theorem dX11_came_0 : decode cX11_came 0 = .ok (.aload_n 0, 1) := by decide +kernel
theorem dX11_came_1 : decode cX11_came 1 = .ok (.getfield 67, 3) := by decide +kernel
theorem dX11_came_4 : decode cX11_came 4 = .ok (.aload_n 0, 1) := by decide +kernel
theorem dX11_came_5 : decode cX11_came 5 = .ok (.getfield 19, 3) := by decide +kernel
theorem dX11_came_8 : decode cX11_came 8 = .ok (.aload_n 0, 1) := by decide +kernel
theorem dX11_came_9 : decode cX11_came 9 = .ok (.getfield 12, 3) := by decide +kernel
theorem dX11_came_12 : decode cX11_came 12 = .ok (.invokevirtual 301, 3) := by decide +kernel
theorem dX11_came_15 : decode cX11_came 15 = .ok (.istore_n 1, 1) := by decide +kernel
theorem dX11_came_16 : decode cX11_came 16 = .ok (.aload_n 0, 1) := by decide +kernel
theorem dX11_came_17 : decode cX11_came 17 = .ok (.getfield 12, 3) := by decide +kernel
theorem dX11_came_20 : decode cX11_came 20 = .ok (.iconst 0, 1) := by decide +kernel
theorem dX11_came_21 : decode cX11_came 21 = .ok (.putfield 78, 3) := by decide +kernel
theorem dX11_came_24 : decode cX11_came 24 = .ok (.iload_n 1, 1) := by decide +kernel
theorem dX11_came_25 : decode cX11_came 25 = .ok (.ireturn, 1) := by decide +kernel
def f_X11_came (v0 : XM) : Option (Int32 × XM) :=
  x_bo (f_X2_findOrigins (x_sub v0 300) (x_sub v0 5) (x_sub v0 1)) (fun y1 =>
  x_lt (x_put v0 300 15 y1.2) (fun m2 =>
  x_lt (x_si m2 1 2 (0 : Int32)) (fun m3 =>
  some (y1.1, m3))))
set_option maxRecDepth 100000 in
set_option maxHeartbeats 4000000 in
theorem c_X11_came {l : Launch}  {ad0 : Nat → Nat} {v0 : XM}   {o : Int32 × XM} (h : f_X11_came v0 = some o) : CT l yX11_came cX11_came 2 (some .int) 7 [(shFoldRoads, ad0)] [v0] (fun aK => [.ref (ad0 0)]) (some (.int o.1)) True [o.2] := by
  refine CT_of (by decide) (fun _ => Nat.le_of_ble_eq_true rfl) ?_
  intro p e s m args below meth c D tc aK aV A X
  have X : Cx p s m args meth c cX11_came 2 (some .int) RX11 D tc aK aV A [(shFoldRoads, ad0)] := X
  show aW p l e (x_Rm 7) s m args below meth c D tc A 2 [(shFoldRoads, ad0)] (some (.int o.1)) True [o.2] 0 [(0, .ref (ad0 0))] [] [v0]
  unfold f_X11_came at h
  refine a_aload_n (pc := 0) X 0 dX11_came_0 rfl rfl ?_
  refine a_getR (pc := 1) X 0 300 300 fl_RX11_67 rfl rfl rfl rfl rfl dX11_came_1 ?_
  refine a_aload_n (pc := 4) X 0 dX11_came_4 rfl rfl ?_
  refine a_getR (pc := 5) X 0 5 5 fl_RX11_19 rfl rfl rfl rfl rfl dX11_came_5 ?_
  refine a_aload_n (pc := 8) X 0 dX11_came_8 rfl rfl ?_
  refine a_getR (pc := 9) X 0 1 1 fl_RX11_12 rfl rfl rfl rfl rfl dX11_came_9 ?_
  obtain ⟨y1, e_y1, h⟩ := x_bo_elim h
  refine a_callV (pc := 12) (st2 := [.int y1.1]) (vs2 := [x_put v0 300 15 y1.2]) X [(0, 300, 15), (0, 5, 32), (0, 1, 4)] [some y1.2, none, none] 0 300 2 [.ref (ad0 5), .ref (ad0 1)] [] cv_RX11_301 (c_X2_findOrigins (ad0 := (fun i => ad0 (i + 300))) (ad1 := (fun i => ad0 (i + 5))) (ad2 := (fun i => ad0 (i + 1)))  e_y1) rfl rfl rfl rfl rfl rfl rfl rfl rfl rfl rfl rfl rfl rfl rfl (Nat.le_of_ble_eq_true rfl) ⟨Nat.le_of_ble_eq_true rfl, Nat.le_of_ble_eq_true rfl⟩ dX11_came_12 (fun _ => ?_)
  obtain ⟨m2, e_m2, h⟩ := x_lt_elim h
  refine a_nm (vs2 := [m2]) (congrArg (fun q : XM => [q]) e_m2) ?_
  refine a_istore_n (pc := 15) X [(1, .int y1.1), (0, .ref (ad0 0))] dX11_came_15 rfl (by decide) rfl ?_
  refine a_aload_n (pc := 16) X 1 dX11_came_16 rfl rfl ?_
  refine a_getR (pc := 17) X 0 1 1 fl_RX11_12 rfl rfl rfl rfl rfl dX11_came_17 ?_
  refine a_iconst (pc := 20) X dX11_came_20 q_ic_0 ?_
  refine a_putI (pc := 21) X 0 fl_RX11_78 rfl rfl rfl rfl dX11_came_21 ?_
  obtain ⟨m3, e_m3, h⟩ := x_lt_elim h
  refine a_nm (vs2 := [m3]) (congrArg (fun q : XM => [q]) e_m3) ?_
  refine a_iload_n (pc := 24) X 0 dX11_came_24 rfl rfl ?_
  have h := Option.some.inj h; subst h
  exact a_iret (pc := 25) X trivial dX11_came_25
theorem dX11_ask_0 : decode cX11_ask 0 = .ok (.aload_n 0, 1) := by decide +kernel
theorem dX11_ask_1 : decode cX11_ask 1 = .ok (.getfield 67, 3) := by decide +kernel
theorem dX11_ask_4 : decode cX11_ask 4 = .ok (.getfield 305, 3) := by decide +kernel
theorem dX11_ask_7 : decode cX11_ask 7 = .ok (.ireturn, 1) := by decide +kernel
def f_X11_ask (v0 : XM) : Int32 :=
  (v0.1 300 11 : Int32)
set_option maxRecDepth 100000 in
set_option maxHeartbeats 4000000 in
theorem c_X11_ask {l : Launch}  {ad0 : Nat → Nat} {v0 : XM}   {o : Int32} (h : f_X11_ask v0 = o) : CT l yX11_ask cX11_ask 1 (some .int) 0 [(shFoldRoads, ad0)] [v0] (fun aK => [.ref (ad0 0)]) (some (.int o)) True [v0] := by
  refine CT_of (by decide) (fun _ => Nat.le_of_ble_eq_true rfl) ?_
  intro p e s m args below meth c D tc aK aV A X
  have X : Cx p s m args meth c cX11_ask 1 (some .int) RX11 D tc aK aV A [(shFoldRoads, ad0)] := X
  show aW p l e (x_Rm 0) s m args below meth c D tc A 1 [(shFoldRoads, ad0)] (some (.int o)) True [v0] 0 [(0, .ref (ad0 0))] [] [v0]
  unfold f_X11_ask at h
  refine a_aload_n (pc := 0) X 0 dX11_ask_0 rfl rfl ?_
  refine a_getR (pc := 1) X 0 300 300 fl_RX11_67 rfl rfl rfl rfl rfl dX11_ask_1 ?_
  refine a_getI (pc := 4) X 0 fl_RX11_305 rfl rfl rfl rfl dX11_ask_4 ?_
  subst h
  exact a_iret (pc := 7) X trivial dX11_ask_7
theorem dX11_byteAt_0 : decode cX11_byteAt 0 = .ok (.iload_n 1, 1) := by decide +kernel
theorem dX11_byteAt_1 : decode cX11_byteAt 1 = .ok (.ifCond .lt 28, 3) := by decide +kernel
theorem dX11_byteAt_4 : decode cX11_byteAt 4 = .ok (.iload_n 1, 1) := by decide +kernel
theorem dX11_byteAt_5 : decode cX11_byteAt 5 = .ok (.aload_n 0, 1) := by decide +kernel
theorem dX11_byteAt_6 : decode cX11_byteAt 6 = .ok (.getfield 74, 3) := by decide +kernel
theorem dX11_byteAt_9 : decode cX11_byteAt 9 = .ok (.getfield 320, 3) := by decide +kernel
theorem dX11_byteAt_12 : decode cX11_byteAt 12 = .ok (.if_icmp .ge 17, 3) := by decide +kernel
theorem dX11_byteAt_15 : decode cX11_byteAt 15 = .ok (.aload_n 0, 1) := by decide +kernel
theorem dX11_byteAt_16 : decode cX11_byteAt 16 = .ok (.getfield 74, 3) := by decide +kernel
theorem dX11_byteAt_19 : decode cX11_byteAt 19 = .ok (.getfield 321, 3) := by decide +kernel
theorem dX11_byteAt_22 : decode cX11_byteAt 22 = .ok (.iload_n 1, 1) := by decide +kernel
theorem dX11_byteAt_23 : decode cX11_byteAt 23 = .ok (.invokevirtual 125, 3) := by decide +kernel
theorem dX11_byteAt_26 : decode cX11_byteAt 26 = .ok (.goto 4, 3) := by decide +kernel
theorem dX11_byteAt_29 : decode cX11_byteAt 29 = .ok (.iconst (-1), 1) := by decide +kernel
theorem dX11_byteAt_30 : decode cX11_byteAt 30 = .ok (.ireturn, 1) := by decide +kernel
def f_X11_byteAt (v0 : XM) (x0 : Int32) : Int32 :=
  if x0 < (0 : Int32) then
  (((-1 : Int32) : Int32))
  else (if ((v0.1 315 1) : Int32) ≤ x0 then
  (((-1 : Int32) : Int32))
  else (x_lt (r_get 32 (x_sub v0 316) x0) (fun y1 =>
  (y1 : Int32))))
set_option maxRecDepth 100000 in
set_option maxHeartbeats 4000000 in
theorem c_X11_byteAt {l : Launch}  {ad0 : Nat → Nat} {v0 : XM} {x0 : Int32}  {o : Int32} (h : f_X11_byteAt v0 x0 = o) : CT l yX11_byteAt cX11_byteAt 2 (some .int) 1 [(shFoldRoads, ad0)] [v0] (fun aK => [.ref (ad0 0), .int x0]) (some (.int o)) True [v0] := by
  refine CT_of (by decide) (fun _ => Nat.le_of_ble_eq_true rfl) ?_
  intro p e s m args below meth c D tc aK aV A X
  have X : Cx p s m args meth c cX11_byteAt 2 (some .int) RX11 D tc aK aV A [(shFoldRoads, ad0)] := X
  show aW p l e (x_Rm 1) s m args below meth c D tc A 2 [(shFoldRoads, ad0)] (some (.int o)) True [v0] 0 [(0, .ref (ad0 0)), (1, .int x0)] [] [v0]
  unfold f_X11_byteAt at h
  refine a_iload_n (pc := 0) X 1 dX11_byteAt_0 rfl rfl ?_
  refine a_if_lt (pc := 1) X 29 dX11_byteAt_1 rfl (fun c_1 => ?_) (fun c_1 => ?_)
  · have h := x_ifp c_1 h
    refine a_iconst (pc := 29) X dX11_byteAt_29 q_ic_m1 ?_
    subst h
    exact a_iret (pc := 30) X trivial dX11_byteAt_30
  · have h := x_ifn c_1 h
    refine a_iload_n (pc := 4) X 1 dX11_byteAt_4 rfl rfl ?_
    refine a_aload_n (pc := 5) X 0 dX11_byteAt_5 rfl rfl ?_
    refine a_getR (pc := 6) X 0 315 315 fl_RX11_74 rfl rfl rfl rfl rfl dX11_byteAt_6 ?_
    refine a_getI (pc := 9) X 0 fl_RX11_320 rfl rfl rfl rfl dX11_byteAt_9 ?_
    refine a_icmp_ge (pc := 12) X 29 dX11_byteAt_12 rfl (fun c_12 => ?_) (fun c_12 => ?_)
    · have h := x_ifp c_12 h
      refine a_iconst (pc := 29) X dX11_byteAt_29 q_ic_m1 ?_
      subst h
      exact a_iret (pc := 30) X trivial dX11_byteAt_30
    · have h := x_ifn c_12 h
      refine a_aload_n (pc := 15) X 0 dX11_byteAt_15 rfl rfl ?_
      refine a_getR (pc := 16) X 0 315 315 fl_RX11_74 rfl rfl rfl rfl rfl dX11_byteAt_16 ?_
      refine a_getR (pc := 19) X 0 1 316 fl_RX11_321 rfl rfl rfl rfl rfl dX11_byteAt_19 ?_
      refine a_iload_n (pc := 22) X 1 dX11_byteAt_22 rfl rfl ?_
      obtain ⟨y1, e_y1, h⟩ := x_lt_elim h
      refine a_callV (pc := 23) (st2 := [.int y1]) (vs2 := [v0]) X [(0, 316, 2)] [none] 0 316 3 [.int x0] [] cv_RX11_125 (ct_get (ad0 := (fun i => ad0 (i + 316))) (by decide) e_y1) rfl rfl rfl rfl rfl rfl rfl rfl rfl rfl rfl rfl rfl rfl rfl (Nat.le_of_ble_eq_true rfl) ⟨Nat.le_of_ble_eq_true rfl, Nat.le_of_ble_eq_true rfl⟩ dX11_byteAt_23 (fun _ => ?_)
      refine a_goto (pc := 26) X 30 dX11_byteAt_26 rfl ?_
      subst h
      exact a_iret (pc := 30) X trivial dX11_byteAt_30
theorem dX11_told_0 : decode cX11_told 0 = .ok (.aload_n 0, 1) := by decide +kernel
theorem dX11_told_1 : decode cX11_told 1 = .ok (.getfield 53, 3) := by decide +kernel
theorem dX11_told_4 : decode cX11_told 4 = .ok (.getfield 334, 3) := by decide +kernel
theorem dX11_told_7 : decode cX11_told 7 = .ok (.ifCond .ne 5, 3) := by decide +kernel
theorem dX11_told_10 : decode cX11_told 10 = .ok (.iconst (-1), 1) := by decide +kernel
theorem dX11_told_11 : decode cX11_told 11 = .ok (.ireturn, 1) := by decide +kernel
theorem dX11_told_12 : decode cX11_told 12 = .ok (.iload_n 1, 1) := by decide +kernel
theorem dX11_told_13 : decode cX11_told 13 = .ok (.tableswitch 63 0 3 #[31, 39, 47, 55], 31) := by decide +kernel
theorem dX11_told_44 : decode cX11_told 44 = .ok (.aload_n 0, 1) := by decide +kernel
theorem dX11_told_45 : decode cX11_told 45 = .ok (.getfield 53, 3) := by decide +kernel
theorem dX11_told_48 : decode cX11_told 48 = .ok (.getfield 338, 3) := by decide +kernel
theorem dX11_told_51 : decode cX11_told 51 = .ok (.ireturn, 1) := by decide +kernel
theorem dX11_told_52 : decode cX11_told 52 = .ok (.aload_n 0, 1) := by decide +kernel
theorem dX11_told_53 : decode cX11_told 53 = .ok (.getfield 53, 3) := by decide +kernel
theorem dX11_told_56 : decode cX11_told 56 = .ok (.getfield 331, 3) := by decide +kernel
theorem dX11_told_59 : decode cX11_told 59 = .ok (.ireturn, 1) := by decide +kernel
theorem dX11_told_60 : decode cX11_told 60 = .ok (.aload_n 0, 1) := by decide +kernel
theorem dX11_told_61 : decode cX11_told 61 = .ok (.getfield 53, 3) := by decide +kernel
theorem dX11_told_64 : decode cX11_told 64 = .ok (.getfield 341, 3) := by decide +kernel
theorem dX11_told_67 : decode cX11_told 67 = .ok (.ireturn, 1) := by decide +kernel
theorem dX11_told_68 : decode cX11_told 68 = .ok (.aload_n 0, 1) := by decide +kernel
theorem dX11_told_69 : decode cX11_told 69 = .ok (.getfield 53, 3) := by decide +kernel
theorem dX11_told_72 : decode cX11_told 72 = .ok (.getfield 344, 3) := by decide +kernel
theorem dX11_told_75 : decode cX11_told 75 = .ok (.ireturn, 1) := by decide +kernel
theorem dX11_told_76 : decode cX11_told 76 = .ok (.iconst (-1), 1) := by decide +kernel
theorem dX11_told_77 : decode cX11_told 77 = .ok (.ireturn, 1) := by decide +kernel
def f_X11_told (v0 : XM) (x0 : Int32) : Int32 :=
  if (v0.1 282 5) = (0 : Int32) then
  (((-1 : Int32) : Int32))
  else (if x0 = (0 : Int32) then
  ((v0.1 282 6 : Int32))
  else (if x0 = (1 : Int32) then
  ((v0.1 282 7 : Int32))
  else (if x0 = (2 : Int32) then
  ((v0.1 282 8 : Int32))
  else (if x0 = (3 : Int32) then
  ((v0.1 282 9 : Int32))
  else (((-1 : Int32) : Int32))))))
set_option maxRecDepth 100000 in
set_option maxHeartbeats 4000000 in
theorem c_X11_told {l : Launch}  {ad0 : Nat → Nat} {v0 : XM} {x0 : Int32}  {o : Int32} (h : f_X11_told v0 x0 = o) : CT l yX11_told cX11_told 2 (some .int) 0 [(shFoldRoads, ad0)] [v0] (fun aK => [.ref (ad0 0), .int x0]) (some (.int o)) True [v0] := by
  refine CT_of (by decide) (fun _ => Nat.le_of_ble_eq_true rfl) ?_
  intro p e s m args below meth c D tc aK aV A X
  have X : Cx p s m args meth c cX11_told 2 (some .int) RX11 D tc aK aV A [(shFoldRoads, ad0)] := X
  show aW p l e (x_Rm 0) s m args below meth c D tc A 2 [(shFoldRoads, ad0)] (some (.int o)) True [v0] 0 [(0, .ref (ad0 0)), (1, .int x0)] [] [v0]
  unfold f_X11_told at h
  refine a_aload_n (pc := 0) X 0 dX11_told_0 rfl rfl ?_
  refine a_getR (pc := 1) X 0 282 282 fl_RX11_53 rfl rfl rfl rfl rfl dX11_told_1 ?_
  refine a_getI (pc := 4) X 0 fl_RX11_334 rfl rfl rfl rfl dX11_told_4 ?_
  refine a_if_ne (pc := 7) X 12 dX11_told_7 rfl (fun c_7 => ?_) (fun c_7 => ?_)
  · have h := x_ifn c_7 h
    refine a_iload_n (pc := 12) X 1 dX11_told_12 rfl rfl ?_
    by_cases c_13_0 : x0 = (0 : Int32)
    · have h := x_ifp c_13_0 h
      refine a_tin (pc := 13) X 44 dX11_told_13 c_13_0 (by decide) (by decide) rfl rfl ?_
      refine a_aload_n (pc := 44) X 0 dX11_told_44 rfl rfl ?_
      refine a_getR (pc := 45) X 0 282 282 fl_RX11_53 rfl rfl rfl rfl rfl dX11_told_45 ?_
      refine a_getI (pc := 48) X 0 fl_RX11_338 rfl rfl rfl rfl dX11_told_48 ?_
      subst h
      exact a_iret (pc := 51) X trivial dX11_told_51
    · have h := x_ifn c_13_0 h
      by_cases c_13_1 : x0 = (1 : Int32)
      · have h := x_ifp c_13_1 h
        refine a_tin (pc := 13) X 52 dX11_told_13 c_13_1 (by decide) (by decide) rfl rfl ?_
        refine a_aload_n (pc := 52) X 0 dX11_told_52 rfl rfl ?_
        refine a_getR (pc := 53) X 0 282 282 fl_RX11_53 rfl rfl rfl rfl rfl dX11_told_53 ?_
        refine a_getI (pc := 56) X 0 fl_RX11_331 rfl rfl rfl rfl dX11_told_56 ?_
        subst h
        exact a_iret (pc := 59) X trivial dX11_told_59
      · have h := x_ifn c_13_1 h
        by_cases c_13_2 : x0 = (2 : Int32)
        · have h := x_ifp c_13_2 h
          refine a_tin (pc := 13) X 60 dX11_told_13 c_13_2 (by decide) (by decide) rfl rfl ?_
          refine a_aload_n (pc := 60) X 0 dX11_told_60 rfl rfl ?_
          refine a_getR (pc := 61) X 0 282 282 fl_RX11_53 rfl rfl rfl rfl rfl dX11_told_61 ?_
          refine a_getI (pc := 64) X 0 fl_RX11_341 rfl rfl rfl rfl dX11_told_64 ?_
          subst h
          exact a_iret (pc := 67) X trivial dX11_told_67
        · have h := x_ifn c_13_2 h
          by_cases c_13_3 : x0 = (3 : Int32)
          · have h := x_ifp c_13_3 h
            refine a_tin (pc := 13) X 68 dX11_told_13 c_13_3 (by decide) (by decide) rfl rfl ?_
            refine a_aload_n (pc := 68) X 0 dX11_told_68 rfl rfl ?_
            refine a_getR (pc := 69) X 0 282 282 fl_RX11_53 rfl rfl rfl rfl rfl dX11_told_69 ?_
            refine a_getI (pc := 72) X 0 fl_RX11_344 rfl rfl rfl rfl dX11_told_72 ?_
            subst h
            exact a_iret (pc := 75) X trivial dX11_told_75
          · have h := x_ifn c_13_3 h
            refine a_tout (pc := 13) X 76 dX11_told_13 (by have q0 := x_ne c_13_0; have q1 := x_ne c_13_1; have q2 := x_ne c_13_2; have q3 := x_ne c_13_3; have q0 : (x0 : Int32).toInt ≠ 0 := q0; have q1 : (x0 : Int32).toInt ≠ 1 := q1; have q2 : (x0 : Int32).toInt ≠ 2 := q2; have q3 : (x0 : Int32).toInt ≠ 3 := q3; omega) rfl ?_
            refine a_iconst (pc := 76) X dX11_told_76 q_ic_m1 ?_
            subst h
            exact a_iret (pc := 77) X trivial dX11_told_77
  · have h := x_ifp c_7 h
    refine a_iconst (pc := 10) X dX11_told_10 q_ic_m1 ?_
    subst h
    exact a_iret (pc := 11) X trivial dX11_told_11
theorem dX11_sentence_0 : decode cX11_sentence 0 = .ok (.aload_n 0, 1) := by decide +kernel
theorem dX11_sentence_1 : decode cX11_sentence 1 = .ok (.getfield 60, 3) := by decide +kernel
theorem dX11_sentence_4 : decode cX11_sentence 4 = .ok (.aload_n 0, 1) := by decide +kernel
theorem dX11_sentence_5 : decode cX11_sentence 5 = .ok (.getfield 12, 3) := by decide +kernel
theorem dX11_sentence_8 : decode cX11_sentence 8 = .ok (.aload_n 0, 1) := by decide +kernel
theorem dX11_sentence_9 : decode cX11_sentence 9 = .ok (.getfield 19, 3) := by decide +kernel
theorem dX11_sentence_12 : decode cX11_sentence 12 = .ok (.getfield 106, 3) := by decide +kernel
theorem dX11_sentence_15 : decode cX11_sentence 15 = .ok (.invokevirtual 347, 3) := by decide +kernel
theorem dX11_sentence_18 : decode cX11_sentence 18 = .ok (.istore_n 1, 1) := by decide +kernel
theorem dX11_sentence_19 : decode cX11_sentence 19 = .ok (.aload_n 0, 1) := by decide +kernel
theorem dX11_sentence_20 : decode cX11_sentence 20 = .ok (.getfield 12, 3) := by decide +kernel
theorem dX11_sentence_23 : decode cX11_sentence 23 = .ok (.iconst 0, 1) := by decide +kernel
theorem dX11_sentence_24 : decode cX11_sentence 24 = .ok (.putfield 78, 3) := by decide +kernel
theorem dX11_sentence_27 : decode cX11_sentence 27 = .ok (.iload_n 1, 1) := by decide +kernel
theorem dX11_sentence_28 : decode cX11_sentence 28 = .ok (.ifCond .ne 13, 3) := by decide +kernel
theorem dX11_sentence_31 : decode cX11_sentence 31 = .ok (.iconst (-1), 1) := by decide +kernel
theorem dX11_sentence_32 : decode cX11_sentence 32 = .ok (.aload_n 0, 1) := by decide +kernel
theorem dX11_sentence_33 : decode cX11_sentence 33 = .ok (.getfield 12, 3) := by decide +kernel
theorem dX11_sentence_36 : decode cX11_sentence 36 = .ok (.getfield 90, 3) := by decide +kernel
theorem dX11_sentence_39 : decode cX11_sentence 39 = .ok (.isub, 1) := by decide +kernel
theorem dX11_sentence_40 : decode cX11_sentence 40 = .ok (.ireturn, 1) := by decide +kernel
theorem dX11_sentence_41 : decode cX11_sentence 41 = .ok (.aload_n 0, 1) := by decide +kernel
theorem dX11_sentence_42 : decode cX11_sentence 42 = .ok (.getfield 19, 3) := by decide +kernel
theorem dX11_sentence_45 : decode cX11_sentence 45 = .ok (.getfield 350, 3) := by decide +kernel
theorem dX11_sentence_48 : decode cX11_sentence 48 = .ok (.aload_n 0, 1) := by decide +kernel
theorem dX11_sentence_49 : decode cX11_sentence 49 = .ok (.getfield 60, 3) := by decide +kernel
theorem dX11_sentence_52 : decode cX11_sentence 52 = .ok (.invokevirtual 353, 3) := by decide +kernel
theorem dX11_sentence_55 : decode cX11_sentence 55 = .ok (.aload_n 0, 1) := by decide +kernel
theorem dX11_sentence_56 : decode cX11_sentence 56 = .ok (.getfield 60, 3) := by decide +kernel
theorem dX11_sentence_59 : decode cX11_sentence 59 = .ok (.getfield 356, 3) := by decide +kernel
theorem dX11_sentence_62 : decode cX11_sentence 62 = .ok (.ireturn, 1) := by decide +kernel
def f_X11_sentence (v0 : XM) : Option (Int32 × XM) :=
  x_bo (f_X4_readSentence (x_sub v0 291) (x_sub v0 1) (x_sub v0 6)) (fun y1 =>
  x_lt (x_put (x_put v0 291 9 y1.2.1) 1 4 y1.2.2) (fun m2 =>
  x_lt (x_si m2 1 2 (0 : Int32)) (fun m3 =>
  if y1.1 = (0 : Int32) then
  (some ((-1 : Int32) - (m3.1 1 11), m3))
  else (x_lt (f_X4_become (x_sub m3 37) (x_sub m3 291)) (fun y4 =>
  x_lt (x_put m3 37 9 y4) (fun m5 =>
  some (m5.1 291 0, m5)))))))
set_option maxRecDepth 100000 in
set_option maxHeartbeats 4000000 in
theorem c_X11_sentence {l : Launch}  {ad0 : Nat → Nat} {v0 : XM}   {o : Int32 × XM} (h : f_X11_sentence v0 = some o) : CT l yX11_sentence cX11_sentence 2 (some .int) 7 [(shFoldRoads, ad0)] [v0] (fun aK => [.ref (ad0 0)]) (some (.int o.1)) True [o.2] := by
  refine CT_of (by decide) (fun _ => Nat.le_of_ble_eq_true rfl) ?_
  intro p e s m args below meth c D tc aK aV A X
  have X : Cx p s m args meth c cX11_sentence 2 (some .int) RX11 D tc aK aV A [(shFoldRoads, ad0)] := X
  show aW p l e (x_Rm 7) s m args below meth c D tc A 2 [(shFoldRoads, ad0)] (some (.int o.1)) True [o.2] 0 [(0, .ref (ad0 0))] [] [v0]
  unfold f_X11_sentence at h
  refine a_aload_n (pc := 0) X 0 dX11_sentence_0 rfl rfl ?_
  refine a_getR (pc := 1) X 0 291 291 fl_RX11_60 rfl rfl rfl rfl rfl dX11_sentence_1 ?_
  refine a_aload_n (pc := 4) X 0 dX11_sentence_4 rfl rfl ?_
  refine a_getR (pc := 5) X 0 1 1 fl_RX11_12 rfl rfl rfl rfl rfl dX11_sentence_5 ?_
  refine a_aload_n (pc := 8) X 0 dX11_sentence_8 rfl rfl ?_
  refine a_getR (pc := 9) X 0 5 5 fl_RX11_19 rfl rfl rfl rfl rfl dX11_sentence_9 ?_
  refine a_getR (pc := 12) X 0 1 6 fl_RX11_106 rfl rfl rfl rfl rfl dX11_sentence_12 ?_
  obtain ⟨y1, e_y1, h⟩ := x_bo_elim h
  refine a_callV (pc := 15) (st2 := [.int y1.1]) (vs2 := [x_put (x_put v0 291 9 y1.2.1) 1 4 y1.2.2]) X [(0, 291, 9), (0, 1, 4), (0, 6, 16)] [some y1.2.1, some y1.2.2, none] 0 291 4 [.ref (ad0 1), .ref (ad0 6)] [] cv_RX11_347 (c_X4_readSentence (ad0 := (fun i => ad0 (i + 291))) (ad1 := (fun i => ad0 (i + 1))) (ad2 := (fun i => ad0 (i + 6)))  e_y1) rfl rfl rfl rfl rfl rfl rfl rfl rfl rfl rfl rfl rfl rfl rfl (Nat.le_of_ble_eq_true rfl) ⟨Nat.le_of_ble_eq_true rfl, Nat.le_of_ble_eq_true rfl⟩ dX11_sentence_15 (fun z_15 => ?_)
  obtain ⟨m2, e_m2, h⟩ := x_lt_elim h
  refine a_nm (vs2 := [m2]) (congrArg (fun q : XM => [q]) e_m2) ?_
  refine a_istore_n (pc := 18) X [(1, .int y1.1), (0, .ref (ad0 0))] dX11_sentence_18 rfl (by decide) rfl ?_
  refine a_aload_n (pc := 19) X 1 dX11_sentence_19 rfl rfl ?_
  refine a_getR (pc := 20) X 0 1 1 fl_RX11_12 rfl rfl rfl rfl rfl dX11_sentence_20 ?_
  refine a_iconst (pc := 23) X dX11_sentence_23 q_ic_0 ?_
  refine a_putI (pc := 24) X 0 fl_RX11_78 rfl rfl rfl rfl dX11_sentence_24 ?_
  obtain ⟨m3, e_m3, h⟩ := x_lt_elim h
  refine a_nm (vs2 := [m3]) (congrArg (fun q : XM => [q]) e_m3) ?_
  refine a_iload_n (pc := 27) X 0 dX11_sentence_27 rfl rfl ?_
  refine a_if_ne (pc := 28) X 41 dX11_sentence_28 rfl (fun c_28 => ?_) (fun c_28 => ?_)
  · have h := x_ifn c_28 h
    refine a_aload_n (pc := 41) X 1 dX11_sentence_41 rfl rfl ?_
    refine a_getR (pc := 42) X 0 5 5 fl_RX11_19 rfl rfl rfl rfl rfl dX11_sentence_42 ?_
    refine a_getR (pc := 45) X 0 32 37 fl_RX11_350 rfl rfl rfl rfl rfl dX11_sentence_45 ?_
    refine a_aload_n (pc := 48) X 1 dX11_sentence_48 rfl rfl ?_
    refine a_getR (pc := 49) X 0 291 291 fl_RX11_60 rfl rfl rfl rfl rfl dX11_sentence_49 ?_
    obtain ⟨y4, e_y4, h⟩ := x_lt_elim h
    refine a_callV (pc := 52) (st2 := []) (vs2 := [x_put m3 37 9 y4]) X [(0, 37, 9), (0, 291, 9)] [some y4, none] 0 37 4 [.ref (ad0 291)] [] cv_RX11_353 (c_X4_become (ad0 := (fun i => ad0 (i + 37))) (ad1 := (fun i => ad0 (i + 291)))  e_y4) rfl rfl rfl rfl rfl rfl rfl rfl rfl rfl rfl rfl rfl rfl rfl (Nat.le_of_ble_eq_true rfl) ⟨Nat.le_of_ble_eq_true rfl, Nat.le_of_ble_eq_true rfl⟩ dX11_sentence_52 (fun _ => ?_)
    obtain ⟨m5, e_m5, h⟩ := x_lt_elim h
    refine a_nm (vs2 := [m5]) (congrArg (fun q : XM => [q]) e_m5) ?_
    refine a_aload_n (pc := 55) X 1 dX11_sentence_55 rfl rfl ?_
    refine a_getR (pc := 56) X 0 291 291 fl_RX11_60 rfl rfl rfl rfl rfl dX11_sentence_56 ?_
    refine a_getI (pc := 59) X 0 fl_RX11_356 rfl rfl rfl rfl dX11_sentence_59 ?_
    have h := Option.some.inj h; subst h
    exact a_iret (pc := 62) X trivial dX11_sentence_62
  · have h := x_ifp c_28 h
    refine a_iconst (pc := 31) X dX11_sentence_31 q_ic_m1 ?_
    refine a_aload_n (pc := 32) X 1 dX11_sentence_32 rfl rfl ?_
    refine a_getR (pc := 33) X 0 1 1 fl_RX11_12 rfl rfl rfl rfl rfl dX11_sentence_33 ?_
    refine a_getI (pc := 36) X 0 fl_RX11_90 rfl rfl rfl rfl dX11_sentence_36 ?_
    refine a_isub (pc := 39) X dX11_sentence_39 ?_
    have h := Option.some.inj h; subst h
    exact a_iret (pc := 40) X trivial dX11_sentence_40
theorem dX11_bitPlace_0 : decode cX11_bitPlace 0 = .ok (.iconst 0, 1) := by decide +kernel
theorem dX11_bitPlace_1 : decode cX11_bitPlace 1 = .ok (.istore_n 2, 1) := by decide +kernel
theorem dX11_bitPlace_2 : decode cX11_bitPlace 2 = .ok (.iconst 0, 1) := by decide +kernel
theorem dX11_bitPlace_3 : decode cX11_bitPlace 3 = .ok (.istore_n 3, 1) := by decide +kernel
theorem dX11_bitPlace_4 : decode cX11_bitPlace 4 = .ok (.iload_n 3, 1) := by decide +kernel
theorem dX11_bitPlace_5 : decode cX11_bitPlace 5 = .ok (.iconst 5, 1) := by decide +kernel
theorem dX11_bitPlace_6 : decode cX11_bitPlace 6 = .ok (.if_icmp .ge 28, 3) := by decide +kernel
theorem dX11_bitPlace_9 : decode cX11_bitPlace 9 = .ok (.iload_n 0, 1) := by decide +kernel
theorem dX11_bitPlace_10 : decode cX11_bitPlace 10 = .ok (.iload_n 3, 1) := by decide +kernel
theorem dX11_bitPlace_11 : decode cX11_bitPlace 11 = .ok (.ishr, 1) := by decide +kernel
theorem dX11_bitPlace_12 : decode cX11_bitPlace 12 = .ok (.iconst 1, 1) := by decide +kernel
theorem dX11_bitPlace_13 : decode cX11_bitPlace 13 = .ok (.iand, 1) := by decide +kernel
theorem dX11_bitPlace_14 : decode cX11_bitPlace 14 = .ok (.iconst 1, 1) := by decide +kernel
theorem dX11_bitPlace_15 : decode cX11_bitPlace 15 = .ok (.if_icmp .ne 13, 3) := by decide +kernel
theorem dX11_bitPlace_18 : decode cX11_bitPlace 18 = .ok (.iload_n 2, 1) := by decide +kernel
theorem dX11_bitPlace_19 : decode cX11_bitPlace 19 = .ok (.iload_n 1, 1) := by decide +kernel
theorem dX11_bitPlace_20 : decode cX11_bitPlace 20 = .ok (.if_icmp .ne 5, 3) := by decide +kernel
theorem dX11_bitPlace_23 : decode cX11_bitPlace 23 = .ok (.iload_n 3, 1) := by decide +kernel
theorem dX11_bitPlace_24 : decode cX11_bitPlace 24 = .ok (.ireturn, 1) := by decide +kernel
theorem dX11_bitPlace_25 : decode cX11_bitPlace 25 = .ok (.iinc 2 1, 3) := by decide +kernel
theorem dX11_bitPlace_28 : decode cX11_bitPlace 28 = .ok (.iinc 3 1, 3) := by decide +kernel
theorem dX11_bitPlace_31 : decode cX11_bitPlace 31 = .ok (.goto (-27), 3) := by decide +kernel
theorem dX11_bitPlace_34 : decode cX11_bitPlace 34 = .ok (.iconst (-1), 1) := by decide +kernel
theorem dX11_bitPlace_35 : decode cX11_bitPlace 35 = .ok (.ireturn, 1) := by decide +kernel
def f_X11_bitPlace_28 (k4 : Int32 → Int32 → Int32 → Int32 → Option (Int32)) (l0 : Int32) (l1 : Int32) (l2 : Int32) (l3 : Int32) : Option (Int32) :=
  k4 l0 l1 l2 (l3 + 1)
def f_X11_bitPlace_4 (k4 : Int32 → Int32 → Int32 → Int32 → Option (Int32)) (l0 : Int32) (l1 : Int32) (l2 : Int32) (l3 : Int32) : Option (Int32) :=
  if ((5 : Int32) : Int32) ≤ l3 then
  (some ((-1 : Int32) : Int32))
  else (if (((l0 >>> (l3 &&& 31)) &&& (1 : Int32)) : Int32) = (1 : Int32) then
  (if (l2 : Int32) = l1 then
  (some (l3 : Int32))
  else (f_X11_bitPlace_28  k4 l0 l1 (l2 + 1) l3))
  else (f_X11_bitPlace_28  k4 l0 l1 l2 l3))
def f_X11_bitPlace (x0 : Int32) (x1 : Int32) : Option (Int32) :=
  x_lp (φ := Int32 → Int32 → Int32 → Int32 → Option (Int32)) (fun _ _ _ _ => none) (f_X11_bitPlace_4  ) x_NN x0 x1 (0 : Int32) (0 : Int32)
set_option maxRecDepth 100000 in
set_option maxHeartbeats 4000000 in
theorem w_X11_bitPlace_28 {p : Program} {l : Launch} {e : Env} {s : State} {m : MethodId} {args : Array Value} {below : List Frame} {meth : Method} {c : Code} {D : va_G} {tc : Nat → ClassId} {aK aV : Nat → Nat} {A : Nat → Prop}   (X : Cx p s m args meth c cX11_bitPlace 4 (some .int) RX11 D tc aK aV A [])  {o : Int32} {k4 : Int32 → Int32 → Int32 → Int32 → Option (Int32)} (hk4 : ∀ (l0 : Int32) (l1 : Int32) (l2 : Int32) (l3 : Int32), k4 l0 l1 l2 l3 = some o → aW p l e (x_Rm 0) s m args below meth c D tc A 4 [] (some (.int o)) True [] 4 [(0, .int l0), (1, .int l1), (2, .int l2), (3, .int l3)] [] []) {l0 : Int32} {l1 : Int32} {l2 : Int32} {l3 : Int32}  (h : f_X11_bitPlace_28  k4 l0 l1 l2 l3 = some o) : aW p l e (x_Rm 0) s m args below meth c D tc A 4 [] (some (.int o)) True [] 28 [(0, .int l0), (1, .int l1), (2, .int l2), (3, .int l3)] [] [] := by
  unfold f_X11_bitPlace_28 at h
  refine a_iinc (pc := 28) X 3 [(3, .int (l3 + 1)), (0, .int l0), (1, .int l1), (2, .int l2)] dX11_bitPlace_28 rfl (congrArg (HAdd.hAdd l3) q_ic_1) (by decide) rfl ?_
  refine a_goto (pc := 31) X 4 dX11_bitPlace_31 rfl ?_
  refine a_sub [1, 2, 3, 0] rfl ?_
  exact hk4 _ _ _ _ h
set_option maxRecDepth 100000 in
set_option maxHeartbeats 4000000 in
theorem w_X11_bitPlace_4 {p : Program} {l : Launch} {e : Env} {s : State} {m : MethodId} {args : Array Value} {below : List Frame} {meth : Method} {c : Code} {D : va_G} {tc : Nat → ClassId} {aK aV : Nat → Nat} {A : Nat → Prop}   (X : Cx p s m args meth c cX11_bitPlace 4 (some .int) RX11 D tc aK aV A [])  {o : Int32}  : ∀ (n : Nat), ∀ (l0 : Int32) (l1 : Int32) (l2 : Int32) (l3 : Int32), x_lp (φ := Int32 → Int32 → Int32 → Int32 → Option (Int32)) (fun _ _ _ _ => none) (f_X11_bitPlace_4  ) n l0 l1 l2 l3 = some o → aW p l e (x_Rm 0) s m args below meth c D tc A 4 [] (some (.int o)) True [] 4 [(0, .int l0), (1, .int l1), (2, .int l2), (3, .int l3)] [] [] := by
  intro n
  induction n with
  | zero => intro l0 l1 l2 l3 h; exact absurd h (fun q => by cases q)
  | succ n ih =>
    intro l0 l1 l2 l3 h
    have h : f_X11_bitPlace_4   (x_lp (φ := Int32 → Int32 → Int32 → Int32 → Option (Int32)) (fun _ _ _ _ => none) (f_X11_bitPlace_4  ) n) l0 l1 l2 l3 = some o := h
    generalize x_lp (φ := Int32 → Int32 → Int32 → Int32 → Option (Int32)) (fun _ _ _ _ => none) (f_X11_bitPlace_4  ) n = k4 at h ih
    have hk4 := ih
    unfold f_X11_bitPlace_4 at h
    refine a_iload_n (pc := 4) X 3 dX11_bitPlace_4 rfl rfl ?_
    refine a_iconst (pc := 5) X dX11_bitPlace_5 q_ic_5 ?_
    refine a_icmp_ge (pc := 6) X 34 dX11_bitPlace_6 rfl (fun c_6 => ?_) (fun c_6 => ?_)
    · have h := x_ifp c_6 h
      refine a_iconst (pc := 34) X dX11_bitPlace_34 q_ic_m1 ?_
      have h := Option.some.inj h; subst h
      exact a_iret (pc := 35) X trivial dX11_bitPlace_35
    · have h := x_ifn c_6 h
      refine a_iload_n (pc := 9) X 0 dX11_bitPlace_9 rfl rfl ?_
      refine a_iload_n (pc := 10) X 3 dX11_bitPlace_10 rfl rfl ?_
      refine a_ishr (pc := 11) X dX11_bitPlace_11 ?_
      refine a_iconst (pc := 12) X dX11_bitPlace_12 q_ic_1 ?_
      refine a_iand (pc := 13) X dX11_bitPlace_13 ?_
      refine a_iconst (pc := 14) X dX11_bitPlace_14 q_ic_1 ?_
      refine a_icmp_ne (pc := 15) X 28 dX11_bitPlace_15 rfl (fun c_15 => ?_) (fun c_15 => ?_)
      · have h := x_ifn c_15 h
        exact w_X11_bitPlace_28 X   hk4  h
      · have h := x_ifp c_15 h
        refine a_iload_n (pc := 18) X 2 dX11_bitPlace_18 rfl rfl ?_
        refine a_iload_n (pc := 19) X 1 dX11_bitPlace_19 rfl rfl ?_
        refine a_icmp_ne (pc := 20) X 25 dX11_bitPlace_20 rfl (fun c_20 => ?_) (fun c_20 => ?_)
        · have h := x_ifn c_20 h
          refine a_iinc (pc := 25) X 2 [(2, .int (l2 + 1)), (0, .int l0), (1, .int l1), (3, .int l3)] dX11_bitPlace_25 rfl (congrArg (HAdd.hAdd l2) q_ic_1) (by decide) rfl ?_
          refine a_sub [1, 2, 0, 3] rfl ?_
          exact w_X11_bitPlace_28 X   hk4  h
        · have h := x_ifp c_20 h
          refine a_iload_n (pc := 23) X 3 dX11_bitPlace_23 rfl rfl ?_
          have h := Option.some.inj h; subst h
          exact a_iret (pc := 24) X trivial dX11_bitPlace_24
set_option maxRecDepth 100000 in
set_option maxHeartbeats 4000000 in
theorem c_X11_bitPlace {l : Launch}   {x0 : Int32} {x1 : Int32}  {o : Int32} (h : f_X11_bitPlace x0 x1 = some o) : CT l yX11_bitPlace cX11_bitPlace 4 (some .int) 0 [] [] (fun aK => [.int x0, .int x1]) (some (.int o)) True [] := by
  refine CT_of (by decide) (fun _ => Nat.le_of_ble_eq_true rfl) ?_
  intro p e s m args below meth c D tc aK aV A X
  have X : Cx p s m args meth c cX11_bitPlace 4 (some .int) RX11 D tc aK aV A [] := X
  show aW p l e (x_Rm 0) s m args below meth c D tc A 4 [] (some (.int o)) True [] 0 [(0, .int x0), (1, .int x1)] [] []
  unfold f_X11_bitPlace at h
  refine a_iconst (pc := 0) X dX11_bitPlace_0 q_ic_0 ?_
  refine a_istore_n (pc := 1) X [(2, .int (0 : Int32)), (0, .int x0), (1, .int x1)] dX11_bitPlace_1 rfl (by decide) rfl ?_
  refine a_iconst (pc := 2) X dX11_bitPlace_2 q_ic_0 ?_
  refine a_istore_n (pc := 3) X [(3, .int (0 : Int32)), (2, .int (0 : Int32)), (0, .int x0), (1, .int x1)] dX11_bitPlace_3 rfl (by decide) rfl ?_
  refine a_sub [2, 3, 1, 0] rfl ?_
  exact w_X11_bitPlace_4 X    x_NN _ _ _ _ h
theorem dX11_said_0 : decode cX11_said 0 = .ok (.aload_n 0, 1) := by decide +kernel
theorem dX11_said_1 : decode cX11_said 1 = .ok (.getfield 19, 3) := by decide +kernel
theorem dX11_said_4 : decode cX11_said 4 = .ok (.getfield 350, 3) := by decide +kernel
theorem dX11_said_7 : decode cX11_said 7 = .ok (.getfield 356, 3) := by decide +kernel
theorem dX11_said_10 : decode cX11_said 10 = .ok (.ifCond .ne 5, 3) := by decide +kernel
theorem dX11_said_13 : decode cX11_said 13 = .ok (.iconst (-1), 1) := by decide +kernel
theorem dX11_said_14 : decode cX11_said 14 = .ok (.ireturn, 1) := by decide +kernel
theorem dX11_said_15 : decode cX11_said 15 = .ok (.aload_n 0, 1) := by decide +kernel
theorem dX11_said_16 : decode cX11_said 16 = .ok (.getfield 19, 3) := by decide +kernel
theorem dX11_said_19 : decode cX11_said 19 = .ok (.getfield 350, 3) := by decide +kernel
theorem dX11_said_22 : decode cX11_said 22 = .ok (.aload_n 0, 1) := by decide +kernel
theorem dX11_said_23 : decode cX11_said 23 = .ok (.getfield 19, 3) := by decide +kernel
theorem dX11_said_26 : decode cX11_said 26 = .ok (.aload_n 0, 1) := by decide +kernel
theorem dX11_said_27 : decode cX11_said 27 = .ok (.getfield 67, 3) := by decide +kernel
theorem dX11_said_30 : decode cX11_said 30 = .ok (.aload_n 0, 1) := by decide +kernel
theorem dX11_said_31 : decode cX11_said 31 = .ok (.getfield 19, 3) := by decide +kernel
theorem dX11_said_34 : decode cX11_said 34 = .ok (.invokevirtual 146, 3) := by decide +kernel
theorem dX11_said_37 : decode cX11_said 37 = .ok (.invokevirtual 359, 3) := by decide +kernel
theorem dX11_said_40 : decode cX11_said 40 = .ok (.istore_n 2, 1) := by decide +kernel
theorem dX11_said_41 : decode cX11_said 41 = .ok (.iload_n 1, 1) := by decide +kernel
theorem dX11_said_42 : decode cX11_said 42 = .ok (.iconst (-1), 1) := by decide +kernel
theorem dX11_said_43 : decode cX11_said 43 = .ok (.if_icmp .ne 10, 3) := by decide +kernel
theorem dX11_said_46 : decode cX11_said 46 = .ok (.iload_n 2, 1) := by decide +kernel
theorem dX11_said_47 : decode cX11_said 47 = .ok (.invokestatic 308, 3) := by decide +kernel
theorem dX11_said_50 : decode cX11_said 50 = .ok (.goto 8, 3) := by decide +kernel
theorem dX11_said_53 : decode cX11_said 53 = .ok (.iload_n 2, 1) := by decide +kernel
theorem dX11_said_54 : decode cX11_said 54 = .ok (.iload_n 1, 1) := by decide +kernel
theorem dX11_said_55 : decode cX11_said 55 = .ok (.invokestatic 362, 3) := by decide +kernel
theorem dX11_said_58 : decode cX11_said 58 = .ok (.ireturn, 1) := by decide +kernel
def f_X11_said (v0 : XM) (x0 : Int32) : Option (Int32 × XM) :=
  if (v0.1 37 0) = (0 : Int32) then
  (some ((-1 : Int32), v0))
  else (x_bo (f_X2_lostWalkers (x_sub v0 300) (x_sub v0 5)) (fun y1 =>
  x_lt (x_put v0 300 15 y1.2) (fun m2 =>
  x_bo (f_X4_those (x_sub m2 37) (x_sub m2 5) y1.1) (fun y3 =>
  x_lt (x_put m2 37 9 y3.2) (fun m4 =>
  if (x0 : Int32) = (-1 : Int32) then
  (x_lt (f_J6_bitCount_0f7a4 y3.1) (fun y6 =>
  some (y6, m4)))
  else (x_bo (f_X11_bitPlace y3.1 x0) (fun y5 =>
  some (y5, m4))))))))
set_option maxRecDepth 100000 in
set_option maxHeartbeats 4000000 in
theorem c_X11_said {l : Launch}  {ad0 : Nat → Nat} {v0 : XM} {x0 : Int32}  {o : Int32 × XM} (h : f_X11_said v0 x0 = some o) : CT l yX11_said cX11_said 3 (some .int) 7 [(shFoldRoads, ad0)] [v0] (fun aK => [.ref (ad0 0), .int x0]) (some (.int o.1)) True [o.2] := by
  refine CT_of (by decide) (fun _ => Nat.le_of_ble_eq_true rfl) ?_
  intro p e s m args below meth c D tc aK aV A X
  have X : Cx p s m args meth c cX11_said 3 (some .int) RX11 D tc aK aV A [(shFoldRoads, ad0)] := X
  show aW p l e (x_Rm 7) s m args below meth c D tc A 3 [(shFoldRoads, ad0)] (some (.int o.1)) True [o.2] 0 [(0, .ref (ad0 0)), (1, .int x0)] [] [v0]
  unfold f_X11_said at h
  refine a_aload_n (pc := 0) X 0 dX11_said_0 rfl rfl ?_
  refine a_getR (pc := 1) X 0 5 5 fl_RX11_19 rfl rfl rfl rfl rfl dX11_said_1 ?_
  refine a_getR (pc := 4) X 0 32 37 fl_RX11_350 rfl rfl rfl rfl rfl dX11_said_4 ?_
  refine a_getI (pc := 7) X 0 fl_RX11_356 rfl rfl rfl rfl dX11_said_7 ?_
  refine a_if_ne (pc := 10) X 15 dX11_said_10 rfl (fun c_10 => ?_) (fun c_10 => ?_)
  · have h := x_ifn c_10 h
    refine a_aload_n (pc := 15) X 0 dX11_said_15 rfl rfl ?_
    refine a_getR (pc := 16) X 0 5 5 fl_RX11_19 rfl rfl rfl rfl rfl dX11_said_16 ?_
    refine a_getR (pc := 19) X 0 32 37 fl_RX11_350 rfl rfl rfl rfl rfl dX11_said_19 ?_
    refine a_aload_n (pc := 22) X 0 dX11_said_22 rfl rfl ?_
    refine a_getR (pc := 23) X 0 5 5 fl_RX11_19 rfl rfl rfl rfl rfl dX11_said_23 ?_
    refine a_aload_n (pc := 26) X 0 dX11_said_26 rfl rfl ?_
    refine a_getR (pc := 27) X 0 300 300 fl_RX11_67 rfl rfl rfl rfl rfl dX11_said_27 ?_
    refine a_aload_n (pc := 30) X 0 dX11_said_30 rfl rfl ?_
    refine a_getR (pc := 31) X 0 5 5 fl_RX11_19 rfl rfl rfl rfl rfl dX11_said_31 ?_
    obtain ⟨y1, e_y1, h⟩ := x_bo_elim h
    refine a_callV (pc := 34) (st2 := [.int y1.1, .ref (ad0 5), .ref (ad0 37)]) (vs2 := [x_put v0 300 15 y1.2]) X [(0, 300, 15), (0, 5, 32)] [some y1.2, none] 0 300 2 [.ref (ad0 5)] [.ref (ad0 5), .ref (ad0 37)] cv_RX11_146 (c_X2_lostWalkers (ad0 := (fun i => ad0 (i + 300))) (ad1 := (fun i => ad0 (i + 5)))  e_y1) rfl rfl rfl rfl rfl rfl rfl rfl rfl rfl rfl rfl rfl rfl rfl (Nat.le_of_ble_eq_true rfl) ⟨Nat.le_of_ble_eq_true rfl, Nat.le_of_ble_eq_true rfl⟩ dX11_said_34 (fun _ => ?_)
    obtain ⟨m2, e_m2, h⟩ := x_lt_elim h
    refine a_nm (vs2 := [m2]) (congrArg (fun q : XM => [q]) e_m2) ?_
    obtain ⟨y3, e_y3, h⟩ := x_bo_elim h
    refine a_callV (pc := 37) (st2 := [.int y3.1]) (vs2 := [x_put m2 37 9 y3.2]) X [(0, 37, 9), (0, 5, 32)] [some y3.2, none] 0 37 4 [.ref (ad0 5), .int y1.1] [] cv_RX11_359 (c_X4_those (ad0 := (fun i => ad0 (i + 37))) (ad1 := (fun i => ad0 (i + 5)))  e_y3) rfl rfl rfl rfl rfl rfl rfl rfl rfl rfl rfl rfl rfl rfl rfl (Nat.le_of_ble_eq_true rfl) ⟨Nat.le_of_ble_eq_true rfl, Nat.le_of_ble_eq_true rfl⟩ dX11_said_37 (fun _ => ?_)
    obtain ⟨m4, e_m4, h⟩ := x_lt_elim h
    refine a_nm (vs2 := [m4]) (congrArg (fun q : XM => [q]) e_m4) ?_
    refine a_istore_n (pc := 40) X [(2, .int y3.1), (0, .ref (ad0 0)), (1, .int x0)] dX11_said_40 rfl (by decide) rfl ?_
    refine a_iload_n (pc := 41) X 2 dX11_said_41 rfl rfl ?_
    refine a_iconst (pc := 42) X dX11_said_42 q_ic_m1 ?_
    refine a_icmp_ne (pc := 43) X 53 dX11_said_43 rfl (fun c_43 => ?_) (fun c_43 => ?_)
    · have h := x_ifn c_43 h
      refine a_iload_n (pc := 53) X 0 dX11_said_53 rfl rfl ?_
      refine a_iload_n (pc := 54) X 2 dX11_said_54 rfl rfl ?_
      obtain ⟨y5, e_y5, h⟩ := x_bo_elim h
      refine a_callS (pc := 55) (st2 := [.int y5]) (vs2 := [m4]) X [] [] [.int y3.1, .int x0] [] cv_RX11_362 (c_X11_bitPlace   e_y5) rfl rfl rfl rfl rfl rfl rfl rfl rfl rfl rfl (Nat.le_of_ble_eq_true rfl) ⟨Nat.le_of_ble_eq_true rfl, Nat.le_of_ble_eq_true rfl⟩ dX11_said_55 (fun _ => ?_)
      have h := Option.some.inj h; subst h
      exact a_iret (pc := 58) X trivial dX11_said_58
    · have h := x_ifp c_43 h
      refine a_iload_n (pc := 46) X 0 dX11_said_46 rfl rfl ?_
      obtain ⟨y6, e_y6, h⟩ := x_lt_elim h
      refine a_callS (pc := 47) (st2 := [.int y6]) (vs2 := [m4]) X [] [] [.int y3.1] [] cv_RX11_308 (c_J6_bitCount_0f7a4   e_y6) rfl rfl rfl rfl rfl rfl rfl rfl rfl rfl rfl (Nat.le_of_ble_eq_true rfl) ⟨Nat.le_of_ble_eq_true rfl, Nat.le_of_ble_eq_true rfl⟩ dX11_said_47 (fun _ => ?_)
      refine a_goto (pc := 50) X 58 dX11_said_50 rfl ?_
      have h := Option.some.inj h; subst h
      exact a_iret (pc := 58) X trivial dX11_said_58
  · have h := x_ifp c_10 h
    refine a_iconst (pc := 13) X dX11_said_13 q_ic_m1 ?_
    have h := Option.some.inj h; subst h
    exact a_iret (pc := 14) X trivial dX11_said_14
