-- late: functional forms and contracts, written by wip/whole/gen.py out of the bytecode.
theorem dX1_keep_0 : decode cX1_keep 0 = .ok (.aload_n 0, 1) := by decide +kernel
theorem dX1_keep_1 : decode cX1_keep 1 = .ok (.aload_n 0, 1) := by decide +kernel
theorem dX1_keep_2 : decode cX1_keep 2 = .ok (.getfield 22, 3) := by decide +kernel
theorem dX1_keep_5 : decode cX1_keep 5 = .ok (.invokevirtual 25, 3) := by decide +kernel
theorem dX1_keep_8 : decode cX1_keep 8 = .ok (.astore_n 2, 1) := by decide +kernel
theorem dX1_keep_9 : decode cX1_keep 9 = .ok (.aload_n 2, 1) := by decide +kernel
theorem dX1_keep_10 : decode cX1_keep 10 = .ok (.ifnonnull 4, 3) := by decide +kernel
theorem dX1_keep_13 : decode cX1_keep 13 = .ok (.return_, 1) := by decide +kernel
theorem dX1_keep_14 : decode cX1_keep 14 = .ok (.aload_n 2, 1) := by decide +kernel
theorem dX1_keep_15 : decode cX1_keep 15 = .ok (.aload_n 1, 1) := by decide +kernel
theorem dX1_keep_16 : decode cX1_keep 16 = .ok (.invokevirtual 29, 3) := by decide +kernel
theorem dX1_keep_19 : decode cX1_keep 19 = .ok (.aload_n 0, 1) := by decide +kernel
theorem dX1_keep_20 : decode cX1_keep 20 = .ok (.aload_n 0, 1) := by decide +kernel
theorem dX1_keep_21 : decode cX1_keep 21 = .ok (.getfield 22, 3) := by decide +kernel
theorem dX1_keep_24 : decode cX1_keep 24 = .ok (.iconst 1, 1) := by decide +kernel
theorem dX1_keep_25 : decode cX1_keep 25 = .ok (.iadd, 1) := by decide +kernel
theorem dX1_keep_26 : decode cX1_keep 26 = .ok (.bipush 8, 2) := by decide +kernel
theorem dX1_keep_28 : decode cX1_keep 28 = .ok (.irem, 1) := by decide +kernel
theorem dX1_keep_29 : decode cX1_keep 29 = .ok (.putfield 22, 3) := by decide +kernel
theorem dX1_keep_32 : decode cX1_keep 32 = .ok (.aload_n 0, 1) := by decide +kernel
theorem dX1_keep_33 : decode cX1_keep 33 = .ok (.getfield 18, 3) := by decide +kernel
theorem dX1_keep_36 : decode cX1_keep 36 = .ok (.bipush 8, 2) := by decide +kernel
theorem dX1_keep_38 : decode cX1_keep 38 = .ok (.if_icmp .ge 13, 3) := by decide +kernel
theorem dX1_keep_41 : decode cX1_keep 41 = .ok (.aload_n 0, 1) := by decide +kernel
theorem dX1_keep_42 : decode cX1_keep 42 = .ok (.dup, 1) := by decide +kernel
theorem dX1_keep_43 : decode cX1_keep 43 = .ok (.getfield 18, 3) := by decide +kernel
theorem dX1_keep_46 : decode cX1_keep 46 = .ok (.iconst 1, 1) := by decide +kernel
theorem dX1_keep_47 : decode cX1_keep 47 = .ok (.iadd, 1) := by decide +kernel
theorem dX1_keep_48 : decode cX1_keep 48 = .ok (.putfield 18, 3) := by decide +kernel
theorem dX1_keep_51 : decode cX1_keep 51 = .ok (.return_, 1) := by decide +kernel
def f_X1_keep (v0 : XM) (v1 : XM) : XM :=
  if (v0.1 0 1) = (0 : Int32) then
  (x_lt (f_X5_become (x_sub v0 2) v1) (fun y1 =>
  x_lt (x_put v0 2 15 y1) (fun m2 =>
  x_lt (((m2.1 0 1) + (1 : Int32)) - ((m2.1 0 1) + (1 : Int32)) / (8 : Int32) * (8 : Int32)) (fun y3 =>
  x_lt (x_si m2 0 1 y3) (fun m4 =>
  if ((8 : Int32) : Int32) ≤ (m4.1 0 2) then
  (m4)
  else (x_lt (x_si m4 0 2 ((m4.1 0 2) + (1 : Int32))) (fun m5 =>
  m5)))))))
  else (if (v0.1 0 1) = (1 : Int32) then
  (x_lt (f_X5_become (x_sub v0 17) v1) (fun y6 =>
  x_lt (x_put v0 17 15 y6) (fun m7 =>
  x_lt (((m7.1 0 1) + (1 : Int32)) - ((m7.1 0 1) + (1 : Int32)) / (8 : Int32) * (8 : Int32)) (fun y8 =>
  x_lt (x_si m7 0 1 y8) (fun m9 =>
  if ((8 : Int32) : Int32) ≤ (m9.1 0 2) then
  (m9)
  else (x_lt (x_si m9 0 2 ((m9.1 0 2) + (1 : Int32))) (fun m10 =>
  m10)))))))
  else (if (v0.1 0 1) = (2 : Int32) then
  (x_lt (f_X5_become (x_sub v0 32) v1) (fun y11 =>
  x_lt (x_put v0 32 15 y11) (fun m12 =>
  x_lt (((m12.1 0 1) + (1 : Int32)) - ((m12.1 0 1) + (1 : Int32)) / (8 : Int32) * (8 : Int32)) (fun y13 =>
  x_lt (x_si m12 0 1 y13) (fun m14 =>
  if ((8 : Int32) : Int32) ≤ (m14.1 0 2) then
  (m14)
  else (x_lt (x_si m14 0 2 ((m14.1 0 2) + (1 : Int32))) (fun m15 =>
  m15)))))))
  else (if (v0.1 0 1) = (3 : Int32) then
  (x_lt (f_X5_become (x_sub v0 47) v1) (fun y16 =>
  x_lt (x_put v0 47 15 y16) (fun m17 =>
  x_lt (((m17.1 0 1) + (1 : Int32)) - ((m17.1 0 1) + (1 : Int32)) / (8 : Int32) * (8 : Int32)) (fun y18 =>
  x_lt (x_si m17 0 1 y18) (fun m19 =>
  if ((8 : Int32) : Int32) ≤ (m19.1 0 2) then
  (m19)
  else (x_lt (x_si m19 0 2 ((m19.1 0 2) + (1 : Int32))) (fun m20 =>
  m20)))))))
  else (if (v0.1 0 1) = (4 : Int32) then
  (x_lt (f_X5_become (x_sub v0 62) v1) (fun y21 =>
  x_lt (x_put v0 62 15 y21) (fun m22 =>
  x_lt (((m22.1 0 1) + (1 : Int32)) - ((m22.1 0 1) + (1 : Int32)) / (8 : Int32) * (8 : Int32)) (fun y23 =>
  x_lt (x_si m22 0 1 y23) (fun m24 =>
  if ((8 : Int32) : Int32) ≤ (m24.1 0 2) then
  (m24)
  else (x_lt (x_si m24 0 2 ((m24.1 0 2) + (1 : Int32))) (fun m25 =>
  m25)))))))
  else (if (v0.1 0 1) = (5 : Int32) then
  (x_lt (f_X5_become (x_sub v0 77) v1) (fun y26 =>
  x_lt (x_put v0 77 15 y26) (fun m27 =>
  x_lt (((m27.1 0 1) + (1 : Int32)) - ((m27.1 0 1) + (1 : Int32)) / (8 : Int32) * (8 : Int32)) (fun y28 =>
  x_lt (x_si m27 0 1 y28) (fun m29 =>
  if ((8 : Int32) : Int32) ≤ (m29.1 0 2) then
  (m29)
  else (x_lt (x_si m29 0 2 ((m29.1 0 2) + (1 : Int32))) (fun m30 =>
  m30)))))))
  else (if (v0.1 0 1) = (6 : Int32) then
  (x_lt (f_X5_become (x_sub v0 92) v1) (fun y31 =>
  x_lt (x_put v0 92 15 y31) (fun m32 =>
  x_lt (((m32.1 0 1) + (1 : Int32)) - ((m32.1 0 1) + (1 : Int32)) / (8 : Int32) * (8 : Int32)) (fun y33 =>
  x_lt (x_si m32 0 1 y33) (fun m34 =>
  if ((8 : Int32) : Int32) ≤ (m34.1 0 2) then
  (m34)
  else (x_lt (x_si m34 0 2 ((m34.1 0 2) + (1 : Int32))) (fun m35 =>
  m35)))))))
  else (if (v0.1 0 1) = (7 : Int32) then
  (x_lt (f_X5_become (x_sub v0 107) v1) (fun y36 =>
  x_lt (x_put v0 107 15 y36) (fun m37 =>
  x_lt (((m37.1 0 1) + (1 : Int32)) - ((m37.1 0 1) + (1 : Int32)) / (8 : Int32) * (8 : Int32)) (fun y38 =>
  x_lt (x_si m37 0 1 y38) (fun m39 =>
  if ((8 : Int32) : Int32) ≤ (m39.1 0 2) then
  (m39)
  else (x_lt (x_si m39 0 2 ((m39.1 0 2) + (1 : Int32))) (fun m40 =>
  m40)))))))
  else (v0))))))))
set_option maxRecDepth 100000 in
set_option maxHeartbeats 4000000 in
theorem c_X1_keep {l : Launch}  {ad0 : Nat → Nat} {ad1 : Nat → Nat} {v0 v1 : XM}   {o : XM} (h : f_X1_keep v0 v1 = o) : CT l yX1_keep cX1_keep 3 none 3 [(shHistory, ad0), (shState, ad1)] [v0, v1] (fun aK => [.ref (ad0 0), .ref (ad1 0)]) none True [o, v1] := by
  refine CT_of (by decide) (fun _ => Nat.le_of_ble_eq_true rfl) ?_
  intro p e s m args below meth c D tc aK aV A X
  have X : Cx p s m args meth c cX1_keep 3 none RX1 D tc aK aV A [(shHistory, ad0), (shState, ad1)] := X
  show aW p l e (x_Rm 3) s m args below meth c D tc A 3 [(shHistory, ad0), (shState, ad1)] none True [o, v1] 0 [(0, .ref (ad0 0)), (1, .ref (ad1 0))] [] [v0, v1]
  unfold f_X1_keep at h
  refine a_aload_n (pc := 0) X 0 dX1_keep_0 rfl rfl ?_
  refine a_aload_n (pc := 1) X 0 dX1_keep_1 rfl rfl ?_
  refine a_getI (pc := 2) X 0 fl_RX1_22 rfl rfl rfl rfl dX1_keep_2 ?_
  by_cases c_5_0 : (v0.1 0 1) = (0 : Int32)
  · have h := x_ifp c_5_0 h
    refine a_ni c_5_0 ?_
    refine a_callV (pc := 5) (st2 := [.ref (ad0 2)]) (vs2 := [v0, v1]) X [(0, 0, 122)] [none] 0 0 1 [.int (0 : Int32)] [] cv_RX1_25 (c_X1_placeAt_0 (ad0 := ad0) (v0 := v0)) rfl rfl rfl rfl rfl rfl rfl rfl rfl rfl rfl rfl rfl rfl rfl (Nat.le_of_ble_eq_true rfl) ⟨Nat.le_of_ble_eq_true rfl, Nat.le_of_ble_eq_true rfl⟩ dX1_keep_5 (fun _ => ?_)
    refine a_astore_n (pc := 8) X [(2, .ref (ad0 2)), (0, .ref (ad0 0)), (1, .ref (ad1 0))] dX1_keep_8 rfl (by decide) rfl ?_
    refine a_aload_n (pc := 9) X 0 dX1_keep_9 rfl rfl ?_
    refine a_ifnonnull (pc := 10) X 14 dX1_keep_10 rfl ?_
    refine a_aload_n (pc := 14) X 0 dX1_keep_14 rfl rfl ?_
    refine a_aload_n (pc := 15) X 2 dX1_keep_15 rfl rfl ?_
    obtain ⟨y1, e_y1, h⟩ := x_lt_elim h
    refine a_callV (pc := 16) (st2 := []) (vs2 := [x_put v0 2 15 y1, v1]) X [(0, 2, 15), (1, 0, 15)] [some y1, none] 0 2 5 [.ref (ad1 0)] [] cv_RX1_29 (c_X5_become (ad0 := (fun i => ad0 (i + 2))) (ad1 := ad1)  e_y1) rfl rfl rfl rfl rfl rfl rfl rfl rfl rfl rfl rfl rfl rfl rfl (Nat.le_of_ble_eq_true rfl) ⟨Nat.le_of_ble_eq_true rfl, Nat.le_of_ble_eq_true rfl⟩ dX1_keep_16 (fun _ => ?_)
    obtain ⟨m2, e_m2, h⟩ := x_lt_elim h
    refine a_nm (vs2 := [m2, v1]) (congrArg (fun q : XM => [q, v1]) e_m2) ?_
    refine a_aload_n (pc := 19) X 1 dX1_keep_19 rfl rfl ?_
    refine a_aload_n (pc := 20) X 1 dX1_keep_20 rfl rfl ?_
    refine a_getI (pc := 21) X 0 fl_RX1_22 rfl rfl rfl rfl dX1_keep_21 ?_
    refine a_iconst (pc := 24) X dX1_keep_24 q_ic_1 ?_
    refine a_iadd (pc := 25) X dX1_keep_25 ?_
    refine a_bipush (pc := 26) X dX1_keep_26 q_bp_8 ?_
    refine a_irem (pc := 28) X (by decide) dX1_keep_28 ?_
    obtain ⟨y3, e_y3, h⟩ := x_lt_elim h
    refine a_ni e_y3 ?_
    refine a_putI (pc := 29) X 0 fl_RX1_22 rfl rfl rfl rfl dX1_keep_29 ?_
    obtain ⟨m4, e_m4, h⟩ := x_lt_elim h
    refine a_nm (vs2 := [m4, v1]) (congrArg (fun q : XM => [q, v1]) e_m4) ?_
    refine a_aload_n (pc := 32) X 1 dX1_keep_32 rfl rfl ?_
    refine a_getI (pc := 33) X 0 fl_RX1_18 rfl rfl rfl rfl dX1_keep_33 ?_
    refine a_bipush (pc := 36) X dX1_keep_36 q_bp_8 ?_
    refine a_icmp_ge (pc := 38) X 51 dX1_keep_38 rfl (fun c_38 => ?_) (fun c_38 => ?_)
    · have h := x_ifp c_38 h
      subst h
      exact a_vret (pc := 51) X trivial dX1_keep_51
    · have h := x_ifn c_38 h
      refine a_aload_n (pc := 41) X 1 dX1_keep_41 rfl rfl ?_
      refine a_dup (pc := 42) X dX1_keep_42 rfl ?_
      refine a_getI (pc := 43) X 0 fl_RX1_18 rfl rfl rfl rfl dX1_keep_43 ?_
      refine a_iconst (pc := 46) X dX1_keep_46 q_ic_1 ?_
      refine a_iadd (pc := 47) X dX1_keep_47 ?_
      refine a_putI (pc := 48) X 0 fl_RX1_18 rfl rfl rfl rfl dX1_keep_48 ?_
      obtain ⟨m5, e_m5, h⟩ := x_lt_elim h
      refine a_nm (vs2 := [m5, v1]) (congrArg (fun q : XM => [q, v1]) e_m5) ?_
      subst h
      exact a_vret (pc := 51) X trivial dX1_keep_51
  · have h := x_ifn c_5_0 h
    by_cases c_5_1 : (v0.1 0 1) = (1 : Int32)
    · have h := x_ifp c_5_1 h
      refine a_ni c_5_1 ?_
      refine a_callV (pc := 5) (st2 := [.ref (ad0 17)]) (vs2 := [v0, v1]) X [(0, 0, 122)] [none] 0 0 1 [.int (1 : Int32)] [] cv_RX1_25 (c_X1_placeAt_1 (ad0 := ad0) (v0 := v0)) rfl rfl rfl rfl rfl rfl rfl rfl rfl rfl rfl rfl rfl rfl rfl (Nat.le_of_ble_eq_true rfl) ⟨Nat.le_of_ble_eq_true rfl, Nat.le_of_ble_eq_true rfl⟩ dX1_keep_5 (fun _ => ?_)
      refine a_astore_n (pc := 8) X [(2, .ref (ad0 17)), (0, .ref (ad0 0)), (1, .ref (ad1 0))] dX1_keep_8 rfl (by decide) rfl ?_
      refine a_aload_n (pc := 9) X 0 dX1_keep_9 rfl rfl ?_
      refine a_ifnonnull (pc := 10) X 14 dX1_keep_10 rfl ?_
      refine a_aload_n (pc := 14) X 0 dX1_keep_14 rfl rfl ?_
      refine a_aload_n (pc := 15) X 2 dX1_keep_15 rfl rfl ?_
      obtain ⟨y6, e_y6, h⟩ := x_lt_elim h
      refine a_callV (pc := 16) (st2 := []) (vs2 := [x_put v0 17 15 y6, v1]) X [(0, 17, 15), (1, 0, 15)] [some y6, none] 0 17 5 [.ref (ad1 0)] [] cv_RX1_29 (c_X5_become (ad0 := (fun i => ad0 (i + 17))) (ad1 := ad1)  e_y6) rfl rfl rfl rfl rfl rfl rfl rfl rfl rfl rfl rfl rfl rfl rfl (Nat.le_of_ble_eq_true rfl) ⟨Nat.le_of_ble_eq_true rfl, Nat.le_of_ble_eq_true rfl⟩ dX1_keep_16 (fun _ => ?_)
      obtain ⟨m7, e_m7, h⟩ := x_lt_elim h
      refine a_nm (vs2 := [m7, v1]) (congrArg (fun q : XM => [q, v1]) e_m7) ?_
      refine a_aload_n (pc := 19) X 1 dX1_keep_19 rfl rfl ?_
      refine a_aload_n (pc := 20) X 1 dX1_keep_20 rfl rfl ?_
      refine a_getI (pc := 21) X 0 fl_RX1_22 rfl rfl rfl rfl dX1_keep_21 ?_
      refine a_iconst (pc := 24) X dX1_keep_24 q_ic_1 ?_
      refine a_iadd (pc := 25) X dX1_keep_25 ?_
      refine a_bipush (pc := 26) X dX1_keep_26 q_bp_8 ?_
      refine a_irem (pc := 28) X (by decide) dX1_keep_28 ?_
      obtain ⟨y8, e_y8, h⟩ := x_lt_elim h
      refine a_ni e_y8 ?_
      refine a_putI (pc := 29) X 0 fl_RX1_22 rfl rfl rfl rfl dX1_keep_29 ?_
      obtain ⟨m9, e_m9, h⟩ := x_lt_elim h
      refine a_nm (vs2 := [m9, v1]) (congrArg (fun q : XM => [q, v1]) e_m9) ?_
      refine a_aload_n (pc := 32) X 1 dX1_keep_32 rfl rfl ?_
      refine a_getI (pc := 33) X 0 fl_RX1_18 rfl rfl rfl rfl dX1_keep_33 ?_
      refine a_bipush (pc := 36) X dX1_keep_36 q_bp_8 ?_
      refine a_icmp_ge (pc := 38) X 51 dX1_keep_38 rfl (fun c_38 => ?_) (fun c_38 => ?_)
      · have h := x_ifp c_38 h
        subst h
        exact a_vret (pc := 51) X trivial dX1_keep_51
      · have h := x_ifn c_38 h
        refine a_aload_n (pc := 41) X 1 dX1_keep_41 rfl rfl ?_
        refine a_dup (pc := 42) X dX1_keep_42 rfl ?_
        refine a_getI (pc := 43) X 0 fl_RX1_18 rfl rfl rfl rfl dX1_keep_43 ?_
        refine a_iconst (pc := 46) X dX1_keep_46 q_ic_1 ?_
        refine a_iadd (pc := 47) X dX1_keep_47 ?_
        refine a_putI (pc := 48) X 0 fl_RX1_18 rfl rfl rfl rfl dX1_keep_48 ?_
        obtain ⟨m10, e_m10, h⟩ := x_lt_elim h
        refine a_nm (vs2 := [m10, v1]) (congrArg (fun q : XM => [q, v1]) e_m10) ?_
        subst h
        exact a_vret (pc := 51) X trivial dX1_keep_51
    · have h := x_ifn c_5_1 h
      by_cases c_5_2 : (v0.1 0 1) = (2 : Int32)
      · have h := x_ifp c_5_2 h
        refine a_ni c_5_2 ?_
        refine a_callV (pc := 5) (st2 := [.ref (ad0 32)]) (vs2 := [v0, v1]) X [(0, 0, 122)] [none] 0 0 1 [.int (2 : Int32)] [] cv_RX1_25 (c_X1_placeAt_2 (ad0 := ad0) (v0 := v0)) rfl rfl rfl rfl rfl rfl rfl rfl rfl rfl rfl rfl rfl rfl rfl (Nat.le_of_ble_eq_true rfl) ⟨Nat.le_of_ble_eq_true rfl, Nat.le_of_ble_eq_true rfl⟩ dX1_keep_5 (fun _ => ?_)
        refine a_astore_n (pc := 8) X [(2, .ref (ad0 32)), (0, .ref (ad0 0)), (1, .ref (ad1 0))] dX1_keep_8 rfl (by decide) rfl ?_
        refine a_aload_n (pc := 9) X 0 dX1_keep_9 rfl rfl ?_
        refine a_ifnonnull (pc := 10) X 14 dX1_keep_10 rfl ?_
        refine a_aload_n (pc := 14) X 0 dX1_keep_14 rfl rfl ?_
        refine a_aload_n (pc := 15) X 2 dX1_keep_15 rfl rfl ?_
        obtain ⟨y11, e_y11, h⟩ := x_lt_elim h
        refine a_callV (pc := 16) (st2 := []) (vs2 := [x_put v0 32 15 y11, v1]) X [(0, 32, 15), (1, 0, 15)] [some y11, none] 0 32 5 [.ref (ad1 0)] [] cv_RX1_29 (c_X5_become (ad0 := (fun i => ad0 (i + 32))) (ad1 := ad1)  e_y11) rfl rfl rfl rfl rfl rfl rfl rfl rfl rfl rfl rfl rfl rfl rfl (Nat.le_of_ble_eq_true rfl) ⟨Nat.le_of_ble_eq_true rfl, Nat.le_of_ble_eq_true rfl⟩ dX1_keep_16 (fun _ => ?_)
        obtain ⟨m12, e_m12, h⟩ := x_lt_elim h
        refine a_nm (vs2 := [m12, v1]) (congrArg (fun q : XM => [q, v1]) e_m12) ?_
        refine a_aload_n (pc := 19) X 1 dX1_keep_19 rfl rfl ?_
        refine a_aload_n (pc := 20) X 1 dX1_keep_20 rfl rfl ?_
        refine a_getI (pc := 21) X 0 fl_RX1_22 rfl rfl rfl rfl dX1_keep_21 ?_
        refine a_iconst (pc := 24) X dX1_keep_24 q_ic_1 ?_
        refine a_iadd (pc := 25) X dX1_keep_25 ?_
        refine a_bipush (pc := 26) X dX1_keep_26 q_bp_8 ?_
        refine a_irem (pc := 28) X (by decide) dX1_keep_28 ?_
        obtain ⟨y13, e_y13, h⟩ := x_lt_elim h
        refine a_ni e_y13 ?_
        refine a_putI (pc := 29) X 0 fl_RX1_22 rfl rfl rfl rfl dX1_keep_29 ?_
        obtain ⟨m14, e_m14, h⟩ := x_lt_elim h
        refine a_nm (vs2 := [m14, v1]) (congrArg (fun q : XM => [q, v1]) e_m14) ?_
        refine a_aload_n (pc := 32) X 1 dX1_keep_32 rfl rfl ?_
        refine a_getI (pc := 33) X 0 fl_RX1_18 rfl rfl rfl rfl dX1_keep_33 ?_
        refine a_bipush (pc := 36) X dX1_keep_36 q_bp_8 ?_
        refine a_icmp_ge (pc := 38) X 51 dX1_keep_38 rfl (fun c_38 => ?_) (fun c_38 => ?_)
        · have h := x_ifp c_38 h
          subst h
          exact a_vret (pc := 51) X trivial dX1_keep_51
        · have h := x_ifn c_38 h
          refine a_aload_n (pc := 41) X 1 dX1_keep_41 rfl rfl ?_
          refine a_dup (pc := 42) X dX1_keep_42 rfl ?_
          refine a_getI (pc := 43) X 0 fl_RX1_18 rfl rfl rfl rfl dX1_keep_43 ?_
          refine a_iconst (pc := 46) X dX1_keep_46 q_ic_1 ?_
          refine a_iadd (pc := 47) X dX1_keep_47 ?_
          refine a_putI (pc := 48) X 0 fl_RX1_18 rfl rfl rfl rfl dX1_keep_48 ?_
          obtain ⟨m15, e_m15, h⟩ := x_lt_elim h
          refine a_nm (vs2 := [m15, v1]) (congrArg (fun q : XM => [q, v1]) e_m15) ?_
          subst h
          exact a_vret (pc := 51) X trivial dX1_keep_51
      · have h := x_ifn c_5_2 h
        by_cases c_5_3 : (v0.1 0 1) = (3 : Int32)
        · have h := x_ifp c_5_3 h
          refine a_ni c_5_3 ?_
          refine a_callV (pc := 5) (st2 := [.ref (ad0 47)]) (vs2 := [v0, v1]) X [(0, 0, 122)] [none] 0 0 1 [.int (3 : Int32)] [] cv_RX1_25 (c_X1_placeAt_3 (ad0 := ad0) (v0 := v0)) rfl rfl rfl rfl rfl rfl rfl rfl rfl rfl rfl rfl rfl rfl rfl (Nat.le_of_ble_eq_true rfl) ⟨Nat.le_of_ble_eq_true rfl, Nat.le_of_ble_eq_true rfl⟩ dX1_keep_5 (fun _ => ?_)
          refine a_astore_n (pc := 8) X [(2, .ref (ad0 47)), (0, .ref (ad0 0)), (1, .ref (ad1 0))] dX1_keep_8 rfl (by decide) rfl ?_
          refine a_aload_n (pc := 9) X 0 dX1_keep_9 rfl rfl ?_
          refine a_ifnonnull (pc := 10) X 14 dX1_keep_10 rfl ?_
          refine a_aload_n (pc := 14) X 0 dX1_keep_14 rfl rfl ?_
          refine a_aload_n (pc := 15) X 2 dX1_keep_15 rfl rfl ?_
          obtain ⟨y16, e_y16, h⟩ := x_lt_elim h
          refine a_callV (pc := 16) (st2 := []) (vs2 := [x_put v0 47 15 y16, v1]) X [(0, 47, 15), (1, 0, 15)] [some y16, none] 0 47 5 [.ref (ad1 0)] [] cv_RX1_29 (c_X5_become (ad0 := (fun i => ad0 (i + 47))) (ad1 := ad1)  e_y16) rfl rfl rfl rfl rfl rfl rfl rfl rfl rfl rfl rfl rfl rfl rfl (Nat.le_of_ble_eq_true rfl) ⟨Nat.le_of_ble_eq_true rfl, Nat.le_of_ble_eq_true rfl⟩ dX1_keep_16 (fun _ => ?_)
          obtain ⟨m17, e_m17, h⟩ := x_lt_elim h
          refine a_nm (vs2 := [m17, v1]) (congrArg (fun q : XM => [q, v1]) e_m17) ?_
          refine a_aload_n (pc := 19) X 1 dX1_keep_19 rfl rfl ?_
          refine a_aload_n (pc := 20) X 1 dX1_keep_20 rfl rfl ?_
          refine a_getI (pc := 21) X 0 fl_RX1_22 rfl rfl rfl rfl dX1_keep_21 ?_
          refine a_iconst (pc := 24) X dX1_keep_24 q_ic_1 ?_
          refine a_iadd (pc := 25) X dX1_keep_25 ?_
          refine a_bipush (pc := 26) X dX1_keep_26 q_bp_8 ?_
          refine a_irem (pc := 28) X (by decide) dX1_keep_28 ?_
          obtain ⟨y18, e_y18, h⟩ := x_lt_elim h
          refine a_ni e_y18 ?_
          refine a_putI (pc := 29) X 0 fl_RX1_22 rfl rfl rfl rfl dX1_keep_29 ?_
          obtain ⟨m19, e_m19, h⟩ := x_lt_elim h
          refine a_nm (vs2 := [m19, v1]) (congrArg (fun q : XM => [q, v1]) e_m19) ?_
          refine a_aload_n (pc := 32) X 1 dX1_keep_32 rfl rfl ?_
          refine a_getI (pc := 33) X 0 fl_RX1_18 rfl rfl rfl rfl dX1_keep_33 ?_
          refine a_bipush (pc := 36) X dX1_keep_36 q_bp_8 ?_
          refine a_icmp_ge (pc := 38) X 51 dX1_keep_38 rfl (fun c_38 => ?_) (fun c_38 => ?_)
          · have h := x_ifp c_38 h
            subst h
            exact a_vret (pc := 51) X trivial dX1_keep_51
          · have h := x_ifn c_38 h
            refine a_aload_n (pc := 41) X 1 dX1_keep_41 rfl rfl ?_
            refine a_dup (pc := 42) X dX1_keep_42 rfl ?_
            refine a_getI (pc := 43) X 0 fl_RX1_18 rfl rfl rfl rfl dX1_keep_43 ?_
            refine a_iconst (pc := 46) X dX1_keep_46 q_ic_1 ?_
            refine a_iadd (pc := 47) X dX1_keep_47 ?_
            refine a_putI (pc := 48) X 0 fl_RX1_18 rfl rfl rfl rfl dX1_keep_48 ?_
            obtain ⟨m20, e_m20, h⟩ := x_lt_elim h
            refine a_nm (vs2 := [m20, v1]) (congrArg (fun q : XM => [q, v1]) e_m20) ?_
            subst h
            exact a_vret (pc := 51) X trivial dX1_keep_51
        · have h := x_ifn c_5_3 h
          by_cases c_5_4 : (v0.1 0 1) = (4 : Int32)
          · have h := x_ifp c_5_4 h
            refine a_ni c_5_4 ?_
            refine a_callV (pc := 5) (st2 := [.ref (ad0 62)]) (vs2 := [v0, v1]) X [(0, 0, 122)] [none] 0 0 1 [.int (4 : Int32)] [] cv_RX1_25 (c_X1_placeAt_4 (ad0 := ad0) (v0 := v0)) rfl rfl rfl rfl rfl rfl rfl rfl rfl rfl rfl rfl rfl rfl rfl (Nat.le_of_ble_eq_true rfl) ⟨Nat.le_of_ble_eq_true rfl, Nat.le_of_ble_eq_true rfl⟩ dX1_keep_5 (fun _ => ?_)
            refine a_astore_n (pc := 8) X [(2, .ref (ad0 62)), (0, .ref (ad0 0)), (1, .ref (ad1 0))] dX1_keep_8 rfl (by decide) rfl ?_
            refine a_aload_n (pc := 9) X 0 dX1_keep_9 rfl rfl ?_
            refine a_ifnonnull (pc := 10) X 14 dX1_keep_10 rfl ?_
            refine a_aload_n (pc := 14) X 0 dX1_keep_14 rfl rfl ?_
            refine a_aload_n (pc := 15) X 2 dX1_keep_15 rfl rfl ?_
            obtain ⟨y21, e_y21, h⟩ := x_lt_elim h
            refine a_callV (pc := 16) (st2 := []) (vs2 := [x_put v0 62 15 y21, v1]) X [(0, 62, 15), (1, 0, 15)] [some y21, none] 0 62 5 [.ref (ad1 0)] [] cv_RX1_29 (c_X5_become (ad0 := (fun i => ad0 (i + 62))) (ad1 := ad1)  e_y21) rfl rfl rfl rfl rfl rfl rfl rfl rfl rfl rfl rfl rfl rfl rfl (Nat.le_of_ble_eq_true rfl) ⟨Nat.le_of_ble_eq_true rfl, Nat.le_of_ble_eq_true rfl⟩ dX1_keep_16 (fun _ => ?_)
            obtain ⟨m22, e_m22, h⟩ := x_lt_elim h
            refine a_nm (vs2 := [m22, v1]) (congrArg (fun q : XM => [q, v1]) e_m22) ?_
            refine a_aload_n (pc := 19) X 1 dX1_keep_19 rfl rfl ?_
            refine a_aload_n (pc := 20) X 1 dX1_keep_20 rfl rfl ?_
            refine a_getI (pc := 21) X 0 fl_RX1_22 rfl rfl rfl rfl dX1_keep_21 ?_
            refine a_iconst (pc := 24) X dX1_keep_24 q_ic_1 ?_
            refine a_iadd (pc := 25) X dX1_keep_25 ?_
            refine a_bipush (pc := 26) X dX1_keep_26 q_bp_8 ?_
            refine a_irem (pc := 28) X (by decide) dX1_keep_28 ?_
            obtain ⟨y23, e_y23, h⟩ := x_lt_elim h
            refine a_ni e_y23 ?_
            refine a_putI (pc := 29) X 0 fl_RX1_22 rfl rfl rfl rfl dX1_keep_29 ?_
            obtain ⟨m24, e_m24, h⟩ := x_lt_elim h
            refine a_nm (vs2 := [m24, v1]) (congrArg (fun q : XM => [q, v1]) e_m24) ?_
            refine a_aload_n (pc := 32) X 1 dX1_keep_32 rfl rfl ?_
            refine a_getI (pc := 33) X 0 fl_RX1_18 rfl rfl rfl rfl dX1_keep_33 ?_
            refine a_bipush (pc := 36) X dX1_keep_36 q_bp_8 ?_
            refine a_icmp_ge (pc := 38) X 51 dX1_keep_38 rfl (fun c_38 => ?_) (fun c_38 => ?_)
            · have h := x_ifp c_38 h
              subst h
              exact a_vret (pc := 51) X trivial dX1_keep_51
            · have h := x_ifn c_38 h
              refine a_aload_n (pc := 41) X 1 dX1_keep_41 rfl rfl ?_
              refine a_dup (pc := 42) X dX1_keep_42 rfl ?_
              refine a_getI (pc := 43) X 0 fl_RX1_18 rfl rfl rfl rfl dX1_keep_43 ?_
              refine a_iconst (pc := 46) X dX1_keep_46 q_ic_1 ?_
              refine a_iadd (pc := 47) X dX1_keep_47 ?_
              refine a_putI (pc := 48) X 0 fl_RX1_18 rfl rfl rfl rfl dX1_keep_48 ?_
              obtain ⟨m25, e_m25, h⟩ := x_lt_elim h
              refine a_nm (vs2 := [m25, v1]) (congrArg (fun q : XM => [q, v1]) e_m25) ?_
              subst h
              exact a_vret (pc := 51) X trivial dX1_keep_51
          · have h := x_ifn c_5_4 h
            by_cases c_5_5 : (v0.1 0 1) = (5 : Int32)
            · have h := x_ifp c_5_5 h
              refine a_ni c_5_5 ?_
              refine a_callV (pc := 5) (st2 := [.ref (ad0 77)]) (vs2 := [v0, v1]) X [(0, 0, 122)] [none] 0 0 1 [.int (5 : Int32)] [] cv_RX1_25 (c_X1_placeAt_5 (ad0 := ad0) (v0 := v0)) rfl rfl rfl rfl rfl rfl rfl rfl rfl rfl rfl rfl rfl rfl rfl (Nat.le_of_ble_eq_true rfl) ⟨Nat.le_of_ble_eq_true rfl, Nat.le_of_ble_eq_true rfl⟩ dX1_keep_5 (fun _ => ?_)
              refine a_astore_n (pc := 8) X [(2, .ref (ad0 77)), (0, .ref (ad0 0)), (1, .ref (ad1 0))] dX1_keep_8 rfl (by decide) rfl ?_
              refine a_aload_n (pc := 9) X 0 dX1_keep_9 rfl rfl ?_
              refine a_ifnonnull (pc := 10) X 14 dX1_keep_10 rfl ?_
              refine a_aload_n (pc := 14) X 0 dX1_keep_14 rfl rfl ?_
              refine a_aload_n (pc := 15) X 2 dX1_keep_15 rfl rfl ?_
              obtain ⟨y26, e_y26, h⟩ := x_lt_elim h
              refine a_callV (pc := 16) (st2 := []) (vs2 := [x_put v0 77 15 y26, v1]) X [(0, 77, 15), (1, 0, 15)] [some y26, none] 0 77 5 [.ref (ad1 0)] [] cv_RX1_29 (c_X5_become (ad0 := (fun i => ad0 (i + 77))) (ad1 := ad1)  e_y26) rfl rfl rfl rfl rfl rfl rfl rfl rfl rfl rfl rfl rfl rfl rfl (Nat.le_of_ble_eq_true rfl) ⟨Nat.le_of_ble_eq_true rfl, Nat.le_of_ble_eq_true rfl⟩ dX1_keep_16 (fun _ => ?_)
              obtain ⟨m27, e_m27, h⟩ := x_lt_elim h
              refine a_nm (vs2 := [m27, v1]) (congrArg (fun q : XM => [q, v1]) e_m27) ?_
              refine a_aload_n (pc := 19) X 1 dX1_keep_19 rfl rfl ?_
              refine a_aload_n (pc := 20) X 1 dX1_keep_20 rfl rfl ?_
              refine a_getI (pc := 21) X 0 fl_RX1_22 rfl rfl rfl rfl dX1_keep_21 ?_
              refine a_iconst (pc := 24) X dX1_keep_24 q_ic_1 ?_
              refine a_iadd (pc := 25) X dX1_keep_25 ?_
              refine a_bipush (pc := 26) X dX1_keep_26 q_bp_8 ?_
              refine a_irem (pc := 28) X (by decide) dX1_keep_28 ?_
              obtain ⟨y28, e_y28, h⟩ := x_lt_elim h
              refine a_ni e_y28 ?_
              refine a_putI (pc := 29) X 0 fl_RX1_22 rfl rfl rfl rfl dX1_keep_29 ?_
              obtain ⟨m29, e_m29, h⟩ := x_lt_elim h
              refine a_nm (vs2 := [m29, v1]) (congrArg (fun q : XM => [q, v1]) e_m29) ?_
              refine a_aload_n (pc := 32) X 1 dX1_keep_32 rfl rfl ?_
              refine a_getI (pc := 33) X 0 fl_RX1_18 rfl rfl rfl rfl dX1_keep_33 ?_
              refine a_bipush (pc := 36) X dX1_keep_36 q_bp_8 ?_
              refine a_icmp_ge (pc := 38) X 51 dX1_keep_38 rfl (fun c_38 => ?_) (fun c_38 => ?_)
              · have h := x_ifp c_38 h
                subst h
                exact a_vret (pc := 51) X trivial dX1_keep_51
              · have h := x_ifn c_38 h
                refine a_aload_n (pc := 41) X 1 dX1_keep_41 rfl rfl ?_
                refine a_dup (pc := 42) X dX1_keep_42 rfl ?_
                refine a_getI (pc := 43) X 0 fl_RX1_18 rfl rfl rfl rfl dX1_keep_43 ?_
                refine a_iconst (pc := 46) X dX1_keep_46 q_ic_1 ?_
                refine a_iadd (pc := 47) X dX1_keep_47 ?_
                refine a_putI (pc := 48) X 0 fl_RX1_18 rfl rfl rfl rfl dX1_keep_48 ?_
                obtain ⟨m30, e_m30, h⟩ := x_lt_elim h
                refine a_nm (vs2 := [m30, v1]) (congrArg (fun q : XM => [q, v1]) e_m30) ?_
                subst h
                exact a_vret (pc := 51) X trivial dX1_keep_51
            · have h := x_ifn c_5_5 h
              by_cases c_5_6 : (v0.1 0 1) = (6 : Int32)
              · have h := x_ifp c_5_6 h
                refine a_ni c_5_6 ?_
                refine a_callV (pc := 5) (st2 := [.ref (ad0 92)]) (vs2 := [v0, v1]) X [(0, 0, 122)] [none] 0 0 1 [.int (6 : Int32)] [] cv_RX1_25 (c_X1_placeAt_6 (ad0 := ad0) (v0 := v0)) rfl rfl rfl rfl rfl rfl rfl rfl rfl rfl rfl rfl rfl rfl rfl (Nat.le_of_ble_eq_true rfl) ⟨Nat.le_of_ble_eq_true rfl, Nat.le_of_ble_eq_true rfl⟩ dX1_keep_5 (fun _ => ?_)
                refine a_astore_n (pc := 8) X [(2, .ref (ad0 92)), (0, .ref (ad0 0)), (1, .ref (ad1 0))] dX1_keep_8 rfl (by decide) rfl ?_
                refine a_aload_n (pc := 9) X 0 dX1_keep_9 rfl rfl ?_
                refine a_ifnonnull (pc := 10) X 14 dX1_keep_10 rfl ?_
                refine a_aload_n (pc := 14) X 0 dX1_keep_14 rfl rfl ?_
                refine a_aload_n (pc := 15) X 2 dX1_keep_15 rfl rfl ?_
                obtain ⟨y31, e_y31, h⟩ := x_lt_elim h
                refine a_callV (pc := 16) (st2 := []) (vs2 := [x_put v0 92 15 y31, v1]) X [(0, 92, 15), (1, 0, 15)] [some y31, none] 0 92 5 [.ref (ad1 0)] [] cv_RX1_29 (c_X5_become (ad0 := (fun i => ad0 (i + 92))) (ad1 := ad1)  e_y31) rfl rfl rfl rfl rfl rfl rfl rfl rfl rfl rfl rfl rfl rfl rfl (Nat.le_of_ble_eq_true rfl) ⟨Nat.le_of_ble_eq_true rfl, Nat.le_of_ble_eq_true rfl⟩ dX1_keep_16 (fun _ => ?_)
                obtain ⟨m32, e_m32, h⟩ := x_lt_elim h
                refine a_nm (vs2 := [m32, v1]) (congrArg (fun q : XM => [q, v1]) e_m32) ?_
                refine a_aload_n (pc := 19) X 1 dX1_keep_19 rfl rfl ?_
                refine a_aload_n (pc := 20) X 1 dX1_keep_20 rfl rfl ?_
                refine a_getI (pc := 21) X 0 fl_RX1_22 rfl rfl rfl rfl dX1_keep_21 ?_
                refine a_iconst (pc := 24) X dX1_keep_24 q_ic_1 ?_
                refine a_iadd (pc := 25) X dX1_keep_25 ?_
                refine a_bipush (pc := 26) X dX1_keep_26 q_bp_8 ?_
                refine a_irem (pc := 28) X (by decide) dX1_keep_28 ?_
                obtain ⟨y33, e_y33, h⟩ := x_lt_elim h
                refine a_ni e_y33 ?_
                refine a_putI (pc := 29) X 0 fl_RX1_22 rfl rfl rfl rfl dX1_keep_29 ?_
                obtain ⟨m34, e_m34, h⟩ := x_lt_elim h
                refine a_nm (vs2 := [m34, v1]) (congrArg (fun q : XM => [q, v1]) e_m34) ?_
                refine a_aload_n (pc := 32) X 1 dX1_keep_32 rfl rfl ?_
                refine a_getI (pc := 33) X 0 fl_RX1_18 rfl rfl rfl rfl dX1_keep_33 ?_
                refine a_bipush (pc := 36) X dX1_keep_36 q_bp_8 ?_
                refine a_icmp_ge (pc := 38) X 51 dX1_keep_38 rfl (fun c_38 => ?_) (fun c_38 => ?_)
                · have h := x_ifp c_38 h
                  subst h
                  exact a_vret (pc := 51) X trivial dX1_keep_51
                · have h := x_ifn c_38 h
                  refine a_aload_n (pc := 41) X 1 dX1_keep_41 rfl rfl ?_
                  refine a_dup (pc := 42) X dX1_keep_42 rfl ?_
                  refine a_getI (pc := 43) X 0 fl_RX1_18 rfl rfl rfl rfl dX1_keep_43 ?_
                  refine a_iconst (pc := 46) X dX1_keep_46 q_ic_1 ?_
                  refine a_iadd (pc := 47) X dX1_keep_47 ?_
                  refine a_putI (pc := 48) X 0 fl_RX1_18 rfl rfl rfl rfl dX1_keep_48 ?_
                  obtain ⟨m35, e_m35, h⟩ := x_lt_elim h
                  refine a_nm (vs2 := [m35, v1]) (congrArg (fun q : XM => [q, v1]) e_m35) ?_
                  subst h
                  exact a_vret (pc := 51) X trivial dX1_keep_51
              · have h := x_ifn c_5_6 h
                by_cases c_5_7 : (v0.1 0 1) = (7 : Int32)
                · have h := x_ifp c_5_7 h
                  refine a_ni c_5_7 ?_
                  refine a_callV (pc := 5) (st2 := [.ref (ad0 107)]) (vs2 := [v0, v1]) X [(0, 0, 122)] [none] 0 0 1 [.int (7 : Int32)] [] cv_RX1_25 (c_X1_placeAt_7 (ad0 := ad0) (v0 := v0)) rfl rfl rfl rfl rfl rfl rfl rfl rfl rfl rfl rfl rfl rfl rfl (Nat.le_of_ble_eq_true rfl) ⟨Nat.le_of_ble_eq_true rfl, Nat.le_of_ble_eq_true rfl⟩ dX1_keep_5 (fun _ => ?_)
                  refine a_astore_n (pc := 8) X [(2, .ref (ad0 107)), (0, .ref (ad0 0)), (1, .ref (ad1 0))] dX1_keep_8 rfl (by decide) rfl ?_
                  refine a_aload_n (pc := 9) X 0 dX1_keep_9 rfl rfl ?_
                  refine a_ifnonnull (pc := 10) X 14 dX1_keep_10 rfl ?_
                  refine a_aload_n (pc := 14) X 0 dX1_keep_14 rfl rfl ?_
                  refine a_aload_n (pc := 15) X 2 dX1_keep_15 rfl rfl ?_
                  obtain ⟨y36, e_y36, h⟩ := x_lt_elim h
                  refine a_callV (pc := 16) (st2 := []) (vs2 := [x_put v0 107 15 y36, v1]) X [(0, 107, 15), (1, 0, 15)] [some y36, none] 0 107 5 [.ref (ad1 0)] [] cv_RX1_29 (c_X5_become (ad0 := (fun i => ad0 (i + 107))) (ad1 := ad1)  e_y36) rfl rfl rfl rfl rfl rfl rfl rfl rfl rfl rfl rfl rfl rfl rfl (Nat.le_of_ble_eq_true rfl) ⟨Nat.le_of_ble_eq_true rfl, Nat.le_of_ble_eq_true rfl⟩ dX1_keep_16 (fun _ => ?_)
                  obtain ⟨m37, e_m37, h⟩ := x_lt_elim h
                  refine a_nm (vs2 := [m37, v1]) (congrArg (fun q : XM => [q, v1]) e_m37) ?_
                  refine a_aload_n (pc := 19) X 1 dX1_keep_19 rfl rfl ?_
                  refine a_aload_n (pc := 20) X 1 dX1_keep_20 rfl rfl ?_
                  refine a_getI (pc := 21) X 0 fl_RX1_22 rfl rfl rfl rfl dX1_keep_21 ?_
                  refine a_iconst (pc := 24) X dX1_keep_24 q_ic_1 ?_
                  refine a_iadd (pc := 25) X dX1_keep_25 ?_
                  refine a_bipush (pc := 26) X dX1_keep_26 q_bp_8 ?_
                  refine a_irem (pc := 28) X (by decide) dX1_keep_28 ?_
                  obtain ⟨y38, e_y38, h⟩ := x_lt_elim h
                  refine a_ni e_y38 ?_
                  refine a_putI (pc := 29) X 0 fl_RX1_22 rfl rfl rfl rfl dX1_keep_29 ?_
                  obtain ⟨m39, e_m39, h⟩ := x_lt_elim h
                  refine a_nm (vs2 := [m39, v1]) (congrArg (fun q : XM => [q, v1]) e_m39) ?_
                  refine a_aload_n (pc := 32) X 1 dX1_keep_32 rfl rfl ?_
                  refine a_getI (pc := 33) X 0 fl_RX1_18 rfl rfl rfl rfl dX1_keep_33 ?_
                  refine a_bipush (pc := 36) X dX1_keep_36 q_bp_8 ?_
                  refine a_icmp_ge (pc := 38) X 51 dX1_keep_38 rfl (fun c_38 => ?_) (fun c_38 => ?_)
                  · have h := x_ifp c_38 h
                    subst h
                    exact a_vret (pc := 51) X trivial dX1_keep_51
                  · have h := x_ifn c_38 h
                    refine a_aload_n (pc := 41) X 1 dX1_keep_41 rfl rfl ?_
                    refine a_dup (pc := 42) X dX1_keep_42 rfl ?_
                    refine a_getI (pc := 43) X 0 fl_RX1_18 rfl rfl rfl rfl dX1_keep_43 ?_
                    refine a_iconst (pc := 46) X dX1_keep_46 q_ic_1 ?_
                    refine a_iadd (pc := 47) X dX1_keep_47 ?_
                    refine a_putI (pc := 48) X 0 fl_RX1_18 rfl rfl rfl rfl dX1_keep_48 ?_
                    obtain ⟨m40, e_m40, h⟩ := x_lt_elim h
                    refine a_nm (vs2 := [m40, v1]) (congrArg (fun q : XM => [q, v1]) e_m40) ?_
                    subst h
                    exact a_vret (pc := 51) X trivial dX1_keep_51
                · have h := x_ifn c_5_7 h
                  refine a_callV (pc := 5) (st2 := [.null]) (vs2 := [v0, v1]) X [(0, 0, 122)] [none] 0 0 1 [.int (v0.1 0 1)] [] cv_RX1_25 (c_X1_placeAt_N (ad0 := ad0) (v0 := v0) c_5_0 c_5_1 c_5_2 c_5_3 c_5_4 c_5_5 c_5_6 c_5_7) rfl rfl rfl rfl rfl rfl rfl rfl rfl rfl rfl rfl rfl rfl rfl (Nat.le_of_ble_eq_true rfl) ⟨Nat.le_of_ble_eq_true rfl, Nat.le_of_ble_eq_true rfl⟩ dX1_keep_5 (fun _ => ?_)
                  refine a_astore_nN (pc := 8) X [(2, .null), (0, .ref (ad0 0)), (1, .ref (ad1 0))] dX1_keep_8 rfl (by decide) rfl ?_
                  refine a_aload_nN (pc := 9) X 0 dX1_keep_9 rfl rfl ?_
                  refine a_ifnonnullN (pc := 10) X dX1_keep_10 ?_
                  subst h
                  exact a_vret (pc := 13) X trivial dX1_keep_13
theorem dX1_takeBack_0 : decode cX1_takeBack 0 = .ok (.aload_n 0, 1) := by decide +kernel
theorem dX1_takeBack_1 : decode cX1_takeBack 1 = .ok (.getfield 22, 3) := by decide +kernel
theorem dX1_takeBack_4 : decode cX1_takeBack 4 = .ok (.bipush 8, 2) := by decide +kernel
theorem dX1_takeBack_6 : decode cX1_takeBack 6 = .ok (.iadd, 1) := by decide +kernel
theorem dX1_takeBack_7 : decode cX1_takeBack 7 = .ok (.iconst 1, 1) := by decide +kernel
theorem dX1_takeBack_8 : decode cX1_takeBack 8 = .ok (.isub, 1) := by decide +kernel
theorem dX1_takeBack_9 : decode cX1_takeBack 9 = .ok (.bipush 8, 2) := by decide +kernel
theorem dX1_takeBack_11 : decode cX1_takeBack 11 = .ok (.irem, 1) := by decide +kernel
theorem dX1_takeBack_12 : decode cX1_takeBack 12 = .ok (.istore_n 2, 1) := by decide +kernel
theorem dX1_takeBack_13 : decode cX1_takeBack 13 = .ok (.aload_n 0, 1) := by decide +kernel
theorem dX1_takeBack_14 : decode cX1_takeBack 14 = .ok (.iload_n 2, 1) := by decide +kernel
theorem dX1_takeBack_15 : decode cX1_takeBack 15 = .ok (.invokevirtual 25, 3) := by decide +kernel
theorem dX1_takeBack_18 : decode cX1_takeBack 18 = .ok (.astore_n 3, 1) := by decide +kernel
theorem dX1_takeBack_19 : decode cX1_takeBack 19 = .ok (.aload_n 0, 1) := by decide +kernel
theorem dX1_takeBack_20 : decode cX1_takeBack 20 = .ok (.getfield 18, 3) := by decide +kernel
theorem dX1_takeBack_23 : decode cX1_takeBack 23 = .ok (.ifCond .eq 7, 3) := by decide +kernel
theorem dX1_takeBack_26 : decode cX1_takeBack 26 = .ok (.aload_n 3, 1) := by decide +kernel
theorem dX1_takeBack_27 : decode cX1_takeBack 27 = .ok (.ifnonnull 5, 3) := by decide +kernel
theorem dX1_takeBack_30 : decode cX1_takeBack 30 = .ok (.iconst 0, 1) := by decide +kernel
theorem dX1_takeBack_31 : decode cX1_takeBack 31 = .ok (.ireturn, 1) := by decide +kernel
theorem dX1_takeBack_32 : decode cX1_takeBack 32 = .ok (.aload_n 1, 1) := by decide +kernel
theorem dX1_takeBack_33 : decode cX1_takeBack 33 = .ok (.aload_n 3, 1) := by decide +kernel
theorem dX1_takeBack_34 : decode cX1_takeBack 34 = .ok (.invokevirtual 29, 3) := by decide +kernel
theorem dX1_takeBack_37 : decode cX1_takeBack 37 = .ok (.aload_n 0, 1) := by decide +kernel
theorem dX1_takeBack_38 : decode cX1_takeBack 38 = .ok (.iload_n 2, 1) := by decide +kernel
theorem dX1_takeBack_39 : decode cX1_takeBack 39 = .ok (.putfield 22, 3) := by decide +kernel
theorem dX1_takeBack_42 : decode cX1_takeBack 42 = .ok (.aload_n 0, 1) := by decide +kernel
theorem dX1_takeBack_43 : decode cX1_takeBack 43 = .ok (.dup, 1) := by decide +kernel
theorem dX1_takeBack_44 : decode cX1_takeBack 44 = .ok (.getfield 18, 3) := by decide +kernel
theorem dX1_takeBack_47 : decode cX1_takeBack 47 = .ok (.iconst 1, 1) := by decide +kernel
theorem dX1_takeBack_48 : decode cX1_takeBack 48 = .ok (.isub, 1) := by decide +kernel
theorem dX1_takeBack_49 : decode cX1_takeBack 49 = .ok (.putfield 18, 3) := by decide +kernel
theorem dX1_takeBack_52 : decode cX1_takeBack 52 = .ok (.iconst 1, 1) := by decide +kernel
theorem dX1_takeBack_53 : decode cX1_takeBack 53 = .ok (.ireturn, 1) := by decide +kernel
def f_X1_takeBack (v0 : XM) (v1 : XM) : Int32 × XM × XM :=
  x_lt ((((v0.1 0 1) + (8 : Int32)) - (1 : Int32)) - (((v0.1 0 1) + (8 : Int32)) - (1 : Int32)) / (8 : Int32) * (8 : Int32)) (fun y1 =>
  if y1 = (0 : Int32) then
  (if (v0.1 0 2) = (0 : Int32) then
  (((0 : Int32), v0, v1))
  else (x_lt (f_X5_become v1 (x_sub v0 2)) (fun y2 =>
  x_lt (x_si v0 0 1 y1) (fun m3 =>
  x_lt (x_si m3 0 2 ((m3.1 0 2) - (1 : Int32))) (fun m4 =>
  ((1 : Int32), m4, y2))))))
  else (if y1 = (1 : Int32) then
  (if (v0.1 0 2) = (0 : Int32) then
  (((0 : Int32), v0, v1))
  else (x_lt (f_X5_become v1 (x_sub v0 17)) (fun y5 =>
  x_lt (x_si v0 0 1 y1) (fun m6 =>
  x_lt (x_si m6 0 2 ((m6.1 0 2) - (1 : Int32))) (fun m7 =>
  ((1 : Int32), m7, y5))))))
  else (if y1 = (2 : Int32) then
  (if (v0.1 0 2) = (0 : Int32) then
  (((0 : Int32), v0, v1))
  else (x_lt (f_X5_become v1 (x_sub v0 32)) (fun y8 =>
  x_lt (x_si v0 0 1 y1) (fun m9 =>
  x_lt (x_si m9 0 2 ((m9.1 0 2) - (1 : Int32))) (fun m10 =>
  ((1 : Int32), m10, y8))))))
  else (if y1 = (3 : Int32) then
  (if (v0.1 0 2) = (0 : Int32) then
  (((0 : Int32), v0, v1))
  else (x_lt (f_X5_become v1 (x_sub v0 47)) (fun y11 =>
  x_lt (x_si v0 0 1 y1) (fun m12 =>
  x_lt (x_si m12 0 2 ((m12.1 0 2) - (1 : Int32))) (fun m13 =>
  ((1 : Int32), m13, y11))))))
  else (if y1 = (4 : Int32) then
  (if (v0.1 0 2) = (0 : Int32) then
  (((0 : Int32), v0, v1))
  else (x_lt (f_X5_become v1 (x_sub v0 62)) (fun y14 =>
  x_lt (x_si v0 0 1 y1) (fun m15 =>
  x_lt (x_si m15 0 2 ((m15.1 0 2) - (1 : Int32))) (fun m16 =>
  ((1 : Int32), m16, y14))))))
  else (if y1 = (5 : Int32) then
  (if (v0.1 0 2) = (0 : Int32) then
  (((0 : Int32), v0, v1))
  else (x_lt (f_X5_become v1 (x_sub v0 77)) (fun y17 =>
  x_lt (x_si v0 0 1 y1) (fun m18 =>
  x_lt (x_si m18 0 2 ((m18.1 0 2) - (1 : Int32))) (fun m19 =>
  ((1 : Int32), m19, y17))))))
  else (if y1 = (6 : Int32) then
  (if (v0.1 0 2) = (0 : Int32) then
  (((0 : Int32), v0, v1))
  else (x_lt (f_X5_become v1 (x_sub v0 92)) (fun y20 =>
  x_lt (x_si v0 0 1 y1) (fun m21 =>
  x_lt (x_si m21 0 2 ((m21.1 0 2) - (1 : Int32))) (fun m22 =>
  ((1 : Int32), m22, y20))))))
  else (if y1 = (7 : Int32) then
  (if (v0.1 0 2) = (0 : Int32) then
  (((0 : Int32), v0, v1))
  else (x_lt (f_X5_become v1 (x_sub v0 107)) (fun y23 =>
  x_lt (x_si v0 0 1 y1) (fun m24 =>
  x_lt (x_si m24 0 2 ((m24.1 0 2) - (1 : Int32))) (fun m25 =>
  ((1 : Int32), m25, y23))))))
  else (if (v0.1 0 2) = (0 : Int32) then
  (((0 : Int32), v0, v1))
  else (((0 : Int32), v0, v1)))))))))))
set_option maxRecDepth 100000 in
set_option maxHeartbeats 4000000 in
theorem c_X1_takeBack {l : Launch}  {ad0 : Nat → Nat} {ad1 : Nat → Nat} {v0 v1 : XM}   {o : Int32 × XM × XM} (h : f_X1_takeBack v0 v1 = o) : CT l yX1_takeBack cX1_takeBack 4 (some .boolean) 3 [(shHistory, ad0), (shState, ad1)] [v0, v1] (fun aK => [.ref (ad0 0), .ref (ad1 0)]) (some (.int o.1)) (x_Z o.1) [o.2.1, o.2.2] := by
  refine CT_of (by decide) (fun _ => Nat.le_of_ble_eq_true rfl) ?_
  intro p e s m args below meth c D tc aK aV A X
  have X : Cx p s m args meth c cX1_takeBack 4 (some .boolean) RX1 D tc aK aV A [(shHistory, ad0), (shState, ad1)] := X
  show aW p l e (x_Rm 3) s m args below meth c D tc A 4 [(shHistory, ad0), (shState, ad1)] (some (.int o.1)) (x_Z o.1) [o.2.1, o.2.2] 0 [(0, .ref (ad0 0)), (1, .ref (ad1 0))] [] [v0, v1]
  unfold f_X1_takeBack at h
  refine a_aload_n (pc := 0) X 0 dX1_takeBack_0 rfl rfl ?_
  refine a_getI (pc := 1) X 0 fl_RX1_22 rfl rfl rfl rfl dX1_takeBack_1 ?_
  refine a_bipush (pc := 4) X dX1_takeBack_4 q_bp_8 ?_
  refine a_iadd (pc := 6) X dX1_takeBack_6 ?_
  refine a_iconst (pc := 7) X dX1_takeBack_7 q_ic_1 ?_
  refine a_isub (pc := 8) X dX1_takeBack_8 ?_
  refine a_bipush (pc := 9) X dX1_takeBack_9 q_bp_8 ?_
  refine a_irem (pc := 11) X (by decide) dX1_takeBack_11 ?_
  obtain ⟨y1, e_y1, h⟩ := x_lt_elim h
  refine a_ni e_y1 ?_
  refine a_istore_n (pc := 12) X [(2, .int y1), (0, .ref (ad0 0)), (1, .ref (ad1 0))] dX1_takeBack_12 rfl (by decide) rfl ?_
  refine a_aload_n (pc := 13) X 1 dX1_takeBack_13 rfl rfl ?_
  refine a_iload_n (pc := 14) X 0 dX1_takeBack_14 rfl rfl ?_
  by_cases c_15_0 : y1 = (0 : Int32)
  · have h := x_ifp c_15_0 h
    refine a_ni c_15_0 ?_
    refine a_callV (pc := 15) (st2 := [.ref (ad0 2)]) (vs2 := [v0, v1]) X [(0, 0, 122)] [none] 0 0 1 [.int (0 : Int32)] [] cv_RX1_25 (c_X1_placeAt_0 (ad0 := ad0) (v0 := v0)) rfl rfl rfl rfl rfl rfl rfl rfl rfl rfl rfl rfl rfl rfl rfl (Nat.le_of_ble_eq_true rfl) ⟨Nat.le_of_ble_eq_true rfl, Nat.le_of_ble_eq_true rfl⟩ dX1_takeBack_15 (fun _ => ?_)
    refine a_astore_n (pc := 18) X [(3, .ref (ad0 2)), (2, .int y1), (0, .ref (ad0 0)), (1, .ref (ad1 0))] dX1_takeBack_18 rfl (by decide) rfl ?_
    refine a_aload_n (pc := 19) X 2 dX1_takeBack_19 rfl rfl ?_
    refine a_getI (pc := 20) X 0 fl_RX1_18 rfl rfl rfl rfl dX1_takeBack_20 ?_
    refine a_if_eq (pc := 23) X 30 dX1_takeBack_23 rfl (fun c_23 => ?_) (fun c_23 => ?_)
    · have h := x_ifp c_23 h
      refine a_iconst (pc := 30) X dX1_takeBack_30 q_ic_0 ?_
      subst h
      exact a_zret (pc := 31) X x_Z0 x_Z0 dX1_takeBack_31
    · have h := x_ifn c_23 h
      refine a_aload_n (pc := 26) X 0 dX1_takeBack_26 rfl rfl ?_
      refine a_ifnonnull (pc := 27) X 32 dX1_takeBack_27 rfl ?_
      refine a_aload_n (pc := 32) X 3 dX1_takeBack_32 rfl rfl ?_
      refine a_aload_n (pc := 33) X 0 dX1_takeBack_33 rfl rfl ?_
      obtain ⟨y2, e_y2, h⟩ := x_lt_elim h
      refine a_callV (pc := 34) (st2 := []) (vs2 := [v0, y2]) X [(1, 0, 15), (0, 2, 15)] [some y2, none] 1 0 5 [.ref (ad0 2)] [] cv_RX1_29 (c_X5_become (ad0 := ad1) (ad1 := (fun i => ad0 (i + 2)))  e_y2) rfl rfl rfl rfl rfl rfl rfl rfl rfl rfl rfl rfl rfl rfl rfl (Nat.le_of_ble_eq_true rfl) ⟨Nat.le_of_ble_eq_true rfl, Nat.le_of_ble_eq_true rfl⟩ dX1_takeBack_34 (fun _ => ?_)
      refine a_aload_n (pc := 37) X 2 dX1_takeBack_37 rfl rfl ?_
      refine a_iload_n (pc := 38) X 1 dX1_takeBack_38 rfl rfl ?_
      refine a_putI (pc := 39) X 0 fl_RX1_22 rfl rfl rfl rfl dX1_takeBack_39 ?_
      obtain ⟨m3, e_m3, h⟩ := x_lt_elim h
      refine a_nm (vs2 := [m3, y2]) (congrArg (fun q : XM => [q, y2]) e_m3) ?_
      refine a_aload_n (pc := 42) X 2 dX1_takeBack_42 rfl rfl ?_
      refine a_dup (pc := 43) X dX1_takeBack_43 rfl ?_
      refine a_getI (pc := 44) X 0 fl_RX1_18 rfl rfl rfl rfl dX1_takeBack_44 ?_
      refine a_iconst (pc := 47) X dX1_takeBack_47 q_ic_1 ?_
      refine a_isub (pc := 48) X dX1_takeBack_48 ?_
      refine a_putI (pc := 49) X 0 fl_RX1_18 rfl rfl rfl rfl dX1_takeBack_49 ?_
      obtain ⟨m4, e_m4, h⟩ := x_lt_elim h
      refine a_nm (vs2 := [m4, y2]) (congrArg (fun q : XM => [q, y2]) e_m4) ?_
      refine a_iconst (pc := 52) X dX1_takeBack_52 q_ic_1 ?_
      subst h
      exact a_zret (pc := 53) X x_Z1 x_Z1 dX1_takeBack_53
  · have h := x_ifn c_15_0 h
    by_cases c_15_1 : y1 = (1 : Int32)
    · have h := x_ifp c_15_1 h
      refine a_ni c_15_1 ?_
      refine a_callV (pc := 15) (st2 := [.ref (ad0 17)]) (vs2 := [v0, v1]) X [(0, 0, 122)] [none] 0 0 1 [.int (1 : Int32)] [] cv_RX1_25 (c_X1_placeAt_1 (ad0 := ad0) (v0 := v0)) rfl rfl rfl rfl rfl rfl rfl rfl rfl rfl rfl rfl rfl rfl rfl (Nat.le_of_ble_eq_true rfl) ⟨Nat.le_of_ble_eq_true rfl, Nat.le_of_ble_eq_true rfl⟩ dX1_takeBack_15 (fun _ => ?_)
      refine a_astore_n (pc := 18) X [(3, .ref (ad0 17)), (2, .int y1), (0, .ref (ad0 0)), (1, .ref (ad1 0))] dX1_takeBack_18 rfl (by decide) rfl ?_
      refine a_aload_n (pc := 19) X 2 dX1_takeBack_19 rfl rfl ?_
      refine a_getI (pc := 20) X 0 fl_RX1_18 rfl rfl rfl rfl dX1_takeBack_20 ?_
      refine a_if_eq (pc := 23) X 30 dX1_takeBack_23 rfl (fun c_23 => ?_) (fun c_23 => ?_)
      · have h := x_ifp c_23 h
        refine a_iconst (pc := 30) X dX1_takeBack_30 q_ic_0 ?_
        subst h
        exact a_zret (pc := 31) X x_Z0 x_Z0 dX1_takeBack_31
      · have h := x_ifn c_23 h
        refine a_aload_n (pc := 26) X 0 dX1_takeBack_26 rfl rfl ?_
        refine a_ifnonnull (pc := 27) X 32 dX1_takeBack_27 rfl ?_
        refine a_aload_n (pc := 32) X 3 dX1_takeBack_32 rfl rfl ?_
        refine a_aload_n (pc := 33) X 0 dX1_takeBack_33 rfl rfl ?_
        obtain ⟨y5, e_y5, h⟩ := x_lt_elim h
        refine a_callV (pc := 34) (st2 := []) (vs2 := [v0, y5]) X [(1, 0, 15), (0, 17, 15)] [some y5, none] 1 0 5 [.ref (ad0 17)] [] cv_RX1_29 (c_X5_become (ad0 := ad1) (ad1 := (fun i => ad0 (i + 17)))  e_y5) rfl rfl rfl rfl rfl rfl rfl rfl rfl rfl rfl rfl rfl rfl rfl (Nat.le_of_ble_eq_true rfl) ⟨Nat.le_of_ble_eq_true rfl, Nat.le_of_ble_eq_true rfl⟩ dX1_takeBack_34 (fun _ => ?_)
        refine a_aload_n (pc := 37) X 2 dX1_takeBack_37 rfl rfl ?_
        refine a_iload_n (pc := 38) X 1 dX1_takeBack_38 rfl rfl ?_
        refine a_putI (pc := 39) X 0 fl_RX1_22 rfl rfl rfl rfl dX1_takeBack_39 ?_
        obtain ⟨m6, e_m6, h⟩ := x_lt_elim h
        refine a_nm (vs2 := [m6, y5]) (congrArg (fun q : XM => [q, y5]) e_m6) ?_
        refine a_aload_n (pc := 42) X 2 dX1_takeBack_42 rfl rfl ?_
        refine a_dup (pc := 43) X dX1_takeBack_43 rfl ?_
        refine a_getI (pc := 44) X 0 fl_RX1_18 rfl rfl rfl rfl dX1_takeBack_44 ?_
        refine a_iconst (pc := 47) X dX1_takeBack_47 q_ic_1 ?_
        refine a_isub (pc := 48) X dX1_takeBack_48 ?_
        refine a_putI (pc := 49) X 0 fl_RX1_18 rfl rfl rfl rfl dX1_takeBack_49 ?_
        obtain ⟨m7, e_m7, h⟩ := x_lt_elim h
        refine a_nm (vs2 := [m7, y5]) (congrArg (fun q : XM => [q, y5]) e_m7) ?_
        refine a_iconst (pc := 52) X dX1_takeBack_52 q_ic_1 ?_
        subst h
        exact a_zret (pc := 53) X x_Z1 x_Z1 dX1_takeBack_53
    · have h := x_ifn c_15_1 h
      by_cases c_15_2 : y1 = (2 : Int32)
      · have h := x_ifp c_15_2 h
        refine a_ni c_15_2 ?_
        refine a_callV (pc := 15) (st2 := [.ref (ad0 32)]) (vs2 := [v0, v1]) X [(0, 0, 122)] [none] 0 0 1 [.int (2 : Int32)] [] cv_RX1_25 (c_X1_placeAt_2 (ad0 := ad0) (v0 := v0)) rfl rfl rfl rfl rfl rfl rfl rfl rfl rfl rfl rfl rfl rfl rfl (Nat.le_of_ble_eq_true rfl) ⟨Nat.le_of_ble_eq_true rfl, Nat.le_of_ble_eq_true rfl⟩ dX1_takeBack_15 (fun _ => ?_)
        refine a_astore_n (pc := 18) X [(3, .ref (ad0 32)), (2, .int y1), (0, .ref (ad0 0)), (1, .ref (ad1 0))] dX1_takeBack_18 rfl (by decide) rfl ?_
        refine a_aload_n (pc := 19) X 2 dX1_takeBack_19 rfl rfl ?_
        refine a_getI (pc := 20) X 0 fl_RX1_18 rfl rfl rfl rfl dX1_takeBack_20 ?_
        refine a_if_eq (pc := 23) X 30 dX1_takeBack_23 rfl (fun c_23 => ?_) (fun c_23 => ?_)
        · have h := x_ifp c_23 h
          refine a_iconst (pc := 30) X dX1_takeBack_30 q_ic_0 ?_
          subst h
          exact a_zret (pc := 31) X x_Z0 x_Z0 dX1_takeBack_31
        · have h := x_ifn c_23 h
          refine a_aload_n (pc := 26) X 0 dX1_takeBack_26 rfl rfl ?_
          refine a_ifnonnull (pc := 27) X 32 dX1_takeBack_27 rfl ?_
          refine a_aload_n (pc := 32) X 3 dX1_takeBack_32 rfl rfl ?_
          refine a_aload_n (pc := 33) X 0 dX1_takeBack_33 rfl rfl ?_
          obtain ⟨y8, e_y8, h⟩ := x_lt_elim h
          refine a_callV (pc := 34) (st2 := []) (vs2 := [v0, y8]) X [(1, 0, 15), (0, 32, 15)] [some y8, none] 1 0 5 [.ref (ad0 32)] [] cv_RX1_29 (c_X5_become (ad0 := ad1) (ad1 := (fun i => ad0 (i + 32)))  e_y8) rfl rfl rfl rfl rfl rfl rfl rfl rfl rfl rfl rfl rfl rfl rfl (Nat.le_of_ble_eq_true rfl) ⟨Nat.le_of_ble_eq_true rfl, Nat.le_of_ble_eq_true rfl⟩ dX1_takeBack_34 (fun _ => ?_)
          refine a_aload_n (pc := 37) X 2 dX1_takeBack_37 rfl rfl ?_
          refine a_iload_n (pc := 38) X 1 dX1_takeBack_38 rfl rfl ?_
          refine a_putI (pc := 39) X 0 fl_RX1_22 rfl rfl rfl rfl dX1_takeBack_39 ?_
          obtain ⟨m9, e_m9, h⟩ := x_lt_elim h
          refine a_nm (vs2 := [m9, y8]) (congrArg (fun q : XM => [q, y8]) e_m9) ?_
          refine a_aload_n (pc := 42) X 2 dX1_takeBack_42 rfl rfl ?_
          refine a_dup (pc := 43) X dX1_takeBack_43 rfl ?_
          refine a_getI (pc := 44) X 0 fl_RX1_18 rfl rfl rfl rfl dX1_takeBack_44 ?_
          refine a_iconst (pc := 47) X dX1_takeBack_47 q_ic_1 ?_
          refine a_isub (pc := 48) X dX1_takeBack_48 ?_
          refine a_putI (pc := 49) X 0 fl_RX1_18 rfl rfl rfl rfl dX1_takeBack_49 ?_
          obtain ⟨m10, e_m10, h⟩ := x_lt_elim h
          refine a_nm (vs2 := [m10, y8]) (congrArg (fun q : XM => [q, y8]) e_m10) ?_
          refine a_iconst (pc := 52) X dX1_takeBack_52 q_ic_1 ?_
          subst h
          exact a_zret (pc := 53) X x_Z1 x_Z1 dX1_takeBack_53
      · have h := x_ifn c_15_2 h
        by_cases c_15_3 : y1 = (3 : Int32)
        · have h := x_ifp c_15_3 h
          refine a_ni c_15_3 ?_
          refine a_callV (pc := 15) (st2 := [.ref (ad0 47)]) (vs2 := [v0, v1]) X [(0, 0, 122)] [none] 0 0 1 [.int (3 : Int32)] [] cv_RX1_25 (c_X1_placeAt_3 (ad0 := ad0) (v0 := v0)) rfl rfl rfl rfl rfl rfl rfl rfl rfl rfl rfl rfl rfl rfl rfl (Nat.le_of_ble_eq_true rfl) ⟨Nat.le_of_ble_eq_true rfl, Nat.le_of_ble_eq_true rfl⟩ dX1_takeBack_15 (fun _ => ?_)
          refine a_astore_n (pc := 18) X [(3, .ref (ad0 47)), (2, .int y1), (0, .ref (ad0 0)), (1, .ref (ad1 0))] dX1_takeBack_18 rfl (by decide) rfl ?_
          refine a_aload_n (pc := 19) X 2 dX1_takeBack_19 rfl rfl ?_
          refine a_getI (pc := 20) X 0 fl_RX1_18 rfl rfl rfl rfl dX1_takeBack_20 ?_
          refine a_if_eq (pc := 23) X 30 dX1_takeBack_23 rfl (fun c_23 => ?_) (fun c_23 => ?_)
          · have h := x_ifp c_23 h
            refine a_iconst (pc := 30) X dX1_takeBack_30 q_ic_0 ?_
            subst h
            exact a_zret (pc := 31) X x_Z0 x_Z0 dX1_takeBack_31
          · have h := x_ifn c_23 h
            refine a_aload_n (pc := 26) X 0 dX1_takeBack_26 rfl rfl ?_
            refine a_ifnonnull (pc := 27) X 32 dX1_takeBack_27 rfl ?_
            refine a_aload_n (pc := 32) X 3 dX1_takeBack_32 rfl rfl ?_
            refine a_aload_n (pc := 33) X 0 dX1_takeBack_33 rfl rfl ?_
            obtain ⟨y11, e_y11, h⟩ := x_lt_elim h
            refine a_callV (pc := 34) (st2 := []) (vs2 := [v0, y11]) X [(1, 0, 15), (0, 47, 15)] [some y11, none] 1 0 5 [.ref (ad0 47)] [] cv_RX1_29 (c_X5_become (ad0 := ad1) (ad1 := (fun i => ad0 (i + 47)))  e_y11) rfl rfl rfl rfl rfl rfl rfl rfl rfl rfl rfl rfl rfl rfl rfl (Nat.le_of_ble_eq_true rfl) ⟨Nat.le_of_ble_eq_true rfl, Nat.le_of_ble_eq_true rfl⟩ dX1_takeBack_34 (fun _ => ?_)
            refine a_aload_n (pc := 37) X 2 dX1_takeBack_37 rfl rfl ?_
            refine a_iload_n (pc := 38) X 1 dX1_takeBack_38 rfl rfl ?_
            refine a_putI (pc := 39) X 0 fl_RX1_22 rfl rfl rfl rfl dX1_takeBack_39 ?_
            obtain ⟨m12, e_m12, h⟩ := x_lt_elim h
            refine a_nm (vs2 := [m12, y11]) (congrArg (fun q : XM => [q, y11]) e_m12) ?_
            refine a_aload_n (pc := 42) X 2 dX1_takeBack_42 rfl rfl ?_
            refine a_dup (pc := 43) X dX1_takeBack_43 rfl ?_
            refine a_getI (pc := 44) X 0 fl_RX1_18 rfl rfl rfl rfl dX1_takeBack_44 ?_
            refine a_iconst (pc := 47) X dX1_takeBack_47 q_ic_1 ?_
            refine a_isub (pc := 48) X dX1_takeBack_48 ?_
            refine a_putI (pc := 49) X 0 fl_RX1_18 rfl rfl rfl rfl dX1_takeBack_49 ?_
            obtain ⟨m13, e_m13, h⟩ := x_lt_elim h
            refine a_nm (vs2 := [m13, y11]) (congrArg (fun q : XM => [q, y11]) e_m13) ?_
            refine a_iconst (pc := 52) X dX1_takeBack_52 q_ic_1 ?_
            subst h
            exact a_zret (pc := 53) X x_Z1 x_Z1 dX1_takeBack_53
        · have h := x_ifn c_15_3 h
          by_cases c_15_4 : y1 = (4 : Int32)
          · have h := x_ifp c_15_4 h
            refine a_ni c_15_4 ?_
            refine a_callV (pc := 15) (st2 := [.ref (ad0 62)]) (vs2 := [v0, v1]) X [(0, 0, 122)] [none] 0 0 1 [.int (4 : Int32)] [] cv_RX1_25 (c_X1_placeAt_4 (ad0 := ad0) (v0 := v0)) rfl rfl rfl rfl rfl rfl rfl rfl rfl rfl rfl rfl rfl rfl rfl (Nat.le_of_ble_eq_true rfl) ⟨Nat.le_of_ble_eq_true rfl, Nat.le_of_ble_eq_true rfl⟩ dX1_takeBack_15 (fun _ => ?_)
            refine a_astore_n (pc := 18) X [(3, .ref (ad0 62)), (2, .int y1), (0, .ref (ad0 0)), (1, .ref (ad1 0))] dX1_takeBack_18 rfl (by decide) rfl ?_
            refine a_aload_n (pc := 19) X 2 dX1_takeBack_19 rfl rfl ?_
            refine a_getI (pc := 20) X 0 fl_RX1_18 rfl rfl rfl rfl dX1_takeBack_20 ?_
            refine a_if_eq (pc := 23) X 30 dX1_takeBack_23 rfl (fun c_23 => ?_) (fun c_23 => ?_)
            · have h := x_ifp c_23 h
              refine a_iconst (pc := 30) X dX1_takeBack_30 q_ic_0 ?_
              subst h
              exact a_zret (pc := 31) X x_Z0 x_Z0 dX1_takeBack_31
            · have h := x_ifn c_23 h
              refine a_aload_n (pc := 26) X 0 dX1_takeBack_26 rfl rfl ?_
              refine a_ifnonnull (pc := 27) X 32 dX1_takeBack_27 rfl ?_
              refine a_aload_n (pc := 32) X 3 dX1_takeBack_32 rfl rfl ?_
              refine a_aload_n (pc := 33) X 0 dX1_takeBack_33 rfl rfl ?_
              obtain ⟨y14, e_y14, h⟩ := x_lt_elim h
              refine a_callV (pc := 34) (st2 := []) (vs2 := [v0, y14]) X [(1, 0, 15), (0, 62, 15)] [some y14, none] 1 0 5 [.ref (ad0 62)] [] cv_RX1_29 (c_X5_become (ad0 := ad1) (ad1 := (fun i => ad0 (i + 62)))  e_y14) rfl rfl rfl rfl rfl rfl rfl rfl rfl rfl rfl rfl rfl rfl rfl (Nat.le_of_ble_eq_true rfl) ⟨Nat.le_of_ble_eq_true rfl, Nat.le_of_ble_eq_true rfl⟩ dX1_takeBack_34 (fun _ => ?_)
              refine a_aload_n (pc := 37) X 2 dX1_takeBack_37 rfl rfl ?_
              refine a_iload_n (pc := 38) X 1 dX1_takeBack_38 rfl rfl ?_
              refine a_putI (pc := 39) X 0 fl_RX1_22 rfl rfl rfl rfl dX1_takeBack_39 ?_
              obtain ⟨m15, e_m15, h⟩ := x_lt_elim h
              refine a_nm (vs2 := [m15, y14]) (congrArg (fun q : XM => [q, y14]) e_m15) ?_
              refine a_aload_n (pc := 42) X 2 dX1_takeBack_42 rfl rfl ?_
              refine a_dup (pc := 43) X dX1_takeBack_43 rfl ?_
              refine a_getI (pc := 44) X 0 fl_RX1_18 rfl rfl rfl rfl dX1_takeBack_44 ?_
              refine a_iconst (pc := 47) X dX1_takeBack_47 q_ic_1 ?_
              refine a_isub (pc := 48) X dX1_takeBack_48 ?_
              refine a_putI (pc := 49) X 0 fl_RX1_18 rfl rfl rfl rfl dX1_takeBack_49 ?_
              obtain ⟨m16, e_m16, h⟩ := x_lt_elim h
              refine a_nm (vs2 := [m16, y14]) (congrArg (fun q : XM => [q, y14]) e_m16) ?_
              refine a_iconst (pc := 52) X dX1_takeBack_52 q_ic_1 ?_
              subst h
              exact a_zret (pc := 53) X x_Z1 x_Z1 dX1_takeBack_53
          · have h := x_ifn c_15_4 h
            by_cases c_15_5 : y1 = (5 : Int32)
            · have h := x_ifp c_15_5 h
              refine a_ni c_15_5 ?_
              refine a_callV (pc := 15) (st2 := [.ref (ad0 77)]) (vs2 := [v0, v1]) X [(0, 0, 122)] [none] 0 0 1 [.int (5 : Int32)] [] cv_RX1_25 (c_X1_placeAt_5 (ad0 := ad0) (v0 := v0)) rfl rfl rfl rfl rfl rfl rfl rfl rfl rfl rfl rfl rfl rfl rfl (Nat.le_of_ble_eq_true rfl) ⟨Nat.le_of_ble_eq_true rfl, Nat.le_of_ble_eq_true rfl⟩ dX1_takeBack_15 (fun _ => ?_)
              refine a_astore_n (pc := 18) X [(3, .ref (ad0 77)), (2, .int y1), (0, .ref (ad0 0)), (1, .ref (ad1 0))] dX1_takeBack_18 rfl (by decide) rfl ?_
              refine a_aload_n (pc := 19) X 2 dX1_takeBack_19 rfl rfl ?_
              refine a_getI (pc := 20) X 0 fl_RX1_18 rfl rfl rfl rfl dX1_takeBack_20 ?_
              refine a_if_eq (pc := 23) X 30 dX1_takeBack_23 rfl (fun c_23 => ?_) (fun c_23 => ?_)
              · have h := x_ifp c_23 h
                refine a_iconst (pc := 30) X dX1_takeBack_30 q_ic_0 ?_
                subst h
                exact a_zret (pc := 31) X x_Z0 x_Z0 dX1_takeBack_31
              · have h := x_ifn c_23 h
                refine a_aload_n (pc := 26) X 0 dX1_takeBack_26 rfl rfl ?_
                refine a_ifnonnull (pc := 27) X 32 dX1_takeBack_27 rfl ?_
                refine a_aload_n (pc := 32) X 3 dX1_takeBack_32 rfl rfl ?_
                refine a_aload_n (pc := 33) X 0 dX1_takeBack_33 rfl rfl ?_
                obtain ⟨y17, e_y17, h⟩ := x_lt_elim h
                refine a_callV (pc := 34) (st2 := []) (vs2 := [v0, y17]) X [(1, 0, 15), (0, 77, 15)] [some y17, none] 1 0 5 [.ref (ad0 77)] [] cv_RX1_29 (c_X5_become (ad0 := ad1) (ad1 := (fun i => ad0 (i + 77)))  e_y17) rfl rfl rfl rfl rfl rfl rfl rfl rfl rfl rfl rfl rfl rfl rfl (Nat.le_of_ble_eq_true rfl) ⟨Nat.le_of_ble_eq_true rfl, Nat.le_of_ble_eq_true rfl⟩ dX1_takeBack_34 (fun _ => ?_)
                refine a_aload_n (pc := 37) X 2 dX1_takeBack_37 rfl rfl ?_
                refine a_iload_n (pc := 38) X 1 dX1_takeBack_38 rfl rfl ?_
                refine a_putI (pc := 39) X 0 fl_RX1_22 rfl rfl rfl rfl dX1_takeBack_39 ?_
                obtain ⟨m18, e_m18, h⟩ := x_lt_elim h
                refine a_nm (vs2 := [m18, y17]) (congrArg (fun q : XM => [q, y17]) e_m18) ?_
                refine a_aload_n (pc := 42) X 2 dX1_takeBack_42 rfl rfl ?_
                refine a_dup (pc := 43) X dX1_takeBack_43 rfl ?_
                refine a_getI (pc := 44) X 0 fl_RX1_18 rfl rfl rfl rfl dX1_takeBack_44 ?_
                refine a_iconst (pc := 47) X dX1_takeBack_47 q_ic_1 ?_
                refine a_isub (pc := 48) X dX1_takeBack_48 ?_
                refine a_putI (pc := 49) X 0 fl_RX1_18 rfl rfl rfl rfl dX1_takeBack_49 ?_
                obtain ⟨m19, e_m19, h⟩ := x_lt_elim h
                refine a_nm (vs2 := [m19, y17]) (congrArg (fun q : XM => [q, y17]) e_m19) ?_
                refine a_iconst (pc := 52) X dX1_takeBack_52 q_ic_1 ?_
                subst h
                exact a_zret (pc := 53) X x_Z1 x_Z1 dX1_takeBack_53
            · have h := x_ifn c_15_5 h
              by_cases c_15_6 : y1 = (6 : Int32)
              · have h := x_ifp c_15_6 h
                refine a_ni c_15_6 ?_
                refine a_callV (pc := 15) (st2 := [.ref (ad0 92)]) (vs2 := [v0, v1]) X [(0, 0, 122)] [none] 0 0 1 [.int (6 : Int32)] [] cv_RX1_25 (c_X1_placeAt_6 (ad0 := ad0) (v0 := v0)) rfl rfl rfl rfl rfl rfl rfl rfl rfl rfl rfl rfl rfl rfl rfl (Nat.le_of_ble_eq_true rfl) ⟨Nat.le_of_ble_eq_true rfl, Nat.le_of_ble_eq_true rfl⟩ dX1_takeBack_15 (fun _ => ?_)
                refine a_astore_n (pc := 18) X [(3, .ref (ad0 92)), (2, .int y1), (0, .ref (ad0 0)), (1, .ref (ad1 0))] dX1_takeBack_18 rfl (by decide) rfl ?_
                refine a_aload_n (pc := 19) X 2 dX1_takeBack_19 rfl rfl ?_
                refine a_getI (pc := 20) X 0 fl_RX1_18 rfl rfl rfl rfl dX1_takeBack_20 ?_
                refine a_if_eq (pc := 23) X 30 dX1_takeBack_23 rfl (fun c_23 => ?_) (fun c_23 => ?_)
                · have h := x_ifp c_23 h
                  refine a_iconst (pc := 30) X dX1_takeBack_30 q_ic_0 ?_
                  subst h
                  exact a_zret (pc := 31) X x_Z0 x_Z0 dX1_takeBack_31
                · have h := x_ifn c_23 h
                  refine a_aload_n (pc := 26) X 0 dX1_takeBack_26 rfl rfl ?_
                  refine a_ifnonnull (pc := 27) X 32 dX1_takeBack_27 rfl ?_
                  refine a_aload_n (pc := 32) X 3 dX1_takeBack_32 rfl rfl ?_
                  refine a_aload_n (pc := 33) X 0 dX1_takeBack_33 rfl rfl ?_
                  obtain ⟨y20, e_y20, h⟩ := x_lt_elim h
                  refine a_callV (pc := 34) (st2 := []) (vs2 := [v0, y20]) X [(1, 0, 15), (0, 92, 15)] [some y20, none] 1 0 5 [.ref (ad0 92)] [] cv_RX1_29 (c_X5_become (ad0 := ad1) (ad1 := (fun i => ad0 (i + 92)))  e_y20) rfl rfl rfl rfl rfl rfl rfl rfl rfl rfl rfl rfl rfl rfl rfl (Nat.le_of_ble_eq_true rfl) ⟨Nat.le_of_ble_eq_true rfl, Nat.le_of_ble_eq_true rfl⟩ dX1_takeBack_34 (fun _ => ?_)
                  refine a_aload_n (pc := 37) X 2 dX1_takeBack_37 rfl rfl ?_
                  refine a_iload_n (pc := 38) X 1 dX1_takeBack_38 rfl rfl ?_
                  refine a_putI (pc := 39) X 0 fl_RX1_22 rfl rfl rfl rfl dX1_takeBack_39 ?_
                  obtain ⟨m21, e_m21, h⟩ := x_lt_elim h
                  refine a_nm (vs2 := [m21, y20]) (congrArg (fun q : XM => [q, y20]) e_m21) ?_
                  refine a_aload_n (pc := 42) X 2 dX1_takeBack_42 rfl rfl ?_
                  refine a_dup (pc := 43) X dX1_takeBack_43 rfl ?_
                  refine a_getI (pc := 44) X 0 fl_RX1_18 rfl rfl rfl rfl dX1_takeBack_44 ?_
                  refine a_iconst (pc := 47) X dX1_takeBack_47 q_ic_1 ?_
                  refine a_isub (pc := 48) X dX1_takeBack_48 ?_
                  refine a_putI (pc := 49) X 0 fl_RX1_18 rfl rfl rfl rfl dX1_takeBack_49 ?_
                  obtain ⟨m22, e_m22, h⟩ := x_lt_elim h
                  refine a_nm (vs2 := [m22, y20]) (congrArg (fun q : XM => [q, y20]) e_m22) ?_
                  refine a_iconst (pc := 52) X dX1_takeBack_52 q_ic_1 ?_
                  subst h
                  exact a_zret (pc := 53) X x_Z1 x_Z1 dX1_takeBack_53
              · have h := x_ifn c_15_6 h
                by_cases c_15_7 : y1 = (7 : Int32)
                · have h := x_ifp c_15_7 h
                  refine a_ni c_15_7 ?_
                  refine a_callV (pc := 15) (st2 := [.ref (ad0 107)]) (vs2 := [v0, v1]) X [(0, 0, 122)] [none] 0 0 1 [.int (7 : Int32)] [] cv_RX1_25 (c_X1_placeAt_7 (ad0 := ad0) (v0 := v0)) rfl rfl rfl rfl rfl rfl rfl rfl rfl rfl rfl rfl rfl rfl rfl (Nat.le_of_ble_eq_true rfl) ⟨Nat.le_of_ble_eq_true rfl, Nat.le_of_ble_eq_true rfl⟩ dX1_takeBack_15 (fun _ => ?_)
                  refine a_astore_n (pc := 18) X [(3, .ref (ad0 107)), (2, .int y1), (0, .ref (ad0 0)), (1, .ref (ad1 0))] dX1_takeBack_18 rfl (by decide) rfl ?_
                  refine a_aload_n (pc := 19) X 2 dX1_takeBack_19 rfl rfl ?_
                  refine a_getI (pc := 20) X 0 fl_RX1_18 rfl rfl rfl rfl dX1_takeBack_20 ?_
                  refine a_if_eq (pc := 23) X 30 dX1_takeBack_23 rfl (fun c_23 => ?_) (fun c_23 => ?_)
                  · have h := x_ifp c_23 h
                    refine a_iconst (pc := 30) X dX1_takeBack_30 q_ic_0 ?_
                    subst h
                    exact a_zret (pc := 31) X x_Z0 x_Z0 dX1_takeBack_31
                  · have h := x_ifn c_23 h
                    refine a_aload_n (pc := 26) X 0 dX1_takeBack_26 rfl rfl ?_
                    refine a_ifnonnull (pc := 27) X 32 dX1_takeBack_27 rfl ?_
                    refine a_aload_n (pc := 32) X 3 dX1_takeBack_32 rfl rfl ?_
                    refine a_aload_n (pc := 33) X 0 dX1_takeBack_33 rfl rfl ?_
                    obtain ⟨y23, e_y23, h⟩ := x_lt_elim h
                    refine a_callV (pc := 34) (st2 := []) (vs2 := [v0, y23]) X [(1, 0, 15), (0, 107, 15)] [some y23, none] 1 0 5 [.ref (ad0 107)] [] cv_RX1_29 (c_X5_become (ad0 := ad1) (ad1 := (fun i => ad0 (i + 107)))  e_y23) rfl rfl rfl rfl rfl rfl rfl rfl rfl rfl rfl rfl rfl rfl rfl (Nat.le_of_ble_eq_true rfl) ⟨Nat.le_of_ble_eq_true rfl, Nat.le_of_ble_eq_true rfl⟩ dX1_takeBack_34 (fun _ => ?_)
                    refine a_aload_n (pc := 37) X 2 dX1_takeBack_37 rfl rfl ?_
                    refine a_iload_n (pc := 38) X 1 dX1_takeBack_38 rfl rfl ?_
                    refine a_putI (pc := 39) X 0 fl_RX1_22 rfl rfl rfl rfl dX1_takeBack_39 ?_
                    obtain ⟨m24, e_m24, h⟩ := x_lt_elim h
                    refine a_nm (vs2 := [m24, y23]) (congrArg (fun q : XM => [q, y23]) e_m24) ?_
                    refine a_aload_n (pc := 42) X 2 dX1_takeBack_42 rfl rfl ?_
                    refine a_dup (pc := 43) X dX1_takeBack_43 rfl ?_
                    refine a_getI (pc := 44) X 0 fl_RX1_18 rfl rfl rfl rfl dX1_takeBack_44 ?_
                    refine a_iconst (pc := 47) X dX1_takeBack_47 q_ic_1 ?_
                    refine a_isub (pc := 48) X dX1_takeBack_48 ?_
                    refine a_putI (pc := 49) X 0 fl_RX1_18 rfl rfl rfl rfl dX1_takeBack_49 ?_
                    obtain ⟨m25, e_m25, h⟩ := x_lt_elim h
                    refine a_nm (vs2 := [m25, y23]) (congrArg (fun q : XM => [q, y23]) e_m25) ?_
                    refine a_iconst (pc := 52) X dX1_takeBack_52 q_ic_1 ?_
                    subst h
                    exact a_zret (pc := 53) X x_Z1 x_Z1 dX1_takeBack_53
                · have h := x_ifn c_15_7 h
                  refine a_callV (pc := 15) (st2 := [.null]) (vs2 := [v0, v1]) X [(0, 0, 122)] [none] 0 0 1 [.int y1] [] cv_RX1_25 (c_X1_placeAt_N (ad0 := ad0) (v0 := v0) c_15_0 c_15_1 c_15_2 c_15_3 c_15_4 c_15_5 c_15_6 c_15_7) rfl rfl rfl rfl rfl rfl rfl rfl rfl rfl rfl rfl rfl rfl rfl (Nat.le_of_ble_eq_true rfl) ⟨Nat.le_of_ble_eq_true rfl, Nat.le_of_ble_eq_true rfl⟩ dX1_takeBack_15 (fun _ => ?_)
                  refine a_astore_nN (pc := 18) X [(3, .null), (2, .int y1), (0, .ref (ad0 0)), (1, .ref (ad1 0))] dX1_takeBack_18 rfl (by decide) rfl ?_
                  refine a_aload_n (pc := 19) X 2 dX1_takeBack_19 rfl rfl ?_
                  refine a_getI (pc := 20) X 0 fl_RX1_18 rfl rfl rfl rfl dX1_takeBack_20 ?_
                  refine a_if_eq (pc := 23) X 30 dX1_takeBack_23 rfl (fun c_23 => ?_) (fun c_23 => ?_)
                  · have h := x_ifp c_23 h
                    refine a_iconst (pc := 30) X dX1_takeBack_30 q_ic_0 ?_
                    subst h
                    exact a_zret (pc := 31) X x_Z0 x_Z0 dX1_takeBack_31
                  · have h := x_ifn c_23 h
                    refine a_aload_nN (pc := 26) X 0 dX1_takeBack_26 rfl rfl ?_
                    refine a_ifnonnullN (pc := 27) X dX1_takeBack_27 ?_
                    refine a_iconst (pc := 30) X dX1_takeBack_30 q_ic_0 ?_
                    subst h
                    exact a_zret (pc := 31) X x_Z0 x_Z0 dX1_takeBack_31
theorem dX7_addText_0 : decode cX7_addText 0 = .ok (.iconst 0, 1) := by decide +kernel
theorem dX7_addText_1 : decode cX7_addText 1 = .ok (.istore_n 2, 1) := by decide +kernel
theorem dX7_addText_2 : decode cX7_addText 2 = .ok (.iload_n 2, 1) := by decide +kernel
theorem dX7_addText_3 : decode cX7_addText 3 = .ok (.aload_n 1, 1) := by decide +kernel
theorem dX7_addText_4 : decode cX7_addText 4 = .ok (.invokevirtual 79, 3) := by decide +kernel
theorem dX7_addText_7 : decode cX7_addText 7 = .ok (.if_icmp .ge 18, 3) := by decide +kernel
theorem dX7_addText_10 : decode cX7_addText 10 = .ok (.aload_n 0, 1) := by decide +kernel
theorem dX7_addText_11 : decode cX7_addText 11 = .ok (.aload_n 1, 1) := by decide +kernel
theorem dX7_addText_12 : decode cX7_addText 12 = .ok (.iload_n 2, 1) := by decide +kernel
theorem dX7_addText_13 : decode cX7_addText 13 = .ok (.invokevirtual 84, 3) := by decide +kernel
theorem dX7_addText_16 : decode cX7_addText 16 = .ok (.invokevirtual 88, 3) := by decide +kernel
theorem dX7_addText_19 : decode cX7_addText 19 = .ok (.iinc 2 1, 3) := by decide +kernel
theorem dX7_addText_22 : decode cX7_addText 22 = .ok (.goto (-20), 3) := by decide +kernel
theorem dX7_addText_25 : decode cX7_addText 25 = .ok (.return_, 1) := by decide +kernel
def f_X7_addText_2 (x0 : Nat) (k2 : XM → Int32 → Option (XM)) (w0 : XM) (l2 : Int32) : Option (XM) :=
  if ((Int32.ofNat (x_len.getD x0 0)) : Int32) ≤ l2 then
  (some w0)
  else (x_ck l2 (x_len.getD x0 0) (
  x_lt (f_X7_addByte w0 (x_ch x0 l2)) (fun y1 =>
  k2 y1 (l2 + 1))))
def f_X7_addText (v0 : XM) (x0 : Nat) : Option (XM) :=
  x_lp (φ := XM → Int32 → Option (XM)) (fun _ _ => none) (f_X7_addText_2 x0 ) x_NN v0 (0 : Int32)
set_option maxRecDepth 100000 in
set_option maxHeartbeats 4000000 in
theorem w_X7_addText_2 {p : Program} {l : Launch} {e : Env} {s : State} {m : MethodId} {args : Array Value} {below : List Frame} {meth : Method} {c : Code} {D : va_G} {tc : Nat → ClassId} {aK aV : Nat → Nat} {A : Nat → Prop} {ad0 : Nat → Nat} {x0 : Nat} (X : Cx p s m args meth c cX7_addText 3 none RX7 D tc aK aV A [(shTag, ad0)]) (hk_x0 : x0 < 5) {o : XM}  : ∀ (n : Nat), ∀ (w0 : XM) (l2 : Int32), x_lp (φ := XM → Int32 → Option (XM)) (fun _ _ => none) (f_X7_addText_2 x0 ) n w0 l2 = some o → aW p l e (x_Rm 4) s m args below meth c D tc A 3 [(shTag, ad0)] none True [o] 2 [(0, .ref (ad0 0)), (1, .ref (aK x0)), (2, .int l2)] [] [w0] := by
  intro n
  induction n with
  | zero => intro w0 l2 h; exact absurd h (fun q => by cases q)
  | succ n ih =>
    intro w0 l2 h
    have h : f_X7_addText_2 x0  (x_lp (φ := XM → Int32 → Option (XM)) (fun _ _ => none) (f_X7_addText_2 x0 ) n) w0 l2 = some o := h
    generalize x_lp (φ := XM → Int32 → Option (XM)) (fun _ _ => none) (f_X7_addText_2 x0 ) n = k2 at h ih
    have hk2 := ih
    unfold f_X7_addText_2 at h
    refine a_iload_n (pc := 2) X 2 dX7_addText_2 rfl rfl ?_
    refine a_aload_n (pc := 3) X 1 dX7_addText_3 rfl rfl ?_
    refine a_callVK (pc := 4) (k := x0) (st2 := [.int (Int32.ofNat (x_len.getD x0 0)), .int l2]) (vs2 := [w0]) X hk_x0 [] [.int l2] cv_RX7_79 rfl (c_slen hk_x0) rfl rfl rfl rfl rfl rfl (Nat.le_of_ble_eq_true rfl) ⟨Nat.le_of_ble_eq_true rfl, Nat.le_of_ble_eq_true rfl⟩ dX7_addText_4 (fun _ => ?_)
    refine a_icmp_ge (pc := 7) X 25 dX7_addText_7 rfl (fun c_7 => ?_) (fun c_7 => ?_)
    · have h := x_ifp c_7 h
      have h := Option.some.inj h; subst h
      exact a_vret (pc := 25) X trivial dX7_addText_25
    · have h := x_ifn c_7 h
      refine a_aload_n (pc := 10) X 0 dX7_addText_10 rfl rfl ?_
      refine a_aload_n (pc := 11) X 1 dX7_addText_11 rfl rfl ?_
      refine a_iload_n (pc := 12) X 2 dX7_addText_12 rfl rfl ?_
      obtain ⟨c_13, h⟩ := x_ck_elim h
      refine a_callVK (pc := 13) (k := x0) (st2 := [.int (x_ch x0 l2), .ref (ad0 0)]) (vs2 := [w0]) X hk_x0 [.int l2] [.ref (ad0 0)] cv_RX7_84 rfl (c_sch hk_x0 c_13) rfl rfl rfl rfl rfl rfl (Nat.le_of_ble_eq_true rfl) ⟨Nat.le_of_ble_eq_true rfl, Nat.le_of_ble_eq_true rfl⟩ dX7_addText_13 (fun _ => ?_)
      obtain ⟨y1, e_y1, h⟩ := x_lt_elim h
      refine a_callV (pc := 16) (st2 := []) (vs2 := [y1]) X [(0, 0, 3)] [some y1] 0 0 7 [.int (x_ch x0 l2)] [] cv_RX7_88 (c_X7_addByte (ad0 := ad0)  e_y1) rfl rfl rfl rfl rfl rfl rfl rfl rfl rfl rfl rfl rfl rfl rfl (Nat.le_of_ble_eq_true rfl) ⟨Nat.le_of_ble_eq_true rfl, Nat.le_of_ble_eq_true rfl⟩ dX7_addText_16 (fun _ => ?_)
      refine a_iinc (pc := 19) X 2 [(2, .int (l2 + 1)), (0, .ref (ad0 0)), (1, .ref (aK x0))] dX7_addText_19 rfl (congrArg (HAdd.hAdd l2) q_ic_1) (by decide) rfl ?_
      refine a_goto (pc := 22) X 2 dX7_addText_22 rfl ?_
      refine a_sub [1, 2, 0] rfl ?_
      exact hk2 _ _ h
set_option maxRecDepth 100000 in
set_option maxHeartbeats 4000000 in
theorem c_X7_addText {l : Launch}  {ad0 : Nat → Nat} {v0 : XM} {x0 : Nat} (hk_x0 : x0 < 5) {o : XM} (h : f_X7_addText v0 x0 = some o) : CT l yX7_addText cX7_addText 3 none 4 [(shTag, ad0)] [v0] (fun aK => [.ref (ad0 0), .ref (aK x0)]) none True [o] := by
  refine CT_of (by decide) (fun _ => Nat.le_of_ble_eq_true rfl) ?_
  intro p e s m args below meth c D tc aK aV A X
  have X : Cx p s m args meth c cX7_addText 3 none RX7 D tc aK aV A [(shTag, ad0)] := X
  show aW p l e (x_Rm 4) s m args below meth c D tc A 3 [(shTag, ad0)] none True [o] 0 [(0, .ref (ad0 0)), (1, .ref (aK x0))] [] [v0]
  unfold f_X7_addText at h
  refine a_iconst (pc := 0) X dX7_addText_0 q_ic_0 ?_
  refine a_istore_n (pc := 1) X [(2, .int (0 : Int32)), (0, .ref (ad0 0)), (1, .ref (aK x0))] dX7_addText_1 rfl (by decide) rfl ?_
  refine a_sub [1, 2, 0] rfl ?_
  exact w_X7_addText_2 X  hk_x0  x_NN _ _ h
theorem dX7_write_0 : decode cX7_write 0 = .ok (.aload_n 0, 1) := by decide +kernel
theorem dX7_write_1 : decode cX7_write 1 = .ok (.iconst 0, 1) := by decide +kernel
theorem dX7_write_2 : decode cX7_write 2 = .ok (.putfield 20, 3) := by decide +kernel
theorem dX7_write_5 : decode cX7_write 5 = .ok (.aload_n 0, 1) := by decide +kernel
theorem dX7_write_6 : decode cX7_write 6 = .ok (.aload_n 1, 1) := by decide +kernel
theorem dX7_write_7 : decode cX7_write 7 = .ok (.getfield 24, 3) := by decide +kernel
theorem dX7_write_10 : decode cX7_write 10 = .ok (.bipush 14, 2) := by decide +kernel
theorem dX7_write_12 : decode cX7_write 12 = .ok (.iload_n 2, 1) := by decide +kernel
theorem dX7_write_13 : decode cX7_write 13 = .ok (.iadd, 1) := by decide +kernel
theorem dX7_write_14 : decode cX7_write 14 = .ok (.invokevirtual 30, 3) := by decide +kernel
theorem dX7_write_17 : decode cX7_write 17 = .ok (.invokevirtual 36, 3) := by decide +kernel
theorem dX7_write_20 : decode cX7_write 20 = .ok (.aload_n 0, 1) := by decide +kernel
theorem dX7_write_21 : decode cX7_write 21 = .ok (.aload_n 1, 1) := by decide +kernel
theorem dX7_write_22 : decode cX7_write 22 = .ok (.iload_n 2, 1) := by decide +kernel
theorem dX7_write_23 : decode cX7_write 23 = .ok (.invokevirtual 40, 3) := by decide +kernel
theorem dX7_write_26 : decode cX7_write 26 = .ok (.ifCond .eq 8, 3) := by decide +kernel
theorem dX7_write_29 : decode cX7_write 29 = .ok (.ldc 44, 2) := by decide +kernel
theorem dX7_write_31 : decode cX7_write 31 = .ok (.goto 5, 3) := by decide +kernel
theorem dX7_write_34 : decode cX7_write 34 = .ok (.ldc 46, 2) := by decide +kernel
theorem dX7_write_36 : decode cX7_write 36 = .ok (.invokevirtual 48, 3) := by decide +kernel
theorem dX7_write_39 : decode cX7_write 39 = .ok (.aload_n 0, 1) := by decide +kernel
theorem dX7_write_40 : decode cX7_write 40 = .ok (.aload_n 1, 1) := by decide +kernel
theorem dX7_write_41 : decode cX7_write 41 = .ok (.getfield 24, 3) := by decide +kernel
theorem dX7_write_44 : decode cX7_write 44 = .ok (.iconst 0, 1) := by decide +kernel
theorem dX7_write_45 : decode cX7_write 45 = .ok (.aload_n 1, 1) := by decide +kernel
theorem dX7_write_46 : decode cX7_write 46 = .ok (.getfield 52, 3) := by decide +kernel
theorem dX7_write_49 : decode cX7_write 49 = .ok (.getfield 56, 3) := by decide +kernel
theorem dX7_write_52 : decode cX7_write 52 = .ok (.iload_n 2, 1) := by decide +kernel
theorem dX7_write_53 : decode cX7_write 53 = .ok (.invokevirtual 61, 3) := by decide +kernel
theorem dX7_write_56 : decode cX7_write 56 = .ok (.iadd, 1) := by decide +kernel
theorem dX7_write_57 : decode cX7_write 57 = .ok (.invokevirtual 30, 3) := by decide +kernel
theorem dX7_write_60 : decode cX7_write 60 = .ok (.invokevirtual 36, 3) := by decide +kernel
theorem dX7_write_63 : decode cX7_write 63 = .ok (.aload_n 1, 1) := by decide +kernel
theorem dX7_write_64 : decode cX7_write 64 = .ok (.iload_n 2, 1) := by decide +kernel
theorem dX7_write_65 : decode cX7_write 65 = .ok (.invokevirtual 40, 3) := by decide +kernel
theorem dX7_write_68 : decode cX7_write 68 = .ok (.ifCond .eq 24, 3) := by decide +kernel
theorem dX7_write_71 : decode cX7_write 71 = .ok (.aload_n 0, 1) := by decide +kernel
theorem dX7_write_72 : decode cX7_write 72 = .ok (.ldc 65, 2) := by decide +kernel
theorem dX7_write_74 : decode cX7_write 74 = .ok (.invokevirtual 48, 3) := by decide +kernel
theorem dX7_write_77 : decode cX7_write 77 = .ok (.aload_n 0, 1) := by decide +kernel
theorem dX7_write_78 : decode cX7_write 78 = .ok (.aload_n 1, 1) := by decide +kernel
theorem dX7_write_79 : decode cX7_write 79 = .ok (.getfield 52, 3) := by decide +kernel
theorem dX7_write_82 : decode cX7_write 82 = .ok (.getfield 67, 3) := by decide +kernel
theorem dX7_write_85 : decode cX7_write 85 = .ok (.iload_n 2, 1) := by decide +kernel
theorem dX7_write_86 : decode cX7_write 86 = .ok (.invokevirtual 61, 3) := by decide +kernel
theorem dX7_write_89 : decode cX7_write 89 = .ok (.invokevirtual 70, 3) := by decide +kernel
theorem dX7_write_92 : decode cX7_write 92 = .ok (.iload_n 3, 1) := by decide +kernel
theorem dX7_write_93 : decode cX7_write 93 = .ok (.ifCond .eq 9, 3) := by decide +kernel
theorem dX7_write_96 : decode cX7_write 96 = .ok (.aload_n 0, 1) := by decide +kernel
theorem dX7_write_97 : decode cX7_write 97 = .ok (.ldc 73, 2) := by decide +kernel
theorem dX7_write_99 : decode cX7_write 99 = .ok (.invokevirtual 48, 3) := by decide +kernel
theorem dX7_write_102 : decode cX7_write 102 = .ok (.return_, 1) := by decide +kernel
def f_X7_write_92 (v1 : XM) (w0 : XM) (l3 : Int32) : Option (XM) :=
  if l3 = (0 : Int32) then
  (some w0)
  else (x_bo (f_X7_addText w0 4) (fun y1 =>
  some y1))
def f_X7_write (v0 : XM) (v1 : XM) (x1 : Int32) (x2 : Int32) : Option (XM) :=
  x_lt (x_si v0 0 1 (0 : Int32)) (fun m2 =>
  x_bo (f_X9_nameAt (x_sub v1 1) ((14 : Int32) + x1)) (fun y3 =>
  x_bo (f_X7_addName m2 y3) (fun y4 =>
  x_lt (f_X10_isGoing v1 x1) (fun y5 =>
  if y5 = (0 : Int32) then
  (x_bo (f_X7_addText y4 2) (fun y6 =>
  x_lt (r_get 5 (x_sub v1 18) x1) (fun y7 =>
  x_bo (f_X9_nameAt (x_sub v1 1) ((0 : Int32) + y7)) (fun y8 =>
  x_bo (f_X7_addName y6 y8) (fun y9 =>
  x_lt (f_X10_isGoing v1 x1) (fun y10 =>
  if y10 = (0 : Int32) then
  (f_X7_write_92 v1  y9 x2)
  else (x_bo (f_X7_addText y9 3) (fun y11 =>
  x_lt (r_get 5 (x_sub v1 22) x1) (fun y12 =>
  x_lt (f_X7_addDigit y11 y12) (fun y13 =>
  f_X7_write_92 v1  y13 x2))))))))))
  else (x_bo (f_X7_addText y4 1) (fun y14 =>
  x_lt (r_get 5 (x_sub v1 18) x1) (fun y15 =>
  x_bo (f_X9_nameAt (x_sub v1 1) ((0 : Int32) + y15)) (fun y16 =>
  x_bo (f_X7_addName y14 y16) (fun y17 =>
  x_lt (f_X10_isGoing v1 x1) (fun y18 =>
  if y18 = (0 : Int32) then
  (f_X7_write_92 v1  y17 x2)
  else (x_bo (f_X7_addText y17 3) (fun y19 =>
  x_lt (r_get 5 (x_sub v1 22) x1) (fun y20 =>
  x_lt (f_X7_addDigit y19 y20) (fun y21 =>
  f_X7_write_92 v1  y21 x2))))))))))))))
set_option maxRecDepth 100000 in
set_option maxHeartbeats 4000000 in
theorem w_X7_write_92 {p : Program} {l : Launch} {e : Env} {s : State} {m : MethodId} {args : Array Value} {below : List Frame} {meth : Method} {c : Code} {D : va_G} {tc : Nat → ClassId} {aK aV : Nat → Nat} {A : Nat → Prop} {ad0 : Nat → Nat} {ad1 : Nat → Nat} {v1 : XM} (X : Cx p s m args meth c cX7_write 4 none RX7 D tc aK aV A [(shTag, ad0), (shWorld, ad1)])  {o : XM}  {w0 : XM} {l3 : Int32} (hzl3 : x_Z l3) (h : f_X7_write_92 v1  w0 l3 = some o) : aW p l e (x_Rm 5) s m args below meth c D tc A 4 [(shTag, ad0), (shWorld, ad1)] none True [o, v1] 92 [(0, .ref (ad0 0)), (3, .int l3)] [] [w0, v1] := by
  unfold f_X7_write_92 at h
  refine a_iload_n (pc := 92) X 1 dX7_write_92 rfl rfl ?_
  refine a_if_eq (pc := 93) X 102 dX7_write_93 rfl (fun c_93 => ?_) (fun c_93 => ?_)
  · have h := x_ifp c_93 h
    have h := Option.some.inj h; subst h
    exact a_vret (pc := 102) X trivial dX7_write_102
  · have h := x_ifn c_93 h
    refine a_aload_n (pc := 96) X 0 dX7_write_96 rfl rfl ?_
    refine a_ldcS4 (pc := 97) X dX7_write_97 ?_
    obtain ⟨y1, e_y1, h⟩ := x_bo_elim h
    refine a_callV (pc := 99) (st2 := []) (vs2 := [y1, v1]) X [(0, 0, 3)] [some y1] 0 0 7 [.ref (aK 4)] [] cv_RX7_48 (c_X7_addText (ad0 := ad0) (by decide) e_y1) rfl rfl rfl rfl rfl rfl rfl rfl rfl rfl rfl rfl rfl rfl rfl (Nat.le_of_ble_eq_true rfl) ⟨Nat.le_of_ble_eq_true rfl, Nat.le_of_ble_eq_true rfl⟩ dX7_write_99 (fun _ => ?_)
    have h := Option.some.inj h; subst h
    exact a_vret (pc := 102) X trivial dX7_write_102
set_option maxRecDepth 100000 in
set_option maxHeartbeats 4000000 in
theorem c_X7_write {l : Launch}  {ad0 : Nat → Nat} {ad1 : Nat → Nat} {v0 v1 : XM} {x1 : Int32} {x2 : Int32} (hz2 : x_Z x2) {o : XM} (h : f_X7_write v0 v1 x1 x2 = some o) : CT l yX7_write cX7_write 4 none 5 [(shTag, ad0), (shWorld, ad1)] [v0, v1] (fun aK => [.ref (ad0 0), .ref (ad1 0), .int x1, .int x2]) none True [o, v1] := by
  refine CT_of (by decide) (fun _ => Nat.le_of_ble_eq_true rfl) ?_
  intro p e s m args below meth c D tc aK aV A X
  have X : Cx p s m args meth c cX7_write 4 none RX7 D tc aK aV A [(shTag, ad0), (shWorld, ad1)] := X
  show aW p l e (x_Rm 5) s m args below meth c D tc A 4 [(shTag, ad0), (shWorld, ad1)] none True [o, v1] 0 [(0, .ref (ad0 0)), (1, .ref (ad1 0)), (2, .int x1), (3, .int x2)] [] [v0, v1]
  unfold f_X7_write at h
  refine a_aload_n (pc := 0) X 0 dX7_write_0 rfl rfl ?_
  refine a_iconst (pc := 1) X dX7_write_1 q_ic_0 ?_
  refine a_putI (pc := 2) X 0 fl_RX7_20 rfl rfl rfl rfl dX7_write_2 ?_
  obtain ⟨m2, e_m2, h⟩ := x_lt_elim h
  refine a_nm (vs2 := [m2, v1]) (congrArg (fun q : XM => [q, v1]) e_m2) ?_
  refine a_aload_n (pc := 5) X 0 dX7_write_5 rfl rfl ?_
  refine a_aload_n (pc := 6) X 1 dX7_write_6 rfl rfl ?_
  refine a_getR (pc := 7) X 1 1 1 fl_RX7_24 rfl rfl rfl rfl rfl dX7_write_7 ?_
  refine a_bipush (pc := 10) X dX7_write_10 q_bp_14 ?_
  refine a_iload_n (pc := 12) X 2 dX7_write_12 rfl rfl ?_
  refine a_iadd (pc := 13) X dX7_write_13 ?_
  obtain ⟨y3, e_y3, h⟩ := x_bo_elim h
  refine a_callV (pc := 14) (st2 := [.long y3, .ref (ad0 0)]) (vs2 := [m2, v1]) X [(1, 1, 16)] [none] 1 1 9 [.int ((14 : Int32) + x1)] [.ref (ad0 0)] cv_RX7_30 (c_X9_nameAt (ad0 := (fun i => ad1 (i + 1)))  e_y3) rfl rfl rfl rfl rfl rfl rfl rfl rfl rfl rfl rfl rfl rfl rfl (Nat.le_of_ble_eq_true rfl) ⟨Nat.le_of_ble_eq_true rfl, Nat.le_of_ble_eq_true rfl⟩ dX7_write_14 (fun _ => ?_)
  obtain ⟨y4, e_y4, h⟩ := x_bo_elim h
  refine a_callV (pc := 17) (st2 := []) (vs2 := [y4, v1]) X [(0, 0, 3)] [some y4] 0 0 7 [.long y3] [] cv_RX7_36 (c_X7_addName (ad0 := ad0)  e_y4) rfl rfl rfl rfl rfl rfl rfl rfl rfl rfl rfl rfl rfl rfl rfl (Nat.le_of_ble_eq_true rfl) ⟨Nat.le_of_ble_eq_true rfl, Nat.le_of_ble_eq_true rfl⟩ dX7_write_17 (fun _ => ?_)
  refine a_aload_n (pc := 20) X 0 dX7_write_20 rfl rfl ?_
  refine a_aload_n (pc := 21) X 1 dX7_write_21 rfl rfl ?_
  refine a_iload_n (pc := 22) X 2 dX7_write_22 rfl rfl ?_
  obtain ⟨y5, e_y5, h⟩ := x_lt_elim h
  refine a_callV (pc := 23) (st2 := [.int y5, .ref (ad0 0)]) (vs2 := [y4, v1]) X [(1, 0, 32)] [none] 1 0 10 [.int x1] [.ref (ad0 0)] cv_RX7_40 (c_X10_isGoing (ad0 := ad1)  e_y5) rfl rfl rfl rfl rfl rfl rfl rfl rfl rfl rfl rfl rfl rfl rfl (Nat.le_of_ble_eq_true rfl) ⟨Nat.le_of_ble_eq_true rfl, Nat.le_of_ble_eq_true rfl⟩ dX7_write_23 (fun z_23 => ?_)
  refine a_if_eq (pc := 26) X 34 dX7_write_26 rfl (fun c_26 => ?_) (fun c_26 => ?_)
  · have h := x_ifp c_26 h
    refine a_ldcS2 (pc := 34) X dX7_write_34 ?_
    obtain ⟨y6, e_y6, h⟩ := x_bo_elim h
    refine a_callV (pc := 36) (st2 := []) (vs2 := [y6, v1]) X [(0, 0, 3)] [some y6] 0 0 7 [.ref (aK 2)] [] cv_RX7_48 (c_X7_addText (ad0 := ad0) (by decide) e_y6) rfl rfl rfl rfl rfl rfl rfl rfl rfl rfl rfl rfl rfl rfl rfl (Nat.le_of_ble_eq_true rfl) ⟨Nat.le_of_ble_eq_true rfl, Nat.le_of_ble_eq_true rfl⟩ dX7_write_36 (fun _ => ?_)
    refine a_aload_n (pc := 39) X 0 dX7_write_39 rfl rfl ?_
    refine a_aload_n (pc := 40) X 1 dX7_write_40 rfl rfl ?_
    refine a_getR (pc := 41) X 1 1 1 fl_RX7_24 rfl rfl rfl rfl rfl dX7_write_41 ?_
    refine a_iconst (pc := 44) X dX7_write_44 q_ic_0 ?_
    refine a_aload_n (pc := 45) X 1 dX7_write_45 rfl rfl ?_
    refine a_getR (pc := 46) X 1 17 17 fl_RX7_52 rfl rfl rfl rfl rfl dX7_write_46 ?_
    refine a_getR (pc := 49) X 1 1 18 fl_RX7_56 rfl rfl rfl rfl rfl dX7_write_49 ?_
    refine a_iload_n (pc := 52) X 2 dX7_write_52 rfl rfl ?_
    obtain ⟨y7, e_y7, h⟩ := x_lt_elim h
    refine a_callV (pc := 53) (st2 := [.int y7, .int (0 : Int32), .ref (ad1 1), .ref (ad0 0)]) (vs2 := [y6, v1]) X [(1, 18, 2)] [none] 1 18 3 [.int x1] [.int (0 : Int32), .ref (ad1 1), .ref (ad0 0)] cv_RX7_61 (ct_get (ad0 := (fun i => ad1 (i + 18))) (by decide) e_y7) rfl rfl rfl rfl rfl rfl rfl rfl rfl rfl rfl rfl rfl rfl rfl (Nat.le_of_ble_eq_true rfl) ⟨Nat.le_of_ble_eq_true rfl, Nat.le_of_ble_eq_true rfl⟩ dX7_write_53 (fun _ => ?_)
    refine a_iadd (pc := 56) X dX7_write_56 ?_
    obtain ⟨y8, e_y8, h⟩ := x_bo_elim h
    refine a_callV (pc := 57) (st2 := [.long y8, .ref (ad0 0)]) (vs2 := [y6, v1]) X [(1, 1, 16)] [none] 1 1 9 [.int ((0 : Int32) + y7)] [.ref (ad0 0)] cv_RX7_30 (c_X9_nameAt (ad0 := (fun i => ad1 (i + 1)))  e_y8) rfl rfl rfl rfl rfl rfl rfl rfl rfl rfl rfl rfl rfl rfl rfl (Nat.le_of_ble_eq_true rfl) ⟨Nat.le_of_ble_eq_true rfl, Nat.le_of_ble_eq_true rfl⟩ dX7_write_57 (fun _ => ?_)
    obtain ⟨y9, e_y9, h⟩ := x_bo_elim h
    refine a_callV (pc := 60) (st2 := []) (vs2 := [y9, v1]) X [(0, 0, 3)] [some y9] 0 0 7 [.long y8] [] cv_RX7_36 (c_X7_addName (ad0 := ad0)  e_y9) rfl rfl rfl rfl rfl rfl rfl rfl rfl rfl rfl rfl rfl rfl rfl (Nat.le_of_ble_eq_true rfl) ⟨Nat.le_of_ble_eq_true rfl, Nat.le_of_ble_eq_true rfl⟩ dX7_write_60 (fun _ => ?_)
    refine a_aload_n (pc := 63) X 1 dX7_write_63 rfl rfl ?_
    refine a_iload_n (pc := 64) X 2 dX7_write_64 rfl rfl ?_
    obtain ⟨y10, e_y10, h⟩ := x_lt_elim h
    refine a_callV (pc := 65) (st2 := [.int y10]) (vs2 := [y9, v1]) X [(1, 0, 32)] [none] 1 0 10 [.int x1] [] cv_RX7_40 (c_X10_isGoing (ad0 := ad1)  e_y10) rfl rfl rfl rfl rfl rfl rfl rfl rfl rfl rfl rfl rfl rfl rfl (Nat.le_of_ble_eq_true rfl) ⟨Nat.le_of_ble_eq_true rfl, Nat.le_of_ble_eq_true rfl⟩ dX7_write_65 (fun z_65 => ?_)
    refine a_if_eq (pc := 68) X 92 dX7_write_68 rfl (fun c_68 => ?_) (fun c_68 => ?_)
    · have h := x_ifp c_68 h
      refine a_sub [0, 3] rfl ?_
      exact w_X7_write_92 X    hz2 h
    · have h := x_ifn c_68 h
      refine a_aload_n (pc := 71) X 0 dX7_write_71 rfl rfl ?_
      refine a_ldcS3 (pc := 72) X dX7_write_72 ?_
      obtain ⟨y11, e_y11, h⟩ := x_bo_elim h
      refine a_callV (pc := 74) (st2 := []) (vs2 := [y11, v1]) X [(0, 0, 3)] [some y11] 0 0 7 [.ref (aK 3)] [] cv_RX7_48 (c_X7_addText (ad0 := ad0) (by decide) e_y11) rfl rfl rfl rfl rfl rfl rfl rfl rfl rfl rfl rfl rfl rfl rfl (Nat.le_of_ble_eq_true rfl) ⟨Nat.le_of_ble_eq_true rfl, Nat.le_of_ble_eq_true rfl⟩ dX7_write_74 (fun _ => ?_)
      refine a_aload_n (pc := 77) X 0 dX7_write_77 rfl rfl ?_
      refine a_aload_n (pc := 78) X 1 dX7_write_78 rfl rfl ?_
      refine a_getR (pc := 79) X 1 17 17 fl_RX7_52 rfl rfl rfl rfl rfl dX7_write_79 ?_
      refine a_getR (pc := 82) X 1 5 22 fl_RX7_67 rfl rfl rfl rfl rfl dX7_write_82 ?_
      refine a_iload_n (pc := 85) X 2 dX7_write_85 rfl rfl ?_
      obtain ⟨y12, e_y12, h⟩ := x_lt_elim h
      refine a_callV (pc := 86) (st2 := [.int y12, .ref (ad0 0)]) (vs2 := [y11, v1]) X [(1, 22, 2)] [none] 1 22 3 [.int x1] [.ref (ad0 0)] cv_RX7_61 (ct_get (ad0 := (fun i => ad1 (i + 22))) (by decide) e_y12) rfl rfl rfl rfl rfl rfl rfl rfl rfl rfl rfl rfl rfl rfl rfl (Nat.le_of_ble_eq_true rfl) ⟨Nat.le_of_ble_eq_true rfl, Nat.le_of_ble_eq_true rfl⟩ dX7_write_86 (fun _ => ?_)
      obtain ⟨y13, e_y13, h⟩ := x_lt_elim h
      refine a_callV (pc := 89) (st2 := []) (vs2 := [y13, v1]) X [(0, 0, 3)] [some y13] 0 0 7 [.int y12] [] cv_RX7_70 (c_X7_addDigit (ad0 := ad0)  e_y13) rfl rfl rfl rfl rfl rfl rfl rfl rfl rfl rfl rfl rfl rfl rfl (Nat.le_of_ble_eq_true rfl) ⟨Nat.le_of_ble_eq_true rfl, Nat.le_of_ble_eq_true rfl⟩ dX7_write_89 (fun _ => ?_)
      refine a_sub [0, 3] rfl ?_
      exact w_X7_write_92 X    hz2 h
  · have h := x_ifn c_26 h
    refine a_ldcS1 (pc := 29) X dX7_write_29 ?_
    refine a_goto (pc := 31) X 36 dX7_write_31 rfl ?_
    obtain ⟨y14, e_y14, h⟩ := x_bo_elim h
    refine a_callV (pc := 36) (st2 := []) (vs2 := [y14, v1]) X [(0, 0, 3)] [some y14] 0 0 7 [.ref (aK 1)] [] cv_RX7_48 (c_X7_addText (ad0 := ad0) (by decide) e_y14) rfl rfl rfl rfl rfl rfl rfl rfl rfl rfl rfl rfl rfl rfl rfl (Nat.le_of_ble_eq_true rfl) ⟨Nat.le_of_ble_eq_true rfl, Nat.le_of_ble_eq_true rfl⟩ dX7_write_36 (fun _ => ?_)
    refine a_aload_n (pc := 39) X 0 dX7_write_39 rfl rfl ?_
    refine a_aload_n (pc := 40) X 1 dX7_write_40 rfl rfl ?_
    refine a_getR (pc := 41) X 1 1 1 fl_RX7_24 rfl rfl rfl rfl rfl dX7_write_41 ?_
    refine a_iconst (pc := 44) X dX7_write_44 q_ic_0 ?_
    refine a_aload_n (pc := 45) X 1 dX7_write_45 rfl rfl ?_
    refine a_getR (pc := 46) X 1 17 17 fl_RX7_52 rfl rfl rfl rfl rfl dX7_write_46 ?_
    refine a_getR (pc := 49) X 1 1 18 fl_RX7_56 rfl rfl rfl rfl rfl dX7_write_49 ?_
    refine a_iload_n (pc := 52) X 2 dX7_write_52 rfl rfl ?_
    obtain ⟨y15, e_y15, h⟩ := x_lt_elim h
    refine a_callV (pc := 53) (st2 := [.int y15, .int (0 : Int32), .ref (ad1 1), .ref (ad0 0)]) (vs2 := [y14, v1]) X [(1, 18, 2)] [none] 1 18 3 [.int x1] [.int (0 : Int32), .ref (ad1 1), .ref (ad0 0)] cv_RX7_61 (ct_get (ad0 := (fun i => ad1 (i + 18))) (by decide) e_y15) rfl rfl rfl rfl rfl rfl rfl rfl rfl rfl rfl rfl rfl rfl rfl (Nat.le_of_ble_eq_true rfl) ⟨Nat.le_of_ble_eq_true rfl, Nat.le_of_ble_eq_true rfl⟩ dX7_write_53 (fun _ => ?_)
    refine a_iadd (pc := 56) X dX7_write_56 ?_
    obtain ⟨y16, e_y16, h⟩ := x_bo_elim h
    refine a_callV (pc := 57) (st2 := [.long y16, .ref (ad0 0)]) (vs2 := [y14, v1]) X [(1, 1, 16)] [none] 1 1 9 [.int ((0 : Int32) + y15)] [.ref (ad0 0)] cv_RX7_30 (c_X9_nameAt (ad0 := (fun i => ad1 (i + 1)))  e_y16) rfl rfl rfl rfl rfl rfl rfl rfl rfl rfl rfl rfl rfl rfl rfl (Nat.le_of_ble_eq_true rfl) ⟨Nat.le_of_ble_eq_true rfl, Nat.le_of_ble_eq_true rfl⟩ dX7_write_57 (fun _ => ?_)
    obtain ⟨y17, e_y17, h⟩ := x_bo_elim h
    refine a_callV (pc := 60) (st2 := []) (vs2 := [y17, v1]) X [(0, 0, 3)] [some y17] 0 0 7 [.long y16] [] cv_RX7_36 (c_X7_addName (ad0 := ad0)  e_y17) rfl rfl rfl rfl rfl rfl rfl rfl rfl rfl rfl rfl rfl rfl rfl (Nat.le_of_ble_eq_true rfl) ⟨Nat.le_of_ble_eq_true rfl, Nat.le_of_ble_eq_true rfl⟩ dX7_write_60 (fun _ => ?_)
    refine a_aload_n (pc := 63) X 1 dX7_write_63 rfl rfl ?_
    refine a_iload_n (pc := 64) X 2 dX7_write_64 rfl rfl ?_
    obtain ⟨y18, e_y18, h⟩ := x_lt_elim h
    refine a_callV (pc := 65) (st2 := [.int y18]) (vs2 := [y17, v1]) X [(1, 0, 32)] [none] 1 0 10 [.int x1] [] cv_RX7_40 (c_X10_isGoing (ad0 := ad1)  e_y18) rfl rfl rfl rfl rfl rfl rfl rfl rfl rfl rfl rfl rfl rfl rfl (Nat.le_of_ble_eq_true rfl) ⟨Nat.le_of_ble_eq_true rfl, Nat.le_of_ble_eq_true rfl⟩ dX7_write_65 (fun z_65 => ?_)
    refine a_if_eq (pc := 68) X 92 dX7_write_68 rfl (fun c_68 => ?_) (fun c_68 => ?_)
    · have h := x_ifp c_68 h
      refine a_sub [0, 3] rfl ?_
      exact w_X7_write_92 X    hz2 h
    · have h := x_ifn c_68 h
      refine a_aload_n (pc := 71) X 0 dX7_write_71 rfl rfl ?_
      refine a_ldcS3 (pc := 72) X dX7_write_72 ?_
      obtain ⟨y19, e_y19, h⟩ := x_bo_elim h
      refine a_callV (pc := 74) (st2 := []) (vs2 := [y19, v1]) X [(0, 0, 3)] [some y19] 0 0 7 [.ref (aK 3)] [] cv_RX7_48 (c_X7_addText (ad0 := ad0) (by decide) e_y19) rfl rfl rfl rfl rfl rfl rfl rfl rfl rfl rfl rfl rfl rfl rfl (Nat.le_of_ble_eq_true rfl) ⟨Nat.le_of_ble_eq_true rfl, Nat.le_of_ble_eq_true rfl⟩ dX7_write_74 (fun _ => ?_)
      refine a_aload_n (pc := 77) X 0 dX7_write_77 rfl rfl ?_
      refine a_aload_n (pc := 78) X 1 dX7_write_78 rfl rfl ?_
      refine a_getR (pc := 79) X 1 17 17 fl_RX7_52 rfl rfl rfl rfl rfl dX7_write_79 ?_
      refine a_getR (pc := 82) X 1 5 22 fl_RX7_67 rfl rfl rfl rfl rfl dX7_write_82 ?_
      refine a_iload_n (pc := 85) X 2 dX7_write_85 rfl rfl ?_
      obtain ⟨y20, e_y20, h⟩ := x_lt_elim h
      refine a_callV (pc := 86) (st2 := [.int y20, .ref (ad0 0)]) (vs2 := [y19, v1]) X [(1, 22, 2)] [none] 1 22 3 [.int x1] [.ref (ad0 0)] cv_RX7_61 (ct_get (ad0 := (fun i => ad1 (i + 22))) (by decide) e_y20) rfl rfl rfl rfl rfl rfl rfl rfl rfl rfl rfl rfl rfl rfl rfl (Nat.le_of_ble_eq_true rfl) ⟨Nat.le_of_ble_eq_true rfl, Nat.le_of_ble_eq_true rfl⟩ dX7_write_86 (fun _ => ?_)
      obtain ⟨y21, e_y21, h⟩ := x_lt_elim h
      refine a_callV (pc := 89) (st2 := []) (vs2 := [y21, v1]) X [(0, 0, 3)] [some y21] 0 0 7 [.int y20] [] cv_RX7_70 (c_X7_addDigit (ad0 := ad0)  e_y21) rfl rfl rfl rfl rfl rfl rfl rfl rfl rfl rfl rfl rfl rfl rfl (Nat.le_of_ble_eq_true rfl) ⟨Nat.le_of_ble_eq_true rfl, Nat.le_of_ble_eq_true rfl⟩ dX7_write_89 (fun _ => ?_)
      refine a_sub [0, 3] rfl ?_
      exact w_X7_write_92 X    hz2 h
theorem dX11_walker_0 : decode cX11_walker 0 = .ok (.aload_n 0, 1) := by decide +kernel
theorem dX11_walker_1 : decode cX11_walker 1 = .ok (.getfield 19, 3) := by decide +kernel
theorem dX11_walker_4 : decode cX11_walker 4 = .ok (.getfield 106, 3) := by decide +kernel
theorem dX11_walker_7 : decode cX11_walker 7 = .ok (.iload_n 1, 1) := by decide +kernel
theorem dX11_walker_8 : decode cX11_walker 8 = .ok (.invokevirtual 109, 3) := by decide +kernel
theorem dX11_walker_11 : decode cX11_walker 11 = .ok (.ifCond .ne 11, 3) := by decide +kernel
theorem dX11_walker_14 : decode cX11_walker 14 = .ok (.new 115, 3) := by decide +kernel
theorem dX11_walker_17 : decode cX11_walker 17 = .ok (.dup, 1) := by decide +kernel
theorem dX11_walker_18 : decode cX11_walker 18 = .ok (.invokespecial 117, 3) := by decide +kernel
theorem dX11_walker_21 : decode cX11_walker 21 = .ok (.athrow, 1) := by decide +kernel
theorem dX11_walker_22 : decode cX11_walker 22 = .ok (.iload_n 2, 1) := by decide +kernel
theorem dX11_walker_23 : decode cX11_walker 23 = .ok (.tableswitch 147 0 6 #[41, 56, 71, 86, 101, 116, 131], 41) := by decide +kernel
theorem dX11_walker_64 : decode cX11_walker 64 = .ok (.aload_n 0, 1) := by decide +kernel
theorem dX11_walker_65 : decode cX11_walker 65 = .ok (.getfield 19, 3) := by decide +kernel
theorem dX11_walker_68 : decode cX11_walker 68 = .ok (.getfield 118, 3) := by decide +kernel
theorem dX11_walker_71 : decode cX11_walker 71 = .ok (.getfield 121, 3) := by decide +kernel
theorem dX11_walker_74 : decode cX11_walker 74 = .ok (.iload_n 1, 1) := by decide +kernel
theorem dX11_walker_75 : decode cX11_walker 75 = .ok (.invokevirtual 125, 3) := by decide +kernel
theorem dX11_walker_78 : decode cX11_walker 78 = .ok (.ireturn, 1) := by decide +kernel
theorem dX11_walker_79 : decode cX11_walker 79 = .ok (.aload_n 0, 1) := by decide +kernel
theorem dX11_walker_80 : decode cX11_walker 80 = .ok (.getfield 19, 3) := by decide +kernel
theorem dX11_walker_83 : decode cX11_walker 83 = .ok (.getfield 106, 3) := by decide +kernel
theorem dX11_walker_86 : decode cX11_walker 86 = .ok (.getfield 131, 3) := by decide +kernel
theorem dX11_walker_89 : decode cX11_walker 89 = .ok (.iload_n 1, 1) := by decide +kernel
theorem dX11_walker_90 : decode cX11_walker 90 = .ok (.invokevirtual 125, 3) := by decide +kernel
theorem dX11_walker_93 : decode cX11_walker 93 = .ok (.ireturn, 1) := by decide +kernel
theorem dX11_walker_94 : decode cX11_walker 94 = .ok (.aload_n 0, 1) := by decide +kernel
theorem dX11_walker_95 : decode cX11_walker 95 = .ok (.getfield 19, 3) := by decide +kernel
theorem dX11_walker_98 : decode cX11_walker 98 = .ok (.getfield 118, 3) := by decide +kernel
theorem dX11_walker_101 : decode cX11_walker 101 = .ok (.getfield 134, 3) := by decide +kernel
theorem dX11_walker_104 : decode cX11_walker 104 = .ok (.iload_n 1, 1) := by decide +kernel
theorem dX11_walker_105 : decode cX11_walker 105 = .ok (.invokevirtual 125, 3) := by decide +kernel
theorem dX11_walker_108 : decode cX11_walker 108 = .ok (.ireturn, 1) := by decide +kernel
theorem dX11_walker_109 : decode cX11_walker 109 = .ok (.aload_n 0, 1) := by decide +kernel
theorem dX11_walker_110 : decode cX11_walker 110 = .ok (.getfield 19, 3) := by decide +kernel
theorem dX11_walker_113 : decode cX11_walker 113 = .ok (.getfield 118, 3) := by decide +kernel
theorem dX11_walker_116 : decode cX11_walker 116 = .ok (.getfield 137, 3) := by decide +kernel
theorem dX11_walker_119 : decode cX11_walker 119 = .ok (.iload_n 1, 1) := by decide +kernel
theorem dX11_walker_120 : decode cX11_walker 120 = .ok (.invokevirtual 125, 3) := by decide +kernel
theorem dX11_walker_123 : decode cX11_walker 123 = .ok (.ireturn, 1) := by decide +kernel
theorem dX11_walker_124 : decode cX11_walker 124 = .ok (.aload_n 0, 1) := by decide +kernel
theorem dX11_walker_125 : decode cX11_walker 125 = .ok (.getfield 19, 3) := by decide +kernel
theorem dX11_walker_128 : decode cX11_walker 128 = .ok (.getfield 118, 3) := by decide +kernel
theorem dX11_walker_131 : decode cX11_walker 131 = .ok (.getfield 140, 3) := by decide +kernel
theorem dX11_walker_134 : decode cX11_walker 134 = .ok (.iload_n 1, 1) := by decide +kernel
theorem dX11_walker_135 : decode cX11_walker 135 = .ok (.invokevirtual 125, 3) := by decide +kernel
theorem dX11_walker_138 : decode cX11_walker 138 = .ok (.ireturn, 1) := by decide +kernel
theorem dX11_walker_139 : decode cX11_walker 139 = .ok (.aload_n 0, 1) := by decide +kernel
theorem dX11_walker_140 : decode cX11_walker 140 = .ok (.getfield 19, 3) := by decide +kernel
theorem dX11_walker_143 : decode cX11_walker 143 = .ok (.getfield 118, 3) := by decide +kernel
theorem dX11_walker_146 : decode cX11_walker 146 = .ok (.getfield 143, 3) := by decide +kernel
theorem dX11_walker_149 : decode cX11_walker 149 = .ok (.iload_n 1, 1) := by decide +kernel
theorem dX11_walker_150 : decode cX11_walker 150 = .ok (.invokevirtual 125, 3) := by decide +kernel
theorem dX11_walker_153 : decode cX11_walker 153 = .ok (.ireturn, 1) := by decide +kernel
theorem dX11_walker_154 : decode cX11_walker 154 = .ok (.aload_n 0, 1) := by decide +kernel
theorem dX11_walker_155 : decode cX11_walker 155 = .ok (.getfield 67, 3) := by decide +kernel
theorem dX11_walker_158 : decode cX11_walker 158 = .ok (.aload_n 0, 1) := by decide +kernel
theorem dX11_walker_159 : decode cX11_walker 159 = .ok (.getfield 19, 3) := by decide +kernel
theorem dX11_walker_162 : decode cX11_walker 162 = .ok (.invokevirtual 146, 3) := by decide +kernel
theorem dX11_walker_165 : decode cX11_walker 165 = .ok (.iload_n 1, 1) := by decide +kernel
theorem dX11_walker_166 : decode cX11_walker 166 = .ok (.ishr, 1) := by decide +kernel
theorem dX11_walker_167 : decode cX11_walker 167 = .ok (.iconst 1, 1) := by decide +kernel
theorem dX11_walker_168 : decode cX11_walker 168 = .ok (.iand, 1) := by decide +kernel
theorem dX11_walker_169 : decode cX11_walker 169 = .ok (.ireturn, 1) := by decide +kernel
theorem dX11_walker_170 : decode cX11_walker 170 = .ok (.new 115, 3) := by decide +kernel
theorem dX11_walker_173 : decode cX11_walker 173 = .ok (.dup, 1) := by decide +kernel
theorem dX11_walker_174 : decode cX11_walker 174 = .ok (.invokespecial 117, 3) := by decide +kernel
theorem dX11_walker_177 : decode cX11_walker 177 = .ok (.athrow, 1) := by decide +kernel
def f_X11_walker (v0 : XM) (x0 : Int32) (x1 : Int32) : Option (Int32 × Int32 × XM) :=
  x_lt (f_X9_hasWalker (x_sub v0 6) x0) (fun y1 =>
  if y1 = (0 : Int32) then
  (some ((1 : Int32), (0 : Int32), v0))
  else (if x1 = (0 : Int32) then
  (x_lt (r_get 5 (x_sub v0 23) x0) (fun y3 =>
  some ((0 : Int32), y3, v0)))
  else (if x1 = (1 : Int32) then
  (x_lt (r_get 5 (x_sub v0 19) x0) (fun y4 =>
  some ((0 : Int32), y4, v0)))
  else (if x1 = (2 : Int32) then
  (x_lt (r_get 5 (x_sub v0 25) x0) (fun y5 =>
  some ((0 : Int32), y5, v0)))
  else (if x1 = (3 : Int32) then
  (x_lt (r_get 5 (x_sub v0 27) x0) (fun y6 =>
  some ((0 : Int32), y6, v0)))
  else (if x1 = (4 : Int32) then
  (x_lt (r_get 5 (x_sub v0 29) x0) (fun y7 =>
  some ((0 : Int32), y7, v0)))
  else (if x1 = (5 : Int32) then
  (x_lt (r_get 5 (x_sub v0 31) x0) (fun y8 =>
  some ((0 : Int32), y8, v0)))
  else (if x1 = (6 : Int32) then
  (x_bo (f_X2_lostWalkers (x_sub v0 300) (x_sub v0 5)) (fun y9 =>
  x_lt (x_put v0 300 15 y9.2) (fun m10 =>
  some ((0 : Int32), (y9.1 >>> (x0 &&& 31)) &&& (1 : Int32), m10))))
  else (some ((1 : Int32), (0 : Int32), v0))))))))))
set_option maxRecDepth 100000 in
set_option maxHeartbeats 4000000 in
theorem c_X11_walker {l : Launch} (hl0 : l.stackTraces = false) {ad0 : Nat → Nat} {v0 : XM} {x0 : Int32} {x1 : Int32} {o : Int32 × Int32 × XM} (h : f_X11_walker v0 x0 x1 = some o) : CTX l yX11_walker cX11_walker 3 (some .int) 7 [(shFoldRoads, ad0)] [v0] (fun aK => [.ref (ad0 0), .int x0, .int x1]) o.1 (some (.int o.2.1)) [o.2.2] := by
  refine CTX_of (by decide) (fun _ => Nat.le_of_ble_eq_true rfl) ?_
  intro p e s m args below meth c D tc aK aV A X htab hNw
  have X : Cx p s m args meth c cX11_walker 3 (some .int) RX11 D tc aK aV A [(shFoldRoads, ad0)] := X
  show xW p l e (x_RmX 7) s m args below meth c D tc A 3 [(shFoldRoads, ad0)] o.1 (some (.int o.2.1)) [o.2.2] 0 [(0, .ref (ad0 0)), (1, .int x0), (2, .int x1)] [] [v0]
  unfold f_X11_walker at h
  refine a_aload_n (pc := 0) X 0 dX11_walker_0 rfl rfl ?_
  refine a_getR (pc := 1) X 0 5 5 fl_RX11_19 rfl rfl rfl rfl rfl dX11_walker_1 ?_
  refine a_getR (pc := 4) X 0 1 6 fl_RX11_106 rfl rfl rfl rfl rfl dX11_walker_4 ?_
  refine a_iload_n (pc := 7) X 1 dX11_walker_7 rfl rfl ?_
  obtain ⟨y1, e_y1, h⟩ := x_lt_elim h
  refine a_callV (pc := 8) (st2 := [.int y1]) (vs2 := [v0]) X [(0, 6, 16)] [none] 0 6 9 [.int x0] [] cv_RX11_109 (c_X9_hasWalker (ad0 := (fun i => ad0 (i + 6)))  e_y1) rfl rfl rfl rfl rfl rfl rfl rfl rfl rfl rfl rfl rfl rfl rfl (Nat.le_of_ble_eq_true rfl) ⟨Nat.le_of_ble_eq_true rfl, Nat.le_of_ble_eq_true rfl⟩ dX11_walker_8 (fun z_8 => ?_)
  refine a_if_ne (pc := 11) X 22 dX11_walker_11 rfl (fun c_11 => ?_) (fun c_11 => ?_)
  · have h := x_ifn c_11 h
    refine a_iload_n (pc := 22) X 2 dX11_walker_22 rfl rfl ?_
    by_cases c_23_0 : x1 = (0 : Int32)
    · have h := x_ifp c_23_0 h
      refine a_tin (pc := 23) X 64 dX11_walker_23 c_23_0 (by decide) (by decide) rfl rfl ?_
      refine a_aload_n (pc := 64) X 0 dX11_walker_64 rfl rfl ?_
      refine a_getR (pc := 65) X 0 5 5 fl_RX11_19 rfl rfl rfl rfl rfl dX11_walker_65 ?_
      refine a_getR (pc := 68) X 0 17 22 fl_RX11_118 rfl rfl rfl rfl rfl dX11_walker_68 ?_
      refine a_getR (pc := 71) X 0 1 23 fl_RX11_121 rfl rfl rfl rfl rfl dX11_walker_71 ?_
      refine a_iload_n (pc := 74) X 1 dX11_walker_74 rfl rfl ?_
      obtain ⟨y3, e_y3, h⟩ := x_lt_elim h
      refine a_callV (pc := 75) (st2 := [.int y3]) (vs2 := [v0]) X [(0, 23, 2)] [none] 0 23 3 [.int x0] [] cv_RX11_125 (ct_get (ad0 := (fun i => ad0 (i + 23))) (by decide) e_y3) rfl rfl rfl rfl rfl rfl rfl rfl rfl rfl rfl rfl rfl rfl rfl (Nat.le_of_ble_eq_true rfl) ⟨Nat.le_of_ble_eq_true rfl, Nat.le_of_ble_eq_true rfl⟩ dX11_walker_75 (fun _ => ?_)
      have h := Option.some.inj h; subst h
      exact a_xret (pc := 78) X dX11_walker_78
    · have h := x_ifn c_23_0 h
      by_cases c_23_1 : x1 = (1 : Int32)
      · have h := x_ifp c_23_1 h
        refine a_tin (pc := 23) X 79 dX11_walker_23 c_23_1 (by decide) (by decide) rfl rfl ?_
        refine a_aload_n (pc := 79) X 0 dX11_walker_79 rfl rfl ?_
        refine a_getR (pc := 80) X 0 5 5 fl_RX11_19 rfl rfl rfl rfl rfl dX11_walker_80 ?_
        refine a_getR (pc := 83) X 0 1 6 fl_RX11_106 rfl rfl rfl rfl rfl dX11_walker_83 ?_
        refine a_getR (pc := 86) X 0 13 19 fl_RX11_131 rfl rfl rfl rfl rfl dX11_walker_86 ?_
        refine a_iload_n (pc := 89) X 1 dX11_walker_89 rfl rfl ?_
        obtain ⟨y4, e_y4, h⟩ := x_lt_elim h
        refine a_callV (pc := 90) (st2 := [.int y4]) (vs2 := [v0]) X [(0, 19, 2)] [none] 0 19 3 [.int x0] [] cv_RX11_125 (ct_get (ad0 := (fun i => ad0 (i + 19))) (by decide) e_y4) rfl rfl rfl rfl rfl rfl rfl rfl rfl rfl rfl rfl rfl rfl rfl (Nat.le_of_ble_eq_true rfl) ⟨Nat.le_of_ble_eq_true rfl, Nat.le_of_ble_eq_true rfl⟩ dX11_walker_90 (fun _ => ?_)
        have h := Option.some.inj h; subst h
        exact a_xret (pc := 93) X dX11_walker_93
      · have h := x_ifn c_23_1 h
        by_cases c_23_2 : x1 = (2 : Int32)
        · have h := x_ifp c_23_2 h
          refine a_tin (pc := 23) X 94 dX11_walker_23 c_23_2 (by decide) (by decide) rfl rfl ?_
          refine a_aload_n (pc := 94) X 0 dX11_walker_94 rfl rfl ?_
          refine a_getR (pc := 95) X 0 5 5 fl_RX11_19 rfl rfl rfl rfl rfl dX11_walker_95 ?_
          refine a_getR (pc := 98) X 0 17 22 fl_RX11_118 rfl rfl rfl rfl rfl dX11_walker_98 ?_
          refine a_getR (pc := 101) X 0 3 25 fl_RX11_134 rfl rfl rfl rfl rfl dX11_walker_101 ?_
          refine a_iload_n (pc := 104) X 1 dX11_walker_104 rfl rfl ?_
          obtain ⟨y5, e_y5, h⟩ := x_lt_elim h
          refine a_callV (pc := 105) (st2 := [.int y5]) (vs2 := [v0]) X [(0, 25, 2)] [none] 0 25 3 [.int x0] [] cv_RX11_125 (ct_get (ad0 := (fun i => ad0 (i + 25))) (by decide) e_y5) rfl rfl rfl rfl rfl rfl rfl rfl rfl rfl rfl rfl rfl rfl rfl (Nat.le_of_ble_eq_true rfl) ⟨Nat.le_of_ble_eq_true rfl, Nat.le_of_ble_eq_true rfl⟩ dX11_walker_105 (fun _ => ?_)
          have h := Option.some.inj h; subst h
          exact a_xret (pc := 108) X dX11_walker_108
        · have h := x_ifn c_23_2 h
          by_cases c_23_3 : x1 = (3 : Int32)
          · have h := x_ifp c_23_3 h
            refine a_tin (pc := 23) X 109 dX11_walker_23 c_23_3 (by decide) (by decide) rfl rfl ?_
            refine a_aload_n (pc := 109) X 0 dX11_walker_109 rfl rfl ?_
            refine a_getR (pc := 110) X 0 5 5 fl_RX11_19 rfl rfl rfl rfl rfl dX11_walker_110 ?_
            refine a_getR (pc := 113) X 0 17 22 fl_RX11_118 rfl rfl rfl rfl rfl dX11_walker_113 ?_
            refine a_getR (pc := 116) X 0 5 27 fl_RX11_137 rfl rfl rfl rfl rfl dX11_walker_116 ?_
            refine a_iload_n (pc := 119) X 1 dX11_walker_119 rfl rfl ?_
            obtain ⟨y6, e_y6, h⟩ := x_lt_elim h
            refine a_callV (pc := 120) (st2 := [.int y6]) (vs2 := [v0]) X [(0, 27, 2)] [none] 0 27 3 [.int x0] [] cv_RX11_125 (ct_get (ad0 := (fun i => ad0 (i + 27))) (by decide) e_y6) rfl rfl rfl rfl rfl rfl rfl rfl rfl rfl rfl rfl rfl rfl rfl (Nat.le_of_ble_eq_true rfl) ⟨Nat.le_of_ble_eq_true rfl, Nat.le_of_ble_eq_true rfl⟩ dX11_walker_120 (fun _ => ?_)
            have h := Option.some.inj h; subst h
            exact a_xret (pc := 123) X dX11_walker_123
          · have h := x_ifn c_23_3 h
            by_cases c_23_4 : x1 = (4 : Int32)
            · have h := x_ifp c_23_4 h
              refine a_tin (pc := 23) X 124 dX11_walker_23 c_23_4 (by decide) (by decide) rfl rfl ?_
              refine a_aload_n (pc := 124) X 0 dX11_walker_124 rfl rfl ?_
              refine a_getR (pc := 125) X 0 5 5 fl_RX11_19 rfl rfl rfl rfl rfl dX11_walker_125 ?_
              refine a_getR (pc := 128) X 0 17 22 fl_RX11_118 rfl rfl rfl rfl rfl dX11_walker_128 ?_
              refine a_getR (pc := 131) X 0 7 29 fl_RX11_140 rfl rfl rfl rfl rfl dX11_walker_131 ?_
              refine a_iload_n (pc := 134) X 1 dX11_walker_134 rfl rfl ?_
              obtain ⟨y7, e_y7, h⟩ := x_lt_elim h
              refine a_callV (pc := 135) (st2 := [.int y7]) (vs2 := [v0]) X [(0, 29, 2)] [none] 0 29 3 [.int x0] [] cv_RX11_125 (ct_get (ad0 := (fun i => ad0 (i + 29))) (by decide) e_y7) rfl rfl rfl rfl rfl rfl rfl rfl rfl rfl rfl rfl rfl rfl rfl (Nat.le_of_ble_eq_true rfl) ⟨Nat.le_of_ble_eq_true rfl, Nat.le_of_ble_eq_true rfl⟩ dX11_walker_135 (fun _ => ?_)
              have h := Option.some.inj h; subst h
              exact a_xret (pc := 138) X dX11_walker_138
            · have h := x_ifn c_23_4 h
              by_cases c_23_5 : x1 = (5 : Int32)
              · have h := x_ifp c_23_5 h
                refine a_tin (pc := 23) X 139 dX11_walker_23 c_23_5 (by decide) (by decide) rfl rfl ?_
                refine a_aload_n (pc := 139) X 0 dX11_walker_139 rfl rfl ?_
                refine a_getR (pc := 140) X 0 5 5 fl_RX11_19 rfl rfl rfl rfl rfl dX11_walker_140 ?_
                refine a_getR (pc := 143) X 0 17 22 fl_RX11_118 rfl rfl rfl rfl rfl dX11_walker_143 ?_
                refine a_getR (pc := 146) X 0 9 31 fl_RX11_143 rfl rfl rfl rfl rfl dX11_walker_146 ?_
                refine a_iload_n (pc := 149) X 1 dX11_walker_149 rfl rfl ?_
                obtain ⟨y8, e_y8, h⟩ := x_lt_elim h
                refine a_callV (pc := 150) (st2 := [.int y8]) (vs2 := [v0]) X [(0, 31, 2)] [none] 0 31 3 [.int x0] [] cv_RX11_125 (ct_get (ad0 := (fun i => ad0 (i + 31))) (by decide) e_y8) rfl rfl rfl rfl rfl rfl rfl rfl rfl rfl rfl rfl rfl rfl rfl (Nat.le_of_ble_eq_true rfl) ⟨Nat.le_of_ble_eq_true rfl, Nat.le_of_ble_eq_true rfl⟩ dX11_walker_150 (fun _ => ?_)
                have h := Option.some.inj h; subst h
                exact a_xret (pc := 153) X dX11_walker_153
              · have h := x_ifn c_23_5 h
                by_cases c_23_6 : x1 = (6 : Int32)
                · have h := x_ifp c_23_6 h
                  refine a_tin (pc := 23) X 154 dX11_walker_23 c_23_6 (by decide) (by decide) rfl rfl ?_
                  refine a_aload_n (pc := 154) X 0 dX11_walker_154 rfl rfl ?_
                  refine a_getR (pc := 155) X 0 300 300 fl_RX11_67 rfl rfl rfl rfl rfl dX11_walker_155 ?_
                  refine a_aload_n (pc := 158) X 0 dX11_walker_158 rfl rfl ?_
                  refine a_getR (pc := 159) X 0 5 5 fl_RX11_19 rfl rfl rfl rfl rfl dX11_walker_159 ?_
                  obtain ⟨y9, e_y9, h⟩ := x_bo_elim h
                  refine a_callV (pc := 162) (st2 := [.int y9.1]) (vs2 := [x_put v0 300 15 y9.2]) X [(0, 300, 15), (0, 5, 32)] [some y9.2, none] 0 300 2 [.ref (ad0 5)] [] cv_RX11_146 (c_X2_lostWalkers (ad0 := (fun i => ad0 (i + 300))) (ad1 := (fun i => ad0 (i + 5)))  e_y9) rfl rfl rfl rfl rfl rfl rfl rfl rfl rfl rfl rfl rfl rfl rfl (Nat.le_of_ble_eq_true rfl) ⟨Nat.le_of_ble_eq_true rfl, Nat.le_of_ble_eq_true rfl⟩ dX11_walker_162 (fun _ => ?_)
                  obtain ⟨m10, e_m10, h⟩ := x_lt_elim h
                  refine a_nm (vs2 := [m10]) (congrArg (fun q : XM => [q]) e_m10) ?_
                  refine a_iload_n (pc := 165) X 1 dX11_walker_165 rfl rfl ?_
                  refine a_ishr (pc := 166) X dX11_walker_166 ?_
                  refine a_iconst (pc := 167) X dX11_walker_167 q_ic_1 ?_
                  refine a_iand (pc := 168) X dX11_walker_168 ?_
                  have h := Option.some.inj h; subst h
                  exact a_xret (pc := 169) X dX11_walker_169
                · have h := x_ifn c_23_6 h
                  refine a_tout (pc := 23) X 170 dX11_walker_23 (by have q0 := x_ne c_23_0; have q1 := x_ne c_23_1; have q2 := x_ne c_23_2; have q3 := x_ne c_23_3; have q4 := x_ne c_23_4; have q5 := x_ne c_23_5; have q6 := x_ne c_23_6; have q0 : (x1 : Int32).toInt ≠ 0 := q0; have q1 : (x1 : Int32).toInt ≠ 1 := q1; have q2 : (x1 : Int32).toInt ≠ 2 := q2; have q3 : (x1 : Int32).toInt ≠ 3 := q3; have q4 : (x1 : Int32).toInt ≠ 4 := q4; have q5 : (x1 : Int32).toInt ≠ 5 := q5; have q6 : (x1 : Int32).toInt ≠ 6 := q6; omega) rfl ?_
                  have h := Option.some.inj h; subst h
                  exact a_throw (pc := 170) X hl0 htab hNw k_thr dX11_walker_170 dX11_walker_173 dX11_walker_174 dX11_walker_177 (Nat.le_of_ble_eq_true rfl) (Nat.le_of_ble_eq_true rfl) (Nat.le_of_ble_eq_true rfl) (Nat.le_of_ble_eq_true rfl)
  · have h := x_ifp c_11 h
    have h := Option.some.inj h; subst h
    exact a_throw (pc := 14) X hl0 htab hNw k_thr dX11_walker_14 dX11_walker_17 dX11_walker_18 dX11_walker_21 (Nat.le_of_ble_eq_true rfl) (Nat.le_of_ble_eq_true rfl) (Nat.le_of_ble_eq_true rfl) (Nat.le_of_ble_eq_true rfl)
theorem dX11_tryDeed_0 : decode cX11_tryDeed 0 = .ok (.aload_n 0, 1) := by decide +kernel
theorem dX11_tryDeed_1 : decode cX11_tryDeed 1 = .ok (.getfield 32, 3) := by decide +kernel
theorem dX11_tryDeed_4 : decode cX11_tryDeed 4 = .ok (.aload_n 0, 1) := by decide +kernel
theorem dX11_tryDeed_5 : decode cX11_tryDeed 5 = .ok (.getfield 19, 3) := by decide +kernel
theorem dX11_tryDeed_8 : decode cX11_tryDeed 8 = .ok (.getfield 118, 3) := by decide +kernel
theorem dX11_tryDeed_11 : decode cX11_tryDeed 11 = .ok (.invokevirtual 230, 3) := by decide +kernel
theorem dX11_tryDeed_14 : decode cX11_tryDeed 14 = .ok (.aload_n 0, 1) := by decide +kernel
theorem dX11_tryDeed_15 : decode cX11_tryDeed 15 = .ok (.getfield 19, 3) := by decide +kernel
theorem dX11_tryDeed_18 : decode cX11_tryDeed 18 = .ok (.iload_n 1, 1) := by decide +kernel
theorem dX11_tryDeed_19 : decode cX11_tryDeed 19 = .ok (.iload_n 2, 1) := by decide +kernel
theorem dX11_tryDeed_20 : decode cX11_tryDeed 20 = .ok (.iload_n 3, 1) := by decide +kernel
theorem dX11_tryDeed_21 : decode cX11_tryDeed 21 = .ok (.iload 4, 2) := by decide +kernel
theorem dX11_tryDeed_23 : decode cX11_tryDeed 23 = .ok (.invokevirtual 234, 3) := by decide +kernel
theorem dX11_tryDeed_26 : decode cX11_tryDeed 26 = .ok (.istore 5, 2) := by decide +kernel
theorem dX11_tryDeed_28 : decode cX11_tryDeed 28 = .ok (.iload 5, 2) := by decide +kernel
theorem dX11_tryDeed_30 : decode cX11_tryDeed 30 = .ok (.ifCond .ne 14, 3) := by decide +kernel
theorem dX11_tryDeed_33 : decode cX11_tryDeed 33 = .ok (.aload_n 0, 1) := by decide +kernel
theorem dX11_tryDeed_34 : decode cX11_tryDeed 34 = .ok (.getfield 39, 3) := by decide +kernel
theorem dX11_tryDeed_37 : decode cX11_tryDeed 37 = .ok (.aload_n 0, 1) := by decide +kernel
theorem dX11_tryDeed_38 : decode cX11_tryDeed 38 = .ok (.getfield 32, 3) := by decide +kernel
theorem dX11_tryDeed_41 : decode cX11_tryDeed 41 = .ok (.invokevirtual 237, 3) := by decide +kernel
theorem dX11_tryDeed_44 : decode cX11_tryDeed 44 = .ok (.iload 5, 2) := by decide +kernel
theorem dX11_tryDeed_46 : decode cX11_tryDeed 46 = .ok (.ireturn, 1) := by decide +kernel
def f_X11_tryDeed (v0 : XM) (x0 : Int32) (x1 : Int32) (x2 : Int32) (x3 : Int32) : Option (Int32 × XM) :=
  x_lt (f_X5_become (x_sub v0 128) (x_sub v0 22)) (fun y1 =>
  x_lt (x_put v0 128 15 y1) (fun m2 =>
  x_bo (f_X10_perform (x_sub m2 5) x0 x1 x2 x3) (fun y3 =>
  x_lt (x_put m2 5 32 y3.2) (fun m4 =>
  if y3.1 = (0 : Int32) then
  (x_lt (f_X1_keep (x_sub m4 143) (x_sub m4 128)) (fun y5 =>
  x_lt (x_put m4 143 122 y5) (fun m6 =>
  some (y3.1, m6))))
  else (some (y3.1, m4))))))
set_option maxRecDepth 100000 in
set_option maxHeartbeats 4000000 in
theorem c_X11_tryDeed {l : Launch}  {ad0 : Nat → Nat} {v0 : XM} {x0 : Int32} {x1 : Int32} {x2 : Int32} {x3 : Int32}  {o : Int32 × XM} (h : f_X11_tryDeed v0 x0 x1 x2 x3 = some o) : CT l yX11_tryDeed cX11_tryDeed 6 (some .int) 5 [(shFoldRoads, ad0)] [v0] (fun aK => [.ref (ad0 0), .int x0, .int x1, .int x2, .int x3]) (some (.int o.1)) True [o.2] := by
  refine CT_of (by decide) (fun _ => Nat.le_of_ble_eq_true rfl) ?_
  intro p e s m args below meth c D tc aK aV A X
  have X : Cx p s m args meth c cX11_tryDeed 6 (some .int) RX11 D tc aK aV A [(shFoldRoads, ad0)] := X
  show aW p l e (x_Rm 5) s m args below meth c D tc A 6 [(shFoldRoads, ad0)] (some (.int o.1)) True [o.2] 0 [(0, .ref (ad0 0)), (1, .int x0), (2, .int x1), (3, .int x2), (4, .int x3)] [] [v0]
  unfold f_X11_tryDeed at h
  refine a_aload_n (pc := 0) X 0 dX11_tryDeed_0 rfl rfl ?_
  refine a_getR (pc := 1) X 0 128 128 fl_RX11_32 rfl rfl rfl rfl rfl dX11_tryDeed_1 ?_
  refine a_aload_n (pc := 4) X 0 dX11_tryDeed_4 rfl rfl ?_
  refine a_getR (pc := 5) X 0 5 5 fl_RX11_19 rfl rfl rfl rfl rfl dX11_tryDeed_5 ?_
  refine a_getR (pc := 8) X 0 17 22 fl_RX11_118 rfl rfl rfl rfl rfl dX11_tryDeed_8 ?_
  obtain ⟨y1, e_y1, h⟩ := x_lt_elim h
  refine a_callV (pc := 11) (st2 := []) (vs2 := [x_put v0 128 15 y1]) X [(0, 128, 15), (0, 22, 15)] [some y1, none] 0 128 5 [.ref (ad0 22)] [] cv_RX11_230 (c_X5_become (ad0 := (fun i => ad0 (i + 128))) (ad1 := (fun i => ad0 (i + 22)))  e_y1) rfl rfl rfl rfl rfl rfl rfl rfl rfl rfl rfl rfl rfl rfl rfl (Nat.le_of_ble_eq_true rfl) ⟨Nat.le_of_ble_eq_true rfl, Nat.le_of_ble_eq_true rfl⟩ dX11_tryDeed_11 (fun _ => ?_)
  obtain ⟨m2, e_m2, h⟩ := x_lt_elim h
  refine a_nm (vs2 := [m2]) (congrArg (fun q : XM => [q]) e_m2) ?_
  refine a_aload_n (pc := 14) X 0 dX11_tryDeed_14 rfl rfl ?_
  refine a_getR (pc := 15) X 0 5 5 fl_RX11_19 rfl rfl rfl rfl rfl dX11_tryDeed_15 ?_
  refine a_iload_n (pc := 18) X 1 dX11_tryDeed_18 rfl rfl ?_
  refine a_iload_n (pc := 19) X 2 dX11_tryDeed_19 rfl rfl ?_
  refine a_iload_n (pc := 20) X 3 dX11_tryDeed_20 rfl rfl ?_
  refine a_iload (pc := 21) X 4 dX11_tryDeed_21 rfl ?_
  obtain ⟨y3, e_y3, h⟩ := x_bo_elim h
  refine a_callV (pc := 23) (st2 := [.int y3.1]) (vs2 := [x_put m2 5 32 y3.2]) X [(0, 5, 32)] [some y3.2] 0 5 10 [.int x0, .int x1, .int x2, .int x3] [] cv_RX11_234 (c_X10_perform (ad0 := (fun i => ad0 (i + 5)))  e_y3) rfl rfl rfl rfl rfl rfl rfl rfl rfl rfl rfl rfl rfl rfl rfl (Nat.le_of_ble_eq_true rfl) ⟨Nat.le_of_ble_eq_true rfl, Nat.le_of_ble_eq_true rfl⟩ dX11_tryDeed_23 (fun _ => ?_)
  obtain ⟨m4, e_m4, h⟩ := x_lt_elim h
  refine a_nm (vs2 := [m4]) (congrArg (fun q : XM => [q]) e_m4) ?_
  refine a_istore (pc := 26) X [(5, .int y3.1), (0, .ref (ad0 0)), (1, .int x0), (2, .int x1), (3, .int x2), (4, .int x3)] dX11_tryDeed_26 (by decide) rfl ?_
  refine a_iload (pc := 28) X 0 dX11_tryDeed_28 rfl ?_
  refine a_if_ne (pc := 30) X 44 dX11_tryDeed_30 rfl (fun c_30 => ?_) (fun c_30 => ?_)
  · have h := x_ifn c_30 h
    refine a_iload (pc := 44) X 0 dX11_tryDeed_44 rfl ?_
    have h := Option.some.inj h; subst h
    exact a_iret (pc := 46) X trivial dX11_tryDeed_46
  · have h := x_ifp c_30 h
    refine a_aload_n (pc := 33) X 1 dX11_tryDeed_33 rfl rfl ?_
    refine a_getR (pc := 34) X 0 143 143 fl_RX11_39 rfl rfl rfl rfl rfl dX11_tryDeed_34 ?_
    refine a_aload_n (pc := 37) X 1 dX11_tryDeed_37 rfl rfl ?_
    refine a_getR (pc := 38) X 0 128 128 fl_RX11_32 rfl rfl rfl rfl rfl dX11_tryDeed_38 ?_
    obtain ⟨y5, e_y5, h⟩ := x_lt_elim h
    refine a_callV (pc := 41) (st2 := []) (vs2 := [x_put m4 143 122 y5]) X [(0, 143, 122), (0, 128, 15)] [some y5, none] 0 143 1 [.ref (ad0 128)] [] cv_RX11_237 (c_X1_keep (ad0 := (fun i => ad0 (i + 143))) (ad1 := (fun i => ad0 (i + 128)))  e_y5) rfl rfl rfl rfl rfl rfl rfl rfl rfl rfl rfl rfl rfl rfl rfl (Nat.le_of_ble_eq_true rfl) ⟨Nat.le_of_ble_eq_true rfl, Nat.le_of_ble_eq_true rfl⟩ dX11_tryDeed_41 (fun _ => ?_)
    obtain ⟨m6, e_m6, h⟩ := x_lt_elim h
    refine a_nm (vs2 := [m6]) (congrArg (fun q : XM => [q]) e_m6) ?_
    refine a_iload (pc := 44) X 0 dX11_tryDeed_44 rfl ?_
    have h := Option.some.inj h; subst h
    exact a_iret (pc := 46) X trivial dX11_tryDeed_46
theorem dX11_walk_0 : decode cX11_walk 0 = .ok (.aload_n 0, 1) := by decide +kernel
theorem dX11_walk_1 : decode cX11_walk 1 = .ok (.getfield 19, 3) := by decide +kernel
theorem dX11_walk_4 : decode cX11_walk 4 = .ok (.getfield 106, 3) := by decide +kernel
theorem dX11_walk_7 : decode cX11_walk 7 = .ok (.iload_n 1, 1) := by decide +kernel
theorem dX11_walk_8 : decode cX11_walk 8 = .ok (.invokevirtual 109, 3) := by decide +kernel
theorem dX11_walk_11 : decode cX11_walk 11 = .ok (.ifCond .eq 17, 3) := by decide +kernel
theorem dX11_walk_14 : decode cX11_walk 14 = .ok (.aload_n 0, 1) := by decide +kernel
theorem dX11_walk_15 : decode cX11_walk 15 = .ok (.getfield 19, 3) := by decide +kernel
theorem dX11_walk_18 : decode cX11_walk 18 = .ok (.getfield 106, 3) := by decide +kernel
theorem dX11_walk_21 : decode cX11_walk 21 = .ok (.iload_n 2, 1) := by decide +kernel
theorem dX11_walk_22 : decode cX11_walk 22 = .ok (.invokevirtual 150, 3) := by decide +kernel
theorem dX11_walk_25 : decode cX11_walk 25 = .ok (.ifCond .ne 5, 3) := by decide +kernel
theorem dX11_walk_28 : decode cX11_walk 28 = .ok (.iconst (-1), 1) := by decide +kernel
theorem dX11_walk_29 : decode cX11_walk 29 = .ok (.ireturn, 1) := by decide +kernel
theorem dX11_walk_30 : decode cX11_walk 30 = .ok (.aload_n 0, 1) := by decide +kernel
theorem dX11_walk_31 : decode cX11_walk 31 = .ok (.bipush 9, 2) := by decide +kernel
theorem dX11_walk_33 : decode cX11_walk 33 = .ok (.iload_n 1, 1) := by decide +kernel
theorem dX11_walk_34 : decode cX11_walk 34 = .ok (.iload_n 2, 1) := by decide +kernel
theorem dX11_walk_35 : decode cX11_walk 35 = .ok (.iconst 0, 1) := by decide +kernel
theorem dX11_walk_36 : decode cX11_walk 36 = .ok (.invokevirtual 223, 3) := by decide +kernel
theorem dX11_walk_39 : decode cX11_walk 39 = .ok (.ireturn, 1) := by decide +kernel
def f_X11_walk (v0 : XM) (x0 : Int32) (x1 : Int32) : Option (Int32 × XM) :=
  x_lt (f_X9_hasWalker (x_sub v0 6) x0) (fun y1 =>
  if y1 = (0 : Int32) then
  (some ((-1 : Int32), v0))
  else (x_lt (f_X9_hasFold (x_sub v0 6) x1) (fun y2 =>
  if y2 = (0 : Int32) then
  (some ((-1 : Int32), v0))
  else (x_bo (f_X11_tryDeed v0 (9 : Int32) x0 x1 (0 : Int32)) (fun y3 =>
  some (y3.1, y3.2))))))
set_option maxRecDepth 100000 in
set_option maxHeartbeats 4000000 in
theorem c_X11_walk {l : Launch}  {ad0 : Nat → Nat} {v0 : XM} {x0 : Int32} {x1 : Int32}  {o : Int32 × XM} (h : f_X11_walk v0 x0 x1 = some o) : CT l yX11_walk cX11_walk 3 (some .int) 6 [(shFoldRoads, ad0)] [v0] (fun aK => [.ref (ad0 0), .int x0, .int x1]) (some (.int o.1)) True [o.2] := by
  refine CT_of (by decide) (fun _ => Nat.le_of_ble_eq_true rfl) ?_
  intro p e s m args below meth c D tc aK aV A X
  have X : Cx p s m args meth c cX11_walk 3 (some .int) RX11 D tc aK aV A [(shFoldRoads, ad0)] := X
  show aW p l e (x_Rm 6) s m args below meth c D tc A 3 [(shFoldRoads, ad0)] (some (.int o.1)) True [o.2] 0 [(0, .ref (ad0 0)), (1, .int x0), (2, .int x1)] [] [v0]
  unfold f_X11_walk at h
  refine a_aload_n (pc := 0) X 0 dX11_walk_0 rfl rfl ?_
  refine a_getR (pc := 1) X 0 5 5 fl_RX11_19 rfl rfl rfl rfl rfl dX11_walk_1 ?_
  refine a_getR (pc := 4) X 0 1 6 fl_RX11_106 rfl rfl rfl rfl rfl dX11_walk_4 ?_
  refine a_iload_n (pc := 7) X 1 dX11_walk_7 rfl rfl ?_
  obtain ⟨y1, e_y1, h⟩ := x_lt_elim h
  refine a_callV (pc := 8) (st2 := [.int y1]) (vs2 := [v0]) X [(0, 6, 16)] [none] 0 6 9 [.int x0] [] cv_RX11_109 (c_X9_hasWalker (ad0 := (fun i => ad0 (i + 6)))  e_y1) rfl rfl rfl rfl rfl rfl rfl rfl rfl rfl rfl rfl rfl rfl rfl (Nat.le_of_ble_eq_true rfl) ⟨Nat.le_of_ble_eq_true rfl, Nat.le_of_ble_eq_true rfl⟩ dX11_walk_8 (fun z_8 => ?_)
  refine a_if_eq (pc := 11) X 28 dX11_walk_11 rfl (fun c_11 => ?_) (fun c_11 => ?_)
  · have h := x_ifp c_11 h
    refine a_iconst (pc := 28) X dX11_walk_28 q_ic_m1 ?_
    have h := Option.some.inj h; subst h
    exact a_iret (pc := 29) X trivial dX11_walk_29
  · have h := x_ifn c_11 h
    refine a_aload_n (pc := 14) X 0 dX11_walk_14 rfl rfl ?_
    refine a_getR (pc := 15) X 0 5 5 fl_RX11_19 rfl rfl rfl rfl rfl dX11_walk_15 ?_
    refine a_getR (pc := 18) X 0 1 6 fl_RX11_106 rfl rfl rfl rfl rfl dX11_walk_18 ?_
    refine a_iload_n (pc := 21) X 2 dX11_walk_21 rfl rfl ?_
    obtain ⟨y2, e_y2, h⟩ := x_lt_elim h
    refine a_callV (pc := 22) (st2 := [.int y2]) (vs2 := [v0]) X [(0, 6, 16)] [none] 0 6 9 [.int x1] [] cv_RX11_150 (c_X9_hasFold (ad0 := (fun i => ad0 (i + 6)))  e_y2) rfl rfl rfl rfl rfl rfl rfl rfl rfl rfl rfl rfl rfl rfl rfl (Nat.le_of_ble_eq_true rfl) ⟨Nat.le_of_ble_eq_true rfl, Nat.le_of_ble_eq_true rfl⟩ dX11_walk_22 (fun z_22 => ?_)
    refine a_if_ne (pc := 25) X 30 dX11_walk_25 rfl (fun c_25 => ?_) (fun c_25 => ?_)
    · have h := x_ifn c_25 h
      refine a_aload_n (pc := 30) X 0 dX11_walk_30 rfl rfl ?_
      refine a_bipush (pc := 31) X dX11_walk_31 q_bp_9 ?_
      refine a_iload_n (pc := 33) X 1 dX11_walk_33 rfl rfl ?_
      refine a_iload_n (pc := 34) X 2 dX11_walk_34 rfl rfl ?_
      refine a_iconst (pc := 35) X dX11_walk_35 q_ic_0 ?_
      obtain ⟨y3, e_y3, h⟩ := x_bo_elim h
      refine a_callV (pc := 36) (st2 := [.int y3.1]) (vs2 := [y3.2]) X [(0, 0, 318)] [some y3.2] 0 0 11 [.int (9 : Int32), .int x0, .int x1, .int (0 : Int32)] [] cv_RX11_223 (c_X11_tryDeed (ad0 := ad0)  e_y3) rfl rfl rfl rfl rfl rfl rfl rfl rfl rfl rfl rfl rfl rfl rfl (Nat.le_of_ble_eq_true rfl) ⟨Nat.le_of_ble_eq_true rfl, Nat.le_of_ble_eq_true rfl⟩ dX11_walk_36 (fun _ => ?_)
      have h := Option.some.inj h; subst h
      exact a_iret (pc := 39) X trivial dX11_walk_39
    · have h := x_ifp c_25 h
      refine a_iconst (pc := 28) X dX11_walk_28 q_ic_m1 ?_
      have h := Option.some.inj h; subst h
      exact a_iret (pc := 29) X trivial dX11_walk_29
theorem dX11_learn_0 : decode cX11_learn 0 = .ok (.aload_n 0, 1) := by decide +kernel
theorem dX11_learn_1 : decode cX11_learn 1 = .ok (.getfield 19, 3) := by decide +kernel
theorem dX11_learn_4 : decode cX11_learn 4 = .ok (.getfield 106, 3) := by decide +kernel
theorem dX11_learn_7 : decode cX11_learn 7 = .ok (.iload_n 1, 1) := by decide +kernel
theorem dX11_learn_8 : decode cX11_learn 8 = .ok (.invokevirtual 109, 3) := by decide +kernel
theorem dX11_learn_11 : decode cX11_learn 11 = .ok (.ifCond .eq 17, 3) := by decide +kernel
theorem dX11_learn_14 : decode cX11_learn 14 = .ok (.aload_n 0, 1) := by decide +kernel
theorem dX11_learn_15 : decode cX11_learn 15 = .ok (.getfield 19, 3) := by decide +kernel
theorem dX11_learn_18 : decode cX11_learn 18 = .ok (.getfield 106, 3) := by decide +kernel
theorem dX11_learn_21 : decode cX11_learn 21 = .ok (.iload_n 2, 1) := by decide +kernel
theorem dX11_learn_22 : decode cX11_learn 22 = .ok (.invokevirtual 227, 3) := by decide +kernel
theorem dX11_learn_25 : decode cX11_learn 25 = .ok (.ifCond .ne 5, 3) := by decide +kernel
theorem dX11_learn_28 : decode cX11_learn 28 = .ok (.iconst (-1), 1) := by decide +kernel
theorem dX11_learn_29 : decode cX11_learn 29 = .ok (.ireturn, 1) := by decide +kernel
theorem dX11_learn_30 : decode cX11_learn 30 = .ok (.aload_n 0, 1) := by decide +kernel
theorem dX11_learn_31 : decode cX11_learn 31 = .ok (.bipush 10, 2) := by decide +kernel
theorem dX11_learn_33 : decode cX11_learn 33 = .ok (.iload_n 1, 1) := by decide +kernel
theorem dX11_learn_34 : decode cX11_learn 34 = .ok (.iload_n 2, 1) := by decide +kernel
theorem dX11_learn_35 : decode cX11_learn 35 = .ok (.iconst 0, 1) := by decide +kernel
theorem dX11_learn_36 : decode cX11_learn 36 = .ok (.invokevirtual 223, 3) := by decide +kernel
theorem dX11_learn_39 : decode cX11_learn 39 = .ok (.ireturn, 1) := by decide +kernel
def f_X11_learn (v0 : XM) (x0 : Int32) (x1 : Int32) : Option (Int32 × XM) :=
  x_lt (f_X9_hasWalker (x_sub v0 6) x0) (fun y1 =>
  if y1 = (0 : Int32) then
  (some ((-1 : Int32), v0))
  else (x_lt (f_X9_hasThing (x_sub v0 6) x1) (fun y2 =>
  if y2 = (0 : Int32) then
  (some ((-1 : Int32), v0))
  else (x_bo (f_X11_tryDeed v0 (10 : Int32) x0 x1 (0 : Int32)) (fun y3 =>
  some (y3.1, y3.2))))))
set_option maxRecDepth 100000 in
set_option maxHeartbeats 4000000 in
theorem c_X11_learn {l : Launch}  {ad0 : Nat → Nat} {v0 : XM} {x0 : Int32} {x1 : Int32}  {o : Int32 × XM} (h : f_X11_learn v0 x0 x1 = some o) : CT l yX11_learn cX11_learn 3 (some .int) 6 [(shFoldRoads, ad0)] [v0] (fun aK => [.ref (ad0 0), .int x0, .int x1]) (some (.int o.1)) True [o.2] := by
  refine CT_of (by decide) (fun _ => Nat.le_of_ble_eq_true rfl) ?_
  intro p e s m args below meth c D tc aK aV A X
  have X : Cx p s m args meth c cX11_learn 3 (some .int) RX11 D tc aK aV A [(shFoldRoads, ad0)] := X
  show aW p l e (x_Rm 6) s m args below meth c D tc A 3 [(shFoldRoads, ad0)] (some (.int o.1)) True [o.2] 0 [(0, .ref (ad0 0)), (1, .int x0), (2, .int x1)] [] [v0]
  unfold f_X11_learn at h
  refine a_aload_n (pc := 0) X 0 dX11_learn_0 rfl rfl ?_
  refine a_getR (pc := 1) X 0 5 5 fl_RX11_19 rfl rfl rfl rfl rfl dX11_learn_1 ?_
  refine a_getR (pc := 4) X 0 1 6 fl_RX11_106 rfl rfl rfl rfl rfl dX11_learn_4 ?_
  refine a_iload_n (pc := 7) X 1 dX11_learn_7 rfl rfl ?_
  obtain ⟨y1, e_y1, h⟩ := x_lt_elim h
  refine a_callV (pc := 8) (st2 := [.int y1]) (vs2 := [v0]) X [(0, 6, 16)] [none] 0 6 9 [.int x0] [] cv_RX11_109 (c_X9_hasWalker (ad0 := (fun i => ad0 (i + 6)))  e_y1) rfl rfl rfl rfl rfl rfl rfl rfl rfl rfl rfl rfl rfl rfl rfl (Nat.le_of_ble_eq_true rfl) ⟨Nat.le_of_ble_eq_true rfl, Nat.le_of_ble_eq_true rfl⟩ dX11_learn_8 (fun z_8 => ?_)
  refine a_if_eq (pc := 11) X 28 dX11_learn_11 rfl (fun c_11 => ?_) (fun c_11 => ?_)
  · have h := x_ifp c_11 h
    refine a_iconst (pc := 28) X dX11_learn_28 q_ic_m1 ?_
    have h := Option.some.inj h; subst h
    exact a_iret (pc := 29) X trivial dX11_learn_29
  · have h := x_ifn c_11 h
    refine a_aload_n (pc := 14) X 0 dX11_learn_14 rfl rfl ?_
    refine a_getR (pc := 15) X 0 5 5 fl_RX11_19 rfl rfl rfl rfl rfl dX11_learn_15 ?_
    refine a_getR (pc := 18) X 0 1 6 fl_RX11_106 rfl rfl rfl rfl rfl dX11_learn_18 ?_
    refine a_iload_n (pc := 21) X 2 dX11_learn_21 rfl rfl ?_
    obtain ⟨y2, e_y2, h⟩ := x_lt_elim h
    refine a_callV (pc := 22) (st2 := [.int y2]) (vs2 := [v0]) X [(0, 6, 16)] [none] 0 6 9 [.int x1] [] cv_RX11_227 (c_X9_hasThing (ad0 := (fun i => ad0 (i + 6)))  e_y2) rfl rfl rfl rfl rfl rfl rfl rfl rfl rfl rfl rfl rfl rfl rfl (Nat.le_of_ble_eq_true rfl) ⟨Nat.le_of_ble_eq_true rfl, Nat.le_of_ble_eq_true rfl⟩ dX11_learn_22 (fun z_22 => ?_)
    refine a_if_ne (pc := 25) X 30 dX11_learn_25 rfl (fun c_25 => ?_) (fun c_25 => ?_)
    · have h := x_ifn c_25 h
      refine a_aload_n (pc := 30) X 0 dX11_learn_30 rfl rfl ?_
      refine a_bipush (pc := 31) X dX11_learn_31 q_bp_10 ?_
      refine a_iload_n (pc := 33) X 1 dX11_learn_33 rfl rfl ?_
      refine a_iload_n (pc := 34) X 2 dX11_learn_34 rfl rfl ?_
      refine a_iconst (pc := 35) X dX11_learn_35 q_ic_0 ?_
      obtain ⟨y3, e_y3, h⟩ := x_bo_elim h
      refine a_callV (pc := 36) (st2 := [.int y3.1]) (vs2 := [y3.2]) X [(0, 0, 318)] [some y3.2] 0 0 11 [.int (10 : Int32), .int x0, .int x1, .int (0 : Int32)] [] cv_RX11_223 (c_X11_tryDeed (ad0 := ad0)  e_y3) rfl rfl rfl rfl rfl rfl rfl rfl rfl rfl rfl rfl rfl rfl rfl (Nat.le_of_ble_eq_true rfl) ⟨Nat.le_of_ble_eq_true rfl, Nat.le_of_ble_eq_true rfl⟩ dX11_learn_36 (fun _ => ?_)
      have h := Option.some.inj h; subst h
      exact a_iret (pc := 39) X trivial dX11_learn_39
    · have h := x_ifp c_25 h
      refine a_iconst (pc := 28) X dX11_learn_28 q_ic_m1 ?_
      have h := Option.some.inj h; subst h
      exact a_iret (pc := 29) X trivial dX11_learn_29
theorem dX11_tell_0 : decode cX11_tell 0 = .ok (.aload_n 0, 1) := by decide +kernel
theorem dX11_tell_1 : decode cX11_tell 1 = .ok (.getfield 19, 3) := by decide +kernel
theorem dX11_tell_4 : decode cX11_tell 4 = .ok (.getfield 106, 3) := by decide +kernel
theorem dX11_tell_7 : decode cX11_tell 7 = .ok (.iload_n 1, 1) := by decide +kernel
theorem dX11_tell_8 : decode cX11_tell 8 = .ok (.invokevirtual 109, 3) := by decide +kernel
theorem dX11_tell_11 : decode cX11_tell 11 = .ok (.ifCond .eq 17, 3) := by decide +kernel
theorem dX11_tell_14 : decode cX11_tell 14 = .ok (.aload_n 0, 1) := by decide +kernel
theorem dX11_tell_15 : decode cX11_tell 15 = .ok (.getfield 19, 3) := by decide +kernel
theorem dX11_tell_18 : decode cX11_tell 18 = .ok (.getfield 106, 3) := by decide +kernel
theorem dX11_tell_21 : decode cX11_tell 21 = .ok (.iload_n 2, 1) := by decide +kernel
theorem dX11_tell_22 : decode cX11_tell 22 = .ok (.invokevirtual 109, 3) := by decide +kernel
theorem dX11_tell_25 : decode cX11_tell 25 = .ok (.ifCond .ne 5, 3) := by decide +kernel
theorem dX11_tell_28 : decode cX11_tell 28 = .ok (.iconst (-1), 1) := by decide +kernel
theorem dX11_tell_29 : decode cX11_tell 29 = .ok (.ireturn, 1) := by decide +kernel
theorem dX11_tell_30 : decode cX11_tell 30 = .ok (.aload_n 0, 1) := by decide +kernel
theorem dX11_tell_31 : decode cX11_tell 31 = .ok (.bipush 11, 2) := by decide +kernel
theorem dX11_tell_33 : decode cX11_tell 33 = .ok (.iload_n 1, 1) := by decide +kernel
theorem dX11_tell_34 : decode cX11_tell 34 = .ok (.iload_n 2, 1) := by decide +kernel
theorem dX11_tell_35 : decode cX11_tell 35 = .ok (.iconst 0, 1) := by decide +kernel
theorem dX11_tell_36 : decode cX11_tell 36 = .ok (.invokevirtual 223, 3) := by decide +kernel
theorem dX11_tell_39 : decode cX11_tell 39 = .ok (.ireturn, 1) := by decide +kernel
def f_X11_tell (v0 : XM) (x0 : Int32) (x1 : Int32) : Option (Int32 × XM) :=
  x_lt (f_X9_hasWalker (x_sub v0 6) x0) (fun y1 =>
  if y1 = (0 : Int32) then
  (some ((-1 : Int32), v0))
  else (x_lt (f_X9_hasWalker (x_sub v0 6) x1) (fun y2 =>
  if y2 = (0 : Int32) then
  (some ((-1 : Int32), v0))
  else (x_bo (f_X11_tryDeed v0 (11 : Int32) x0 x1 (0 : Int32)) (fun y3 =>
  some (y3.1, y3.2))))))
set_option maxRecDepth 100000 in
set_option maxHeartbeats 4000000 in
theorem c_X11_tell {l : Launch}  {ad0 : Nat → Nat} {v0 : XM} {x0 : Int32} {x1 : Int32}  {o : Int32 × XM} (h : f_X11_tell v0 x0 x1 = some o) : CT l yX11_tell cX11_tell 3 (some .int) 6 [(shFoldRoads, ad0)] [v0] (fun aK => [.ref (ad0 0), .int x0, .int x1]) (some (.int o.1)) True [o.2] := by
  refine CT_of (by decide) (fun _ => Nat.le_of_ble_eq_true rfl) ?_
  intro p e s m args below meth c D tc aK aV A X
  have X : Cx p s m args meth c cX11_tell 3 (some .int) RX11 D tc aK aV A [(shFoldRoads, ad0)] := X
  show aW p l e (x_Rm 6) s m args below meth c D tc A 3 [(shFoldRoads, ad0)] (some (.int o.1)) True [o.2] 0 [(0, .ref (ad0 0)), (1, .int x0), (2, .int x1)] [] [v0]
  unfold f_X11_tell at h
  refine a_aload_n (pc := 0) X 0 dX11_tell_0 rfl rfl ?_
  refine a_getR (pc := 1) X 0 5 5 fl_RX11_19 rfl rfl rfl rfl rfl dX11_tell_1 ?_
  refine a_getR (pc := 4) X 0 1 6 fl_RX11_106 rfl rfl rfl rfl rfl dX11_tell_4 ?_
  refine a_iload_n (pc := 7) X 1 dX11_tell_7 rfl rfl ?_
  obtain ⟨y1, e_y1, h⟩ := x_lt_elim h
  refine a_callV (pc := 8) (st2 := [.int y1]) (vs2 := [v0]) X [(0, 6, 16)] [none] 0 6 9 [.int x0] [] cv_RX11_109 (c_X9_hasWalker (ad0 := (fun i => ad0 (i + 6)))  e_y1) rfl rfl rfl rfl rfl rfl rfl rfl rfl rfl rfl rfl rfl rfl rfl (Nat.le_of_ble_eq_true rfl) ⟨Nat.le_of_ble_eq_true rfl, Nat.le_of_ble_eq_true rfl⟩ dX11_tell_8 (fun z_8 => ?_)
  refine a_if_eq (pc := 11) X 28 dX11_tell_11 rfl (fun c_11 => ?_) (fun c_11 => ?_)
  · have h := x_ifp c_11 h
    refine a_iconst (pc := 28) X dX11_tell_28 q_ic_m1 ?_
    have h := Option.some.inj h; subst h
    exact a_iret (pc := 29) X trivial dX11_tell_29
  · have h := x_ifn c_11 h
    refine a_aload_n (pc := 14) X 0 dX11_tell_14 rfl rfl ?_
    refine a_getR (pc := 15) X 0 5 5 fl_RX11_19 rfl rfl rfl rfl rfl dX11_tell_15 ?_
    refine a_getR (pc := 18) X 0 1 6 fl_RX11_106 rfl rfl rfl rfl rfl dX11_tell_18 ?_
    refine a_iload_n (pc := 21) X 2 dX11_tell_21 rfl rfl ?_
    obtain ⟨y2, e_y2, h⟩ := x_lt_elim h
    refine a_callV (pc := 22) (st2 := [.int y2]) (vs2 := [v0]) X [(0, 6, 16)] [none] 0 6 9 [.int x1] [] cv_RX11_109 (c_X9_hasWalker (ad0 := (fun i => ad0 (i + 6)))  e_y2) rfl rfl rfl rfl rfl rfl rfl rfl rfl rfl rfl rfl rfl rfl rfl (Nat.le_of_ble_eq_true rfl) ⟨Nat.le_of_ble_eq_true rfl, Nat.le_of_ble_eq_true rfl⟩ dX11_tell_22 (fun z_22 => ?_)
    refine a_if_ne (pc := 25) X 30 dX11_tell_25 rfl (fun c_25 => ?_) (fun c_25 => ?_)
    · have h := x_ifn c_25 h
      refine a_aload_n (pc := 30) X 0 dX11_tell_30 rfl rfl ?_
      refine a_bipush (pc := 31) X dX11_tell_31 q_bp_11 ?_
      refine a_iload_n (pc := 33) X 1 dX11_tell_33 rfl rfl ?_
      refine a_iload_n (pc := 34) X 2 dX11_tell_34 rfl rfl ?_
      refine a_iconst (pc := 35) X dX11_tell_35 q_ic_0 ?_
      obtain ⟨y3, e_y3, h⟩ := x_bo_elim h
      refine a_callV (pc := 36) (st2 := [.int y3.1]) (vs2 := [y3.2]) X [(0, 0, 318)] [some y3.2] 0 0 11 [.int (11 : Int32), .int x0, .int x1, .int (0 : Int32)] [] cv_RX11_223 (c_X11_tryDeed (ad0 := ad0)  e_y3) rfl rfl rfl rfl rfl rfl rfl rfl rfl rfl rfl rfl rfl rfl rfl (Nat.le_of_ble_eq_true rfl) ⟨Nat.le_of_ble_eq_true rfl, Nat.le_of_ble_eq_true rfl⟩ dX11_tell_36 (fun _ => ?_)
      have h := Option.some.inj h; subst h
      exact a_iret (pc := 39) X trivial dX11_tell_39
    · have h := x_ifp c_25 h
      refine a_iconst (pc := 28) X dX11_tell_28 q_ic_m1 ?_
      have h := Option.some.inj h; subst h
      exact a_iret (pc := 29) X trivial dX11_tell_29
theorem dX11_rest_0 : decode cX11_rest 0 = .ok (.aload_n 0, 1) := by decide +kernel
theorem dX11_rest_1 : decode cX11_rest 1 = .ok (.getfield 19, 3) := by decide +kernel
theorem dX11_rest_4 : decode cX11_rest 4 = .ok (.getfield 106, 3) := by decide +kernel
theorem dX11_rest_7 : decode cX11_rest 7 = .ok (.iload_n 1, 1) := by decide +kernel
theorem dX11_rest_8 : decode cX11_rest 8 = .ok (.invokevirtual 109, 3) := by decide +kernel
theorem dX11_rest_11 : decode cX11_rest 11 = .ok (.ifCond .eq 15, 3) := by decide +kernel
theorem dX11_rest_14 : decode cX11_rest 14 = .ok (.aload_n 0, 1) := by decide +kernel
theorem dX11_rest_15 : decode cX11_rest 15 = .ok (.bipush 12, 2) := by decide +kernel
theorem dX11_rest_17 : decode cX11_rest 17 = .ok (.iload_n 1, 1) := by decide +kernel
theorem dX11_rest_18 : decode cX11_rest 18 = .ok (.iconst 0, 1) := by decide +kernel
theorem dX11_rest_19 : decode cX11_rest 19 = .ok (.iconst 0, 1) := by decide +kernel
theorem dX11_rest_20 : decode cX11_rest 20 = .ok (.invokevirtual 223, 3) := by decide +kernel
theorem dX11_rest_23 : decode cX11_rest 23 = .ok (.goto 4, 3) := by decide +kernel
theorem dX11_rest_26 : decode cX11_rest 26 = .ok (.iconst (-1), 1) := by decide +kernel
theorem dX11_rest_27 : decode cX11_rest 27 = .ok (.ireturn, 1) := by decide +kernel
def f_X11_rest (v0 : XM) (x0 : Int32) : Option (Int32 × XM) :=
  x_lt (f_X9_hasWalker (x_sub v0 6) x0) (fun y1 =>
  if y1 = (0 : Int32) then
  (some ((-1 : Int32), v0))
  else (x_bo (f_X11_tryDeed v0 (12 : Int32) x0 (0 : Int32) (0 : Int32)) (fun y2 =>
  some (y2.1, y2.2))))
set_option maxRecDepth 100000 in
set_option maxHeartbeats 4000000 in
theorem c_X11_rest {l : Launch}  {ad0 : Nat → Nat} {v0 : XM} {x0 : Int32}  {o : Int32 × XM} (h : f_X11_rest v0 x0 = some o) : CT l yX11_rest cX11_rest 2 (some .int) 6 [(shFoldRoads, ad0)] [v0] (fun aK => [.ref (ad0 0), .int x0]) (some (.int o.1)) True [o.2] := by
  refine CT_of (by decide) (fun _ => Nat.le_of_ble_eq_true rfl) ?_
  intro p e s m args below meth c D tc aK aV A X
  have X : Cx p s m args meth c cX11_rest 2 (some .int) RX11 D tc aK aV A [(shFoldRoads, ad0)] := X
  show aW p l e (x_Rm 6) s m args below meth c D tc A 2 [(shFoldRoads, ad0)] (some (.int o.1)) True [o.2] 0 [(0, .ref (ad0 0)), (1, .int x0)] [] [v0]
  unfold f_X11_rest at h
  refine a_aload_n (pc := 0) X 0 dX11_rest_0 rfl rfl ?_
  refine a_getR (pc := 1) X 0 5 5 fl_RX11_19 rfl rfl rfl rfl rfl dX11_rest_1 ?_
  refine a_getR (pc := 4) X 0 1 6 fl_RX11_106 rfl rfl rfl rfl rfl dX11_rest_4 ?_
  refine a_iload_n (pc := 7) X 1 dX11_rest_7 rfl rfl ?_
  obtain ⟨y1, e_y1, h⟩ := x_lt_elim h
  refine a_callV (pc := 8) (st2 := [.int y1]) (vs2 := [v0]) X [(0, 6, 16)] [none] 0 6 9 [.int x0] [] cv_RX11_109 (c_X9_hasWalker (ad0 := (fun i => ad0 (i + 6)))  e_y1) rfl rfl rfl rfl rfl rfl rfl rfl rfl rfl rfl rfl rfl rfl rfl (Nat.le_of_ble_eq_true rfl) ⟨Nat.le_of_ble_eq_true rfl, Nat.le_of_ble_eq_true rfl⟩ dX11_rest_8 (fun z_8 => ?_)
  refine a_if_eq (pc := 11) X 26 dX11_rest_11 rfl (fun c_11 => ?_) (fun c_11 => ?_)
  · have h := x_ifp c_11 h
    refine a_iconst (pc := 26) X dX11_rest_26 q_ic_m1 ?_
    have h := Option.some.inj h; subst h
    exact a_iret (pc := 27) X trivial dX11_rest_27
  · have h := x_ifn c_11 h
    refine a_aload_n (pc := 14) X 0 dX11_rest_14 rfl rfl ?_
    refine a_bipush (pc := 15) X dX11_rest_15 q_bp_12 ?_
    refine a_iload_n (pc := 17) X 1 dX11_rest_17 rfl rfl ?_
    refine a_iconst (pc := 18) X dX11_rest_18 q_ic_0 ?_
    refine a_iconst (pc := 19) X dX11_rest_19 q_ic_0 ?_
    obtain ⟨y2, e_y2, h⟩ := x_bo_elim h
    refine a_callV (pc := 20) (st2 := [.int y2.1]) (vs2 := [y2.2]) X [(0, 0, 318)] [some y2.2] 0 0 11 [.int (12 : Int32), .int x0, .int (0 : Int32), .int (0 : Int32)] [] cv_RX11_223 (c_X11_tryDeed (ad0 := ad0)  e_y2) rfl rfl rfl rfl rfl rfl rfl rfl rfl rfl rfl rfl rfl rfl rfl (Nat.le_of_ble_eq_true rfl) ⟨Nat.le_of_ble_eq_true rfl, Nat.le_of_ble_eq_true rfl⟩ dX11_rest_20 (fun _ => ?_)
    refine a_goto (pc := 23) X 27 dX11_rest_23 rfl ?_
    have h := Option.some.inj h; subst h
    exact a_iret (pc := 27) X trivial dX11_rest_27
theorem dX11_cream_0 : decode cX11_cream 0 = .ok (.aload_n 0, 1) := by decide +kernel
theorem dX11_cream_1 : decode cX11_cream 1 = .ok (.getfield 19, 3) := by decide +kernel
theorem dX11_cream_4 : decode cX11_cream 4 = .ok (.getfield 106, 3) := by decide +kernel
theorem dX11_cream_7 : decode cX11_cream 7 = .ok (.iload_n 1, 1) := by decide +kernel
theorem dX11_cream_8 : decode cX11_cream 8 = .ok (.invokevirtual 150, 3) := by decide +kernel
theorem dX11_cream_11 : decode cX11_cream 11 = .ok (.ifCond .eq 15, 3) := by decide +kernel
theorem dX11_cream_14 : decode cX11_cream 14 = .ok (.aload_n 0, 1) := by decide +kernel
theorem dX11_cream_15 : decode cX11_cream 15 = .ok (.bipush 13, 2) := by decide +kernel
theorem dX11_cream_17 : decode cX11_cream 17 = .ok (.iconst 0, 1) := by decide +kernel
theorem dX11_cream_18 : decode cX11_cream 18 = .ok (.iload_n 1, 1) := by decide +kernel
theorem dX11_cream_19 : decode cX11_cream 19 = .ok (.iconst 0, 1) := by decide +kernel
theorem dX11_cream_20 : decode cX11_cream 20 = .ok (.invokevirtual 223, 3) := by decide +kernel
theorem dX11_cream_23 : decode cX11_cream 23 = .ok (.goto 4, 3) := by decide +kernel
theorem dX11_cream_26 : decode cX11_cream 26 = .ok (.iconst (-1), 1) := by decide +kernel
theorem dX11_cream_27 : decode cX11_cream 27 = .ok (.ireturn, 1) := by decide +kernel
def f_X11_cream (v0 : XM) (x0 : Int32) : Option (Int32 × XM) :=
  x_lt (f_X9_hasFold (x_sub v0 6) x0) (fun y1 =>
  if y1 = (0 : Int32) then
  (some ((-1 : Int32), v0))
  else (x_bo (f_X11_tryDeed v0 (13 : Int32) (0 : Int32) x0 (0 : Int32)) (fun y2 =>
  some (y2.1, y2.2))))
set_option maxRecDepth 100000 in
set_option maxHeartbeats 4000000 in
theorem c_X11_cream {l : Launch}  {ad0 : Nat → Nat} {v0 : XM} {x0 : Int32}  {o : Int32 × XM} (h : f_X11_cream v0 x0 = some o) : CT l yX11_cream cX11_cream 2 (some .int) 6 [(shFoldRoads, ad0)] [v0] (fun aK => [.ref (ad0 0), .int x0]) (some (.int o.1)) True [o.2] := by
  refine CT_of (by decide) (fun _ => Nat.le_of_ble_eq_true rfl) ?_
  intro p e s m args below meth c D tc aK aV A X
  have X : Cx p s m args meth c cX11_cream 2 (some .int) RX11 D tc aK aV A [(shFoldRoads, ad0)] := X
  show aW p l e (x_Rm 6) s m args below meth c D tc A 2 [(shFoldRoads, ad0)] (some (.int o.1)) True [o.2] 0 [(0, .ref (ad0 0)), (1, .int x0)] [] [v0]
  unfold f_X11_cream at h
  refine a_aload_n (pc := 0) X 0 dX11_cream_0 rfl rfl ?_
  refine a_getR (pc := 1) X 0 5 5 fl_RX11_19 rfl rfl rfl rfl rfl dX11_cream_1 ?_
  refine a_getR (pc := 4) X 0 1 6 fl_RX11_106 rfl rfl rfl rfl rfl dX11_cream_4 ?_
  refine a_iload_n (pc := 7) X 1 dX11_cream_7 rfl rfl ?_
  obtain ⟨y1, e_y1, h⟩ := x_lt_elim h
  refine a_callV (pc := 8) (st2 := [.int y1]) (vs2 := [v0]) X [(0, 6, 16)] [none] 0 6 9 [.int x0] [] cv_RX11_150 (c_X9_hasFold (ad0 := (fun i => ad0 (i + 6)))  e_y1) rfl rfl rfl rfl rfl rfl rfl rfl rfl rfl rfl rfl rfl rfl rfl (Nat.le_of_ble_eq_true rfl) ⟨Nat.le_of_ble_eq_true rfl, Nat.le_of_ble_eq_true rfl⟩ dX11_cream_8 (fun z_8 => ?_)
  refine a_if_eq (pc := 11) X 26 dX11_cream_11 rfl (fun c_11 => ?_) (fun c_11 => ?_)
  · have h := x_ifp c_11 h
    refine a_iconst (pc := 26) X dX11_cream_26 q_ic_m1 ?_
    have h := Option.some.inj h; subst h
    exact a_iret (pc := 27) X trivial dX11_cream_27
  · have h := x_ifn c_11 h
    refine a_aload_n (pc := 14) X 0 dX11_cream_14 rfl rfl ?_
    refine a_bipush (pc := 15) X dX11_cream_15 q_bp_13 ?_
    refine a_iconst (pc := 17) X dX11_cream_17 q_ic_0 ?_
    refine a_iload_n (pc := 18) X 1 dX11_cream_18 rfl rfl ?_
    refine a_iconst (pc := 19) X dX11_cream_19 q_ic_0 ?_
    obtain ⟨y2, e_y2, h⟩ := x_bo_elim h
    refine a_callV (pc := 20) (st2 := [.int y2.1]) (vs2 := [y2.2]) X [(0, 0, 318)] [some y2.2] 0 0 11 [.int (13 : Int32), .int (0 : Int32), .int x0, .int (0 : Int32)] [] cv_RX11_223 (c_X11_tryDeed (ad0 := ad0)  e_y2) rfl rfl rfl rfl rfl rfl rfl rfl rfl rfl rfl rfl rfl rfl rfl (Nat.le_of_ble_eq_true rfl) ⟨Nat.le_of_ble_eq_true rfl, Nat.le_of_ble_eq_true rfl⟩ dX11_cream_20 (fun _ => ?_)
    refine a_goto (pc := 23) X 27 dX11_cream_23 rfl ?_
    have h := Option.some.inj h; subst h
    exact a_iret (pc := 27) X trivial dX11_cream_27
theorem dX11_slip_0 : decode cX11_slip 0 = .ok (.aload_n 0, 1) := by decide +kernel
theorem dX11_slip_1 : decode cX11_slip 1 = .ok (.getfield 19, 3) := by decide +kernel
theorem dX11_slip_4 : decode cX11_slip 4 = .ok (.getfield 106, 3) := by decide +kernel
theorem dX11_slip_7 : decode cX11_slip 7 = .ok (.iload_n 1, 1) := by decide +kernel
theorem dX11_slip_8 : decode cX11_slip 8 = .ok (.invokevirtual 150, 3) := by decide +kernel
theorem dX11_slip_11 : decode cX11_slip 11 = .ok (.ifCond .eq 14, 3) := by decide +kernel
theorem dX11_slip_14 : decode cX11_slip 14 = .ok (.iload_n 2, 1) := by decide +kernel
theorem dX11_slip_15 : decode cX11_slip 15 = .ok (.iconst 1, 1) := by decide +kernel
theorem dX11_slip_16 : decode cX11_slip 16 = .ok (.if_icmp .lt 9, 3) := by decide +kernel
theorem dX11_slip_19 : decode cX11_slip 19 = .ok (.iload_n 2, 1) := by decide +kernel
theorem dX11_slip_20 : decode cX11_slip 20 = .ok (.bipush 30, 2) := by decide +kernel
theorem dX11_slip_22 : decode cX11_slip 22 = .ok (.if_icmp .le 5, 3) := by decide +kernel
theorem dX11_slip_25 : decode cX11_slip 25 = .ok (.iconst (-1), 1) := by decide +kernel
theorem dX11_slip_26 : decode cX11_slip 26 = .ok (.ireturn, 1) := by decide +kernel
theorem dX11_slip_27 : decode cX11_slip 27 = .ok (.aload_n 0, 1) := by decide +kernel
theorem dX11_slip_28 : decode cX11_slip 28 = .ok (.bipush 14, 2) := by decide +kernel
theorem dX11_slip_30 : decode cX11_slip 30 = .ok (.iconst 0, 1) := by decide +kernel
theorem dX11_slip_31 : decode cX11_slip 31 = .ok (.iload_n 1, 1) := by decide +kernel
theorem dX11_slip_32 : decode cX11_slip 32 = .ok (.iload_n 2, 1) := by decide +kernel
theorem dX11_slip_33 : decode cX11_slip 33 = .ok (.invokevirtual 223, 3) := by decide +kernel
theorem dX11_slip_36 : decode cX11_slip 36 = .ok (.ireturn, 1) := by decide +kernel
def f_X11_slip (v0 : XM) (x0 : Int32) (x1 : Int32) : Option (Int32 × XM) :=
  x_lt (f_X9_hasFold (x_sub v0 6) x0) (fun y1 =>
  if y1 = (0 : Int32) then
  (some ((-1 : Int32), v0))
  else (if (x1 : Int32) < (1 : Int32) then
  (some ((-1 : Int32), v0))
  else (if (x1 : Int32) ≤ (30 : Int32) then
  (x_bo (f_X11_tryDeed v0 (14 : Int32) (0 : Int32) x0 x1) (fun y2 =>
  some (y2.1, y2.2)))
  else (some ((-1 : Int32), v0)))))
set_option maxRecDepth 100000 in
set_option maxHeartbeats 4000000 in
theorem c_X11_slip {l : Launch}  {ad0 : Nat → Nat} {v0 : XM} {x0 : Int32} {x1 : Int32}  {o : Int32 × XM} (h : f_X11_slip v0 x0 x1 = some o) : CT l yX11_slip cX11_slip 3 (some .int) 6 [(shFoldRoads, ad0)] [v0] (fun aK => [.ref (ad0 0), .int x0, .int x1]) (some (.int o.1)) True [o.2] := by
  refine CT_of (by decide) (fun _ => Nat.le_of_ble_eq_true rfl) ?_
  intro p e s m args below meth c D tc aK aV A X
  have X : Cx p s m args meth c cX11_slip 3 (some .int) RX11 D tc aK aV A [(shFoldRoads, ad0)] := X
  show aW p l e (x_Rm 6) s m args below meth c D tc A 3 [(shFoldRoads, ad0)] (some (.int o.1)) True [o.2] 0 [(0, .ref (ad0 0)), (1, .int x0), (2, .int x1)] [] [v0]
  unfold f_X11_slip at h
  refine a_aload_n (pc := 0) X 0 dX11_slip_0 rfl rfl ?_
  refine a_getR (pc := 1) X 0 5 5 fl_RX11_19 rfl rfl rfl rfl rfl dX11_slip_1 ?_
  refine a_getR (pc := 4) X 0 1 6 fl_RX11_106 rfl rfl rfl rfl rfl dX11_slip_4 ?_
  refine a_iload_n (pc := 7) X 1 dX11_slip_7 rfl rfl ?_
  obtain ⟨y1, e_y1, h⟩ := x_lt_elim h
  refine a_callV (pc := 8) (st2 := [.int y1]) (vs2 := [v0]) X [(0, 6, 16)] [none] 0 6 9 [.int x0] [] cv_RX11_150 (c_X9_hasFold (ad0 := (fun i => ad0 (i + 6)))  e_y1) rfl rfl rfl rfl rfl rfl rfl rfl rfl rfl rfl rfl rfl rfl rfl (Nat.le_of_ble_eq_true rfl) ⟨Nat.le_of_ble_eq_true rfl, Nat.le_of_ble_eq_true rfl⟩ dX11_slip_8 (fun z_8 => ?_)
  refine a_if_eq (pc := 11) X 25 dX11_slip_11 rfl (fun c_11 => ?_) (fun c_11 => ?_)
  · have h := x_ifp c_11 h
    refine a_iconst (pc := 25) X dX11_slip_25 q_ic_m1 ?_
    have h := Option.some.inj h; subst h
    exact a_iret (pc := 26) X trivial dX11_slip_26
  · have h := x_ifn c_11 h
    refine a_iload_n (pc := 14) X 2 dX11_slip_14 rfl rfl ?_
    refine a_iconst (pc := 15) X dX11_slip_15 q_ic_1 ?_
    refine a_icmp_lt (pc := 16) X 25 dX11_slip_16 rfl (fun c_16 => ?_) (fun c_16 => ?_)
    · have h := x_ifp c_16 h
      refine a_iconst (pc := 25) X dX11_slip_25 q_ic_m1 ?_
      have h := Option.some.inj h; subst h
      exact a_iret (pc := 26) X trivial dX11_slip_26
    · have h := x_ifn c_16 h
      refine a_iload_n (pc := 19) X 2 dX11_slip_19 rfl rfl ?_
      refine a_bipush (pc := 20) X dX11_slip_20 q_bp_30 ?_
      refine a_icmp_le (pc := 22) X 27 dX11_slip_22 rfl (fun c_22 => ?_) (fun c_22 => ?_)
      · have h := x_ifp c_22 h
        refine a_aload_n (pc := 27) X 0 dX11_slip_27 rfl rfl ?_
        refine a_bipush (pc := 28) X dX11_slip_28 q_bp_14 ?_
        refine a_iconst (pc := 30) X dX11_slip_30 q_ic_0 ?_
        refine a_iload_n (pc := 31) X 1 dX11_slip_31 rfl rfl ?_
        refine a_iload_n (pc := 32) X 2 dX11_slip_32 rfl rfl ?_
        obtain ⟨y2, e_y2, h⟩ := x_bo_elim h
        refine a_callV (pc := 33) (st2 := [.int y2.1]) (vs2 := [y2.2]) X [(0, 0, 318)] [some y2.2] 0 0 11 [.int (14 : Int32), .int (0 : Int32), .int x0, .int x1] [] cv_RX11_223 (c_X11_tryDeed (ad0 := ad0)  e_y2) rfl rfl rfl rfl rfl rfl rfl rfl rfl rfl rfl rfl rfl rfl rfl (Nat.le_of_ble_eq_true rfl) ⟨Nat.le_of_ble_eq_true rfl, Nat.le_of_ble_eq_true rfl⟩ dX11_slip_33 (fun _ => ?_)
        have h := Option.some.inj h; subst h
        exact a_iret (pc := 36) X trivial dX11_slip_36
      · have h := x_ifn c_22 h
        refine a_iconst (pc := 25) X dX11_slip_25 q_ic_m1 ?_
        have h := Option.some.inj h; subst h
        exact a_iret (pc := 26) X trivial dX11_slip_26
theorem dX11_mood_0 : decode cX11_mood 0 = .ok (.iload_n 1, 1) := by decide +kernel
theorem dX11_mood_1 : decode cX11_mood 1 = .ok (.ifCond .lt 20, 3) := by decide +kernel
theorem dX11_mood_4 : decode cX11_mood 4 = .ok (.iload_n 1, 1) := by decide +kernel
theorem dX11_mood_5 : decode cX11_mood 5 = .ok (.iconst 3, 1) := by decide +kernel
theorem dX11_mood_6 : decode cX11_mood 6 = .ok (.if_icmp .ge 15, 3) := by decide +kernel
theorem dX11_mood_9 : decode cX11_mood 9 = .ok (.aload_n 0, 1) := by decide +kernel
theorem dX11_mood_10 : decode cX11_mood 10 = .ok (.bipush 15, 2) := by decide +kernel
theorem dX11_mood_12 : decode cX11_mood 12 = .ok (.iconst 0, 1) := by decide +kernel
theorem dX11_mood_13 : decode cX11_mood 13 = .ok (.iload_n 1, 1) := by decide +kernel
theorem dX11_mood_14 : decode cX11_mood 14 = .ok (.iconst 0, 1) := by decide +kernel
theorem dX11_mood_15 : decode cX11_mood 15 = .ok (.invokevirtual 223, 3) := by decide +kernel
theorem dX11_mood_18 : decode cX11_mood 18 = .ok (.goto 4, 3) := by decide +kernel
theorem dX11_mood_21 : decode cX11_mood 21 = .ok (.iconst (-1), 1) := by decide +kernel
theorem dX11_mood_22 : decode cX11_mood 22 = .ok (.ireturn, 1) := by decide +kernel
def f_X11_mood (v0 : XM) (x0 : Int32) : Option (Int32 × XM) :=
  if x0 < (0 : Int32) then
  (some ((-1 : Int32), v0))
  else (if ((3 : Int32) : Int32) ≤ x0 then
  (some ((-1 : Int32), v0))
  else (x_bo (f_X11_tryDeed v0 (15 : Int32) (0 : Int32) x0 (0 : Int32)) (fun y1 =>
  some (y1.1, y1.2))))
set_option maxRecDepth 100000 in
set_option maxHeartbeats 4000000 in
theorem c_X11_mood {l : Launch}  {ad0 : Nat → Nat} {v0 : XM} {x0 : Int32}  {o : Int32 × XM} (h : f_X11_mood v0 x0 = some o) : CT l yX11_mood cX11_mood 2 (some .int) 6 [(shFoldRoads, ad0)] [v0] (fun aK => [.ref (ad0 0), .int x0]) (some (.int o.1)) True [o.2] := by
  refine CT_of (by decide) (fun _ => Nat.le_of_ble_eq_true rfl) ?_
  intro p e s m args below meth c D tc aK aV A X
  have X : Cx p s m args meth c cX11_mood 2 (some .int) RX11 D tc aK aV A [(shFoldRoads, ad0)] := X
  show aW p l e (x_Rm 6) s m args below meth c D tc A 2 [(shFoldRoads, ad0)] (some (.int o.1)) True [o.2] 0 [(0, .ref (ad0 0)), (1, .int x0)] [] [v0]
  unfold f_X11_mood at h
  refine a_iload_n (pc := 0) X 1 dX11_mood_0 rfl rfl ?_
  refine a_if_lt (pc := 1) X 21 dX11_mood_1 rfl (fun c_1 => ?_) (fun c_1 => ?_)
  · have h := x_ifp c_1 h
    refine a_iconst (pc := 21) X dX11_mood_21 q_ic_m1 ?_
    have h := Option.some.inj h; subst h
    exact a_iret (pc := 22) X trivial dX11_mood_22
  · have h := x_ifn c_1 h
    refine a_iload_n (pc := 4) X 1 dX11_mood_4 rfl rfl ?_
    refine a_iconst (pc := 5) X dX11_mood_5 q_ic_3 ?_
    refine a_icmp_ge (pc := 6) X 21 dX11_mood_6 rfl (fun c_6 => ?_) (fun c_6 => ?_)
    · have h := x_ifp c_6 h
      refine a_iconst (pc := 21) X dX11_mood_21 q_ic_m1 ?_
      have h := Option.some.inj h; subst h
      exact a_iret (pc := 22) X trivial dX11_mood_22
    · have h := x_ifn c_6 h
      refine a_aload_n (pc := 9) X 0 dX11_mood_9 rfl rfl ?_
      refine a_bipush (pc := 10) X dX11_mood_10 q_bp_15 ?_
      refine a_iconst (pc := 12) X dX11_mood_12 q_ic_0 ?_
      refine a_iload_n (pc := 13) X 1 dX11_mood_13 rfl rfl ?_
      refine a_iconst (pc := 14) X dX11_mood_14 q_ic_0 ?_
      obtain ⟨y1, e_y1, h⟩ := x_bo_elim h
      refine a_callV (pc := 15) (st2 := [.int y1.1]) (vs2 := [y1.2]) X [(0, 0, 318)] [some y1.2] 0 0 11 [.int (15 : Int32), .int (0 : Int32), .int x0, .int (0 : Int32)] [] cv_RX11_223 (c_X11_tryDeed (ad0 := ad0)  e_y1) rfl rfl rfl rfl rfl rfl rfl rfl rfl rfl rfl rfl rfl rfl rfl (Nat.le_of_ble_eq_true rfl) ⟨Nat.le_of_ble_eq_true rfl, Nat.le_of_ble_eq_true rfl⟩ dX11_mood_15 (fun _ => ?_)
      refine a_goto (pc := 18) X 22 dX11_mood_18 rfl ?_
      have h := Option.some.inj h; subst h
      exact a_iret (pc := 22) X trivial dX11_mood_22
theorem dX11_keepIfAny_0 : decode cX11_keepIfAny 0 = .ok (.iload_n 1, 1) := by decide +kernel
theorem dX11_keepIfAny_1 : decode cX11_keepIfAny 1 = .ok (.ifCond .le 14, 3) := by decide +kernel
theorem dX11_keepIfAny_4 : decode cX11_keepIfAny 4 = .ok (.aload_n 0, 1) := by decide +kernel
theorem dX11_keepIfAny_5 : decode cX11_keepIfAny 5 = .ok (.getfield 39, 3) := by decide +kernel
theorem dX11_keepIfAny_8 : decode cX11_keepIfAny 8 = .ok (.aload_n 0, 1) := by decide +kernel
theorem dX11_keepIfAny_9 : decode cX11_keepIfAny 9 = .ok (.getfield 32, 3) := by decide +kernel
theorem dX11_keepIfAny_12 : decode cX11_keepIfAny 12 = .ok (.invokevirtual 237, 3) := by decide +kernel
theorem dX11_keepIfAny_15 : decode cX11_keepIfAny 15 = .ok (.iload_n 1, 1) := by decide +kernel
theorem dX11_keepIfAny_16 : decode cX11_keepIfAny 16 = .ok (.ireturn, 1) := by decide +kernel
def f_X11_keepIfAny (v0 : XM) (x0 : Int32) : Int32 × XM :=
  if x0 ≤ (0 : Int32) then
  ((x0, v0))
  else (x_lt (f_X1_keep (x_sub v0 143) (x_sub v0 128)) (fun y1 =>
  x_lt (x_put v0 143 122 y1) (fun m2 =>
  (x0, m2))))
set_option maxRecDepth 100000 in
set_option maxHeartbeats 4000000 in
theorem c_X11_keepIfAny {l : Launch}  {ad0 : Nat → Nat} {v0 : XM} {x0 : Int32}  {o : Int32 × XM} (h : f_X11_keepIfAny v0 x0 = o) : CT l yX11_keepIfAny cX11_keepIfAny 2 (some .int) 4 [(shFoldRoads, ad0)] [v0] (fun aK => [.ref (ad0 0), .int x0]) (some (.int o.1)) True [o.2] := by
  refine CT_of (by decide) (fun _ => Nat.le_of_ble_eq_true rfl) ?_
  intro p e s m args below meth c D tc aK aV A X
  have X : Cx p s m args meth c cX11_keepIfAny 2 (some .int) RX11 D tc aK aV A [(shFoldRoads, ad0)] := X
  show aW p l e (x_Rm 4) s m args below meth c D tc A 2 [(shFoldRoads, ad0)] (some (.int o.1)) True [o.2] 0 [(0, .ref (ad0 0)), (1, .int x0)] [] [v0]
  unfold f_X11_keepIfAny at h
  refine a_iload_n (pc := 0) X 1 dX11_keepIfAny_0 rfl rfl ?_
  refine a_if_le (pc := 1) X 15 dX11_keepIfAny_1 rfl (fun c_1 => ?_) (fun c_1 => ?_)
  · have h := x_ifp c_1 h
    refine a_iload_n (pc := 15) X 1 dX11_keepIfAny_15 rfl rfl ?_
    subst h
    exact a_iret (pc := 16) X trivial dX11_keepIfAny_16
  · have h := x_ifn c_1 h
    refine a_aload_n (pc := 4) X 0 dX11_keepIfAny_4 rfl rfl ?_
    refine a_getR (pc := 5) X 0 143 143 fl_RX11_39 rfl rfl rfl rfl rfl dX11_keepIfAny_5 ?_
    refine a_aload_n (pc := 8) X 0 dX11_keepIfAny_8 rfl rfl ?_
    refine a_getR (pc := 9) X 0 128 128 fl_RX11_32 rfl rfl rfl rfl rfl dX11_keepIfAny_9 ?_
    obtain ⟨y1, e_y1, h⟩ := x_lt_elim h
    refine a_callV (pc := 12) (st2 := []) (vs2 := [x_put v0 143 122 y1]) X [(0, 143, 122), (0, 128, 15)] [some y1, none] 0 143 1 [.ref (ad0 128)] [] cv_RX11_237 (c_X1_keep (ad0 := (fun i => ad0 (i + 143))) (ad1 := (fun i => ad0 (i + 128)))  e_y1) rfl rfl rfl rfl rfl rfl rfl rfl rfl rfl rfl rfl rfl rfl rfl (Nat.le_of_ble_eq_true rfl) ⟨Nat.le_of_ble_eq_true rfl, Nat.le_of_ble_eq_true rfl⟩ dX11_keepIfAny_12 (fun _ => ?_)
    obtain ⟨m2, e_m2, h⟩ := x_lt_elim h
    refine a_nm (vs2 := [m2]) (congrArg (fun q : XM => [q]) e_m2) ?_
    refine a_iload_n (pc := 15) X 1 dX11_keepIfAny_15 rfl rfl ?_
    subst h
    exact a_iret (pc := 16) X trivial dX11_keepIfAny_16
theorem dX11_hours_0 : decode cX11_hours 0 = .ok (.iload_n 1, 1) := by decide +kernel
theorem dX11_hours_1 : decode cX11_hours 1 = .ok (.iconst 1, 1) := by decide +kernel
theorem dX11_hours_2 : decode cX11_hours 2 = .ok (.if_icmp .lt 9, 3) := by decide +kernel
theorem dX11_hours_5 : decode cX11_hours 5 = .ok (.iload_n 1, 1) := by decide +kernel
theorem dX11_hours_6 : decode cX11_hours 6 = .ok (.bipush 60, 2) := by decide +kernel
theorem dX11_hours_8 : decode cX11_hours 8 = .ok (.if_icmp .le 5, 3) := by decide +kernel
theorem dX11_hours_11 : decode cX11_hours 11 = .ok (.iconst (-1), 1) := by decide +kernel
theorem dX11_hours_12 : decode cX11_hours 12 = .ok (.ireturn, 1) := by decide +kernel
theorem dX11_hours_13 : decode cX11_hours 13 = .ok (.aload_n 0, 1) := by decide +kernel
theorem dX11_hours_14 : decode cX11_hours 14 = .ok (.getfield 32, 3) := by decide +kernel
theorem dX11_hours_17 : decode cX11_hours 17 = .ok (.aload_n 0, 1) := by decide +kernel
theorem dX11_hours_18 : decode cX11_hours 18 = .ok (.getfield 19, 3) := by decide +kernel
theorem dX11_hours_21 : decode cX11_hours 21 = .ok (.getfield 118, 3) := by decide +kernel
theorem dX11_hours_24 : decode cX11_hours 24 = .ok (.invokevirtual 230, 3) := by decide +kernel
theorem dX11_hours_27 : decode cX11_hours 27 = .ok (.aload_n 0, 1) := by decide +kernel
theorem dX11_hours_28 : decode cX11_hours 28 = .ok (.aload_n 0, 1) := by decide +kernel
theorem dX11_hours_29 : decode cX11_hours 29 = .ok (.getfield 19, 3) := by decide +kernel
theorem dX11_hours_32 : decode cX11_hours 32 = .ok (.iload_n 1, 1) := by decide +kernel
theorem dX11_hours_33 : decode cX11_hours 33 = .ok (.invokevirtual 240, 3) := by decide +kernel
theorem dX11_hours_36 : decode cX11_hours 36 = .ok (.invokevirtual 243, 3) := by decide +kernel
theorem dX11_hours_39 : decode cX11_hours 39 = .ok (.ireturn, 1) := by decide +kernel
def f_X11_hours (v0 : XM) (x0 : Int32) : Option (Int32 × XM) :=
  if (x0 : Int32) < (1 : Int32) then
  (some ((-1 : Int32), v0))
  else (if (x0 : Int32) ≤ (60 : Int32) then
  (x_lt (f_X5_become (x_sub v0 128) (x_sub v0 22)) (fun y1 =>
  x_lt (x_put v0 128 15 y1) (fun m2 =>
  x_bo (f_X10_passHours (x_sub m2 5) x0) (fun y3 =>
  x_lt (x_put m2 5 32 y3.2) (fun m4 =>
  x_lt (f_X11_keepIfAny m4 y3.1) (fun y5 =>
  some (y5.1, y5.2)))))))
  else (some ((-1 : Int32), v0)))
set_option maxRecDepth 100000 in
set_option maxHeartbeats 4000000 in
theorem c_X11_hours {l : Launch}  {ad0 : Nat → Nat} {v0 : XM} {x0 : Int32}  {o : Int32 × XM} (h : f_X11_hours v0 x0 = some o) : CT l yX11_hours cX11_hours 2 (some .int) 5 [(shFoldRoads, ad0)] [v0] (fun aK => [.ref (ad0 0), .int x0]) (some (.int o.1)) True [o.2] := by
  refine CT_of (by decide) (fun _ => Nat.le_of_ble_eq_true rfl) ?_
  intro p e s m args below meth c D tc aK aV A X
  have X : Cx p s m args meth c cX11_hours 2 (some .int) RX11 D tc aK aV A [(shFoldRoads, ad0)] := X
  show aW p l e (x_Rm 5) s m args below meth c D tc A 2 [(shFoldRoads, ad0)] (some (.int o.1)) True [o.2] 0 [(0, .ref (ad0 0)), (1, .int x0)] [] [v0]
  unfold f_X11_hours at h
  refine a_iload_n (pc := 0) X 1 dX11_hours_0 rfl rfl ?_
  refine a_iconst (pc := 1) X dX11_hours_1 q_ic_1 ?_
  refine a_icmp_lt (pc := 2) X 11 dX11_hours_2 rfl (fun c_2 => ?_) (fun c_2 => ?_)
  · have h := x_ifp c_2 h
    refine a_iconst (pc := 11) X dX11_hours_11 q_ic_m1 ?_
    have h := Option.some.inj h; subst h
    exact a_iret (pc := 12) X trivial dX11_hours_12
  · have h := x_ifn c_2 h
    refine a_iload_n (pc := 5) X 1 dX11_hours_5 rfl rfl ?_
    refine a_bipush (pc := 6) X dX11_hours_6 q_bp_60 ?_
    refine a_icmp_le (pc := 8) X 13 dX11_hours_8 rfl (fun c_8 => ?_) (fun c_8 => ?_)
    · have h := x_ifp c_8 h
      refine a_aload_n (pc := 13) X 0 dX11_hours_13 rfl rfl ?_
      refine a_getR (pc := 14) X 0 128 128 fl_RX11_32 rfl rfl rfl rfl rfl dX11_hours_14 ?_
      refine a_aload_n (pc := 17) X 0 dX11_hours_17 rfl rfl ?_
      refine a_getR (pc := 18) X 0 5 5 fl_RX11_19 rfl rfl rfl rfl rfl dX11_hours_18 ?_
      refine a_getR (pc := 21) X 0 17 22 fl_RX11_118 rfl rfl rfl rfl rfl dX11_hours_21 ?_
      obtain ⟨y1, e_y1, h⟩ := x_lt_elim h
      refine a_callV (pc := 24) (st2 := []) (vs2 := [x_put v0 128 15 y1]) X [(0, 128, 15), (0, 22, 15)] [some y1, none] 0 128 5 [.ref (ad0 22)] [] cv_RX11_230 (c_X5_become (ad0 := (fun i => ad0 (i + 128))) (ad1 := (fun i => ad0 (i + 22)))  e_y1) rfl rfl rfl rfl rfl rfl rfl rfl rfl rfl rfl rfl rfl rfl rfl (Nat.le_of_ble_eq_true rfl) ⟨Nat.le_of_ble_eq_true rfl, Nat.le_of_ble_eq_true rfl⟩ dX11_hours_24 (fun _ => ?_)
      obtain ⟨m2, e_m2, h⟩ := x_lt_elim h
      refine a_nm (vs2 := [m2]) (congrArg (fun q : XM => [q]) e_m2) ?_
      refine a_aload_n (pc := 27) X 0 dX11_hours_27 rfl rfl ?_
      refine a_aload_n (pc := 28) X 0 dX11_hours_28 rfl rfl ?_
      refine a_getR (pc := 29) X 0 5 5 fl_RX11_19 rfl rfl rfl rfl rfl dX11_hours_29 ?_
      refine a_iload_n (pc := 32) X 1 dX11_hours_32 rfl rfl ?_
      obtain ⟨y3, e_y3, h⟩ := x_bo_elim h
      refine a_callV (pc := 33) (st2 := [.int y3.1, .ref (ad0 0)]) (vs2 := [x_put m2 5 32 y3.2]) X [(0, 5, 32)] [some y3.2] 0 5 10 [.int x0] [.ref (ad0 0)] cv_RX11_240 (c_X10_passHours (ad0 := (fun i => ad0 (i + 5)))  e_y3) rfl rfl rfl rfl rfl rfl rfl rfl rfl rfl rfl rfl rfl rfl rfl (Nat.le_of_ble_eq_true rfl) ⟨Nat.le_of_ble_eq_true rfl, Nat.le_of_ble_eq_true rfl⟩ dX11_hours_33 (fun _ => ?_)
      obtain ⟨m4, e_m4, h⟩ := x_lt_elim h
      refine a_nm (vs2 := [m4]) (congrArg (fun q : XM => [q]) e_m4) ?_
      obtain ⟨y5, e_y5, h⟩ := x_lt_elim h
      refine a_callV (pc := 36) (st2 := [.int y5.1]) (vs2 := [y5.2]) X [(0, 0, 318)] [some y5.2] 0 0 11 [.int y3.1] [] cv_RX11_243 (c_X11_keepIfAny (ad0 := ad0)  e_y5) rfl rfl rfl rfl rfl rfl rfl rfl rfl rfl rfl rfl rfl rfl rfl (Nat.le_of_ble_eq_true rfl) ⟨Nat.le_of_ble_eq_true rfl, Nat.le_of_ble_eq_true rfl⟩ dX11_hours_36 (fun _ => ?_)
      have h := Option.some.inj h; subst h
      exact a_iret (pc := 39) X trivial dX11_hours_39
    · have h := x_ifn c_8 h
      refine a_iconst (pc := 11) X dX11_hours_11 q_ic_m1 ?_
      have h := Option.some.inj h; subst h
      exact a_iret (pc := 12) X trivial dX11_hours_12
theorem dX11_drawn_0 : decode cX11_drawn 0 = .ok (.iload_n 1, 1) := by decide +kernel
theorem dX11_drawn_1 : decode cX11_drawn 1 = .ok (.iconst 1, 1) := by decide +kernel
theorem dX11_drawn_2 : decode cX11_drawn 2 = .ok (.if_icmp .lt 9, 3) := by decide +kernel
theorem dX11_drawn_5 : decode cX11_drawn 5 = .ok (.iload_n 1, 1) := by decide +kernel
theorem dX11_drawn_6 : decode cX11_drawn 6 = .ok (.bipush 60, 2) := by decide +kernel
theorem dX11_drawn_8 : decode cX11_drawn 8 = .ok (.if_icmp .le 5, 3) := by decide +kernel
theorem dX11_drawn_11 : decode cX11_drawn 11 = .ok (.iconst (-1), 1) := by decide +kernel
theorem dX11_drawn_12 : decode cX11_drawn 12 = .ok (.ireturn, 1) := by decide +kernel
theorem dX11_drawn_13 : decode cX11_drawn 13 = .ok (.aload_n 0, 1) := by decide +kernel
theorem dX11_drawn_14 : decode cX11_drawn 14 = .ok (.getfield 32, 3) := by decide +kernel
theorem dX11_drawn_17 : decode cX11_drawn 17 = .ok (.aload_n 0, 1) := by decide +kernel
theorem dX11_drawn_18 : decode cX11_drawn 18 = .ok (.getfield 19, 3) := by decide +kernel
theorem dX11_drawn_21 : decode cX11_drawn 21 = .ok (.getfield 118, 3) := by decide +kernel
theorem dX11_drawn_24 : decode cX11_drawn 24 = .ok (.invokevirtual 230, 3) := by decide +kernel
theorem dX11_drawn_27 : decode cX11_drawn 27 = .ok (.aload_n 0, 1) := by decide +kernel
theorem dX11_drawn_28 : decode cX11_drawn 28 = .ok (.aload_n 0, 1) := by decide +kernel
theorem dX11_drawn_29 : decode cX11_drawn 29 = .ok (.getfield 19, 3) := by decide +kernel
theorem dX11_drawn_32 : decode cX11_drawn 32 = .ok (.iload_n 1, 1) := by decide +kernel
theorem dX11_drawn_33 : decode cX11_drawn 33 = .ok (.iload_n 2, 1) := by decide +kernel
theorem dX11_drawn_34 : decode cX11_drawn 34 = .ok (.invokevirtual 246, 3) := by decide +kernel
theorem dX11_drawn_37 : decode cX11_drawn 37 = .ok (.invokevirtual 243, 3) := by decide +kernel
theorem dX11_drawn_40 : decode cX11_drawn 40 = .ok (.ireturn, 1) := by decide +kernel
def f_X11_drawn (v0 : XM) (x0 : Int32) (x1 : Int32) : Option (Int32 × XM) :=
  if (x0 : Int32) < (1 : Int32) then
  (some ((-1 : Int32), v0))
  else (if (x0 : Int32) ≤ (60 : Int32) then
  (x_lt (f_X5_become (x_sub v0 128) (x_sub v0 22)) (fun y1 =>
  x_lt (x_put v0 128 15 y1) (fun m2 =>
  x_bo (f_X10_drawHours (x_sub m2 5) x0 x1) (fun y3 =>
  x_lt (x_put m2 5 32 y3.2) (fun m4 =>
  x_lt (f_X11_keepIfAny m4 y3.1) (fun y5 =>
  some (y5.1, y5.2)))))))
  else (some ((-1 : Int32), v0)))
set_option maxRecDepth 100000 in
set_option maxHeartbeats 4000000 in
theorem c_X11_drawn {l : Launch}  {ad0 : Nat → Nat} {v0 : XM} {x0 : Int32} {x1 : Int32}  {o : Int32 × XM} (h : f_X11_drawn v0 x0 x1 = some o) : CT l yX11_drawn cX11_drawn 3 (some .int) 6 [(shFoldRoads, ad0)] [v0] (fun aK => [.ref (ad0 0), .int x0, .int x1]) (some (.int o.1)) True [o.2] := by
  refine CT_of (by decide) (fun _ => Nat.le_of_ble_eq_true rfl) ?_
  intro p e s m args below meth c D tc aK aV A X
  have X : Cx p s m args meth c cX11_drawn 3 (some .int) RX11 D tc aK aV A [(shFoldRoads, ad0)] := X
  show aW p l e (x_Rm 6) s m args below meth c D tc A 3 [(shFoldRoads, ad0)] (some (.int o.1)) True [o.2] 0 [(0, .ref (ad0 0)), (1, .int x0), (2, .int x1)] [] [v0]
  unfold f_X11_drawn at h
  refine a_iload_n (pc := 0) X 1 dX11_drawn_0 rfl rfl ?_
  refine a_iconst (pc := 1) X dX11_drawn_1 q_ic_1 ?_
  refine a_icmp_lt (pc := 2) X 11 dX11_drawn_2 rfl (fun c_2 => ?_) (fun c_2 => ?_)
  · have h := x_ifp c_2 h
    refine a_iconst (pc := 11) X dX11_drawn_11 q_ic_m1 ?_
    have h := Option.some.inj h; subst h
    exact a_iret (pc := 12) X trivial dX11_drawn_12
  · have h := x_ifn c_2 h
    refine a_iload_n (pc := 5) X 1 dX11_drawn_5 rfl rfl ?_
    refine a_bipush (pc := 6) X dX11_drawn_6 q_bp_60 ?_
    refine a_icmp_le (pc := 8) X 13 dX11_drawn_8 rfl (fun c_8 => ?_) (fun c_8 => ?_)
    · have h := x_ifp c_8 h
      refine a_aload_n (pc := 13) X 0 dX11_drawn_13 rfl rfl ?_
      refine a_getR (pc := 14) X 0 128 128 fl_RX11_32 rfl rfl rfl rfl rfl dX11_drawn_14 ?_
      refine a_aload_n (pc := 17) X 0 dX11_drawn_17 rfl rfl ?_
      refine a_getR (pc := 18) X 0 5 5 fl_RX11_19 rfl rfl rfl rfl rfl dX11_drawn_18 ?_
      refine a_getR (pc := 21) X 0 17 22 fl_RX11_118 rfl rfl rfl rfl rfl dX11_drawn_21 ?_
      obtain ⟨y1, e_y1, h⟩ := x_lt_elim h
      refine a_callV (pc := 24) (st2 := []) (vs2 := [x_put v0 128 15 y1]) X [(0, 128, 15), (0, 22, 15)] [some y1, none] 0 128 5 [.ref (ad0 22)] [] cv_RX11_230 (c_X5_become (ad0 := (fun i => ad0 (i + 128))) (ad1 := (fun i => ad0 (i + 22)))  e_y1) rfl rfl rfl rfl rfl rfl rfl rfl rfl rfl rfl rfl rfl rfl rfl (Nat.le_of_ble_eq_true rfl) ⟨Nat.le_of_ble_eq_true rfl, Nat.le_of_ble_eq_true rfl⟩ dX11_drawn_24 (fun _ => ?_)
      obtain ⟨m2, e_m2, h⟩ := x_lt_elim h
      refine a_nm (vs2 := [m2]) (congrArg (fun q : XM => [q]) e_m2) ?_
      refine a_aload_n (pc := 27) X 0 dX11_drawn_27 rfl rfl ?_
      refine a_aload_n (pc := 28) X 0 dX11_drawn_28 rfl rfl ?_
      refine a_getR (pc := 29) X 0 5 5 fl_RX11_19 rfl rfl rfl rfl rfl dX11_drawn_29 ?_
      refine a_iload_n (pc := 32) X 1 dX11_drawn_32 rfl rfl ?_
      refine a_iload_n (pc := 33) X 2 dX11_drawn_33 rfl rfl ?_
      obtain ⟨y3, e_y3, h⟩ := x_bo_elim h
      refine a_callV (pc := 34) (st2 := [.int y3.1, .ref (ad0 0)]) (vs2 := [x_put m2 5 32 y3.2]) X [(0, 5, 32)] [some y3.2] 0 5 10 [.int x0, .int x1] [.ref (ad0 0)] cv_RX11_246 (c_X10_drawHours (ad0 := (fun i => ad0 (i + 5)))  e_y3) rfl rfl rfl rfl rfl rfl rfl rfl rfl rfl rfl rfl rfl rfl rfl (Nat.le_of_ble_eq_true rfl) ⟨Nat.le_of_ble_eq_true rfl, Nat.le_of_ble_eq_true rfl⟩ dX11_drawn_34 (fun _ => ?_)
      obtain ⟨m4, e_m4, h⟩ := x_lt_elim h
      refine a_nm (vs2 := [m4]) (congrArg (fun q : XM => [q]) e_m4) ?_
      obtain ⟨y5, e_y5, h⟩ := x_lt_elim h
      refine a_callV (pc := 37) (st2 := [.int y5.1]) (vs2 := [y5.2]) X [(0, 0, 318)] [some y5.2] 0 0 11 [.int y3.1] [] cv_RX11_243 (c_X11_keepIfAny (ad0 := ad0)  e_y5) rfl rfl rfl rfl rfl rfl rfl rfl rfl rfl rfl rfl rfl rfl rfl (Nat.le_of_ble_eq_true rfl) ⟨Nat.le_of_ble_eq_true rfl, Nat.le_of_ble_eq_true rfl⟩ dX11_drawn_37 (fun _ => ?_)
      have h := Option.some.inj h; subst h
      exact a_iret (pc := 40) X trivial dX11_drawn_40
    · have h := x_ifn c_8 h
      refine a_iconst (pc := 11) X dX11_drawn_11 q_ic_m1 ?_
      have h := Option.some.inj h; subst h
      exact a_iret (pc := 12) X trivial dX11_drawn_12
theorem dX11_undo_0 : decode cX11_undo 0 = .ok (.aload_n 0, 1) := by decide +kernel
theorem dX11_undo_1 : decode cX11_undo 1 = .ok (.getfield 39, 3) := by decide +kernel
theorem dX11_undo_4 : decode cX11_undo 4 = .ok (.aload_n 0, 1) := by decide +kernel
theorem dX11_undo_5 : decode cX11_undo 5 = .ok (.getfield 19, 3) := by decide +kernel
theorem dX11_undo_8 : decode cX11_undo 8 = .ok (.getfield 118, 3) := by decide +kernel
theorem dX11_undo_11 : decode cX11_undo 11 = .ok (.invokevirtual 250, 3) := by decide +kernel
theorem dX11_undo_14 : decode cX11_undo 14 = .ok (.ifCond .eq 13, 3) := by decide +kernel
theorem dX11_undo_17 : decode cX11_undo 17 = .ok (.aload_n 0, 1) := by decide +kernel
theorem dX11_undo_18 : decode cX11_undo 18 = .ok (.getfield 39, 3) := by decide +kernel
theorem dX11_undo_21 : decode cX11_undo 21 = .ok (.getfield 254, 3) := by decide +kernel
theorem dX11_undo_24 : decode cX11_undo 24 = .ok (.goto 4, 3) := by decide +kernel
theorem dX11_undo_27 : decode cX11_undo 27 = .ok (.iconst (-1), 1) := by decide +kernel
theorem dX11_undo_28 : decode cX11_undo 28 = .ok (.ireturn, 1) := by decide +kernel
def f_X11_undo (v0 : XM) : Int32 × XM :=
  x_lt (f_X1_takeBack (x_sub v0 143) (x_sub v0 22)) (fun y1 =>
  x_lt (x_put (x_put v0 143 122 y1.2.1) 22 15 y1.2.2) (fun m2 =>
  if y1.1 = (0 : Int32) then
  (((-1 : Int32), m2))
  else ((m2.1 143 2, m2))))
set_option maxRecDepth 100000 in
set_option maxHeartbeats 4000000 in
theorem c_X11_undo {l : Launch}  {ad0 : Nat → Nat} {v0 : XM}   {o : Int32 × XM} (h : f_X11_undo v0 = o) : CT l yX11_undo cX11_undo 1 (some .int) 4 [(shFoldRoads, ad0)] [v0] (fun aK => [.ref (ad0 0)]) (some (.int o.1)) True [o.2] := by
  refine CT_of (by decide) (fun _ => Nat.le_of_ble_eq_true rfl) ?_
  intro p e s m args below meth c D tc aK aV A X
  have X : Cx p s m args meth c cX11_undo 1 (some .int) RX11 D tc aK aV A [(shFoldRoads, ad0)] := X
  show aW p l e (x_Rm 4) s m args below meth c D tc A 1 [(shFoldRoads, ad0)] (some (.int o.1)) True [o.2] 0 [(0, .ref (ad0 0))] [] [v0]
  unfold f_X11_undo at h
  refine a_aload_n (pc := 0) X 0 dX11_undo_0 rfl rfl ?_
  refine a_getR (pc := 1) X 0 143 143 fl_RX11_39 rfl rfl rfl rfl rfl dX11_undo_1 ?_
  refine a_aload_n (pc := 4) X 0 dX11_undo_4 rfl rfl ?_
  refine a_getR (pc := 5) X 0 5 5 fl_RX11_19 rfl rfl rfl rfl rfl dX11_undo_5 ?_
  refine a_getR (pc := 8) X 0 17 22 fl_RX11_118 rfl rfl rfl rfl rfl dX11_undo_8 ?_
  obtain ⟨y1, e_y1, h⟩ := x_lt_elim h
  refine a_callV (pc := 11) (st2 := [.int y1.1]) (vs2 := [x_put (x_put v0 143 122 y1.2.1) 22 15 y1.2.2]) X [(0, 143, 122), (0, 22, 15)] [some y1.2.1, some y1.2.2] 0 143 1 [.ref (ad0 22)] [] cv_RX11_250 (c_X1_takeBack (ad0 := (fun i => ad0 (i + 143))) (ad1 := (fun i => ad0 (i + 22)))  e_y1) rfl rfl rfl rfl rfl rfl rfl rfl rfl rfl rfl rfl rfl rfl rfl (Nat.le_of_ble_eq_true rfl) ⟨Nat.le_of_ble_eq_true rfl, Nat.le_of_ble_eq_true rfl⟩ dX11_undo_11 (fun z_11 => ?_)
  obtain ⟨m2, e_m2, h⟩ := x_lt_elim h
  refine a_nm (vs2 := [m2]) (congrArg (fun q : XM => [q]) e_m2) ?_
  refine a_if_eq (pc := 14) X 27 dX11_undo_14 rfl (fun c_14 => ?_) (fun c_14 => ?_)
  · have h := x_ifp c_14 h
    refine a_iconst (pc := 27) X dX11_undo_27 q_ic_m1 ?_
    subst h
    exact a_iret (pc := 28) X trivial dX11_undo_28
  · have h := x_ifn c_14 h
    refine a_aload_n (pc := 17) X 0 dX11_undo_17 rfl rfl ?_
    refine a_getR (pc := 18) X 0 143 143 fl_RX11_39 rfl rfl rfl rfl rfl dX11_undo_18 ?_
    refine a_getI (pc := 21) X 0 fl_RX11_254 rfl rfl rfl rfl dX11_undo_21 ?_
    refine a_goto (pc := 24) X 28 dX11_undo_24 rfl ?_
    subst h
    exact a_iret (pc := 28) X trivial dX11_undo_28
theorem dX11_mean_0 : decode cX11_mean 0 = .ok (.aload_n 0, 1) := by decide +kernel
theorem dX11_mean_1 : decode cX11_mean 1 = .ok (.getfield 19, 3) := by decide +kernel
theorem dX11_mean_4 : decode cX11_mean 4 = .ok (.getfield 106, 3) := by decide +kernel
theorem dX11_mean_7 : decode cX11_mean 7 = .ok (.iload_n 1, 1) := by decide +kernel
theorem dX11_mean_8 : decode cX11_mean 8 = .ok (.invokevirtual 171, 3) := by decide +kernel
theorem dX11_mean_11 : decode cX11_mean 11 = .ok (.ifCond .eq 20, 3) := by decide +kernel
theorem dX11_mean_14 : decode cX11_mean 14 = .ok (.aload_n 0, 1) := by decide +kernel
theorem dX11_mean_15 : decode cX11_mean 15 = .ok (.getfield 19, 3) := by decide +kernel
theorem dX11_mean_18 : decode cX11_mean 18 = .ok (.getfield 106, 3) := by decide +kernel
theorem dX11_mean_21 : decode cX11_mean 21 = .ok (.iload_n 1, 1) := by decide +kernel
theorem dX11_mean_22 : decode cX11_mean 22 = .ok (.invokevirtual 180, 3) := by decide +kernel
theorem dX11_mean_25 : decode cX11_mean 25 = .ok (.invokestatic 308, 3) := by decide +kernel
theorem dX11_mean_28 : decode cX11_mean 28 = .ok (.goto 4, 3) := by decide +kernel
theorem dX11_mean_31 : decode cX11_mean 31 = .ok (.iconst 0, 1) := by decide +kernel
theorem dX11_mean_32 : decode cX11_mean 32 = .ok (.istore_n 3, 1) := by decide +kernel
theorem dX11_mean_33 : decode cX11_mean 33 = .ok (.iload_n 3, 1) := by decide +kernel
theorem dX11_mean_34 : decode cX11_mean 34 = .ok (.ifCond .eq 12, 3) := by decide +kernel
theorem dX11_mean_37 : decode cX11_mean 37 = .ok (.iload_n 2, 1) := by decide +kernel
theorem dX11_mean_38 : decode cX11_mean 38 = .ok (.ifCond .lt 8, 3) := by decide +kernel
theorem dX11_mean_41 : decode cX11_mean 41 = .ok (.iload_n 2, 1) := by decide +kernel
theorem dX11_mean_42 : decode cX11_mean 42 = .ok (.iconst 1, 1) := by decide +kernel
theorem dX11_mean_43 : decode cX11_mean 43 = .ok (.if_icmp .le 11, 3) := by decide +kernel
theorem dX11_mean_46 : decode cX11_mean 46 = .ok (.new 115, 3) := by decide +kernel
theorem dX11_mean_49 : decode cX11_mean 49 = .ok (.dup, 1) := by decide +kernel
theorem dX11_mean_50 : decode cX11_mean 50 = .ok (.invokespecial 117, 3) := by decide +kernel
theorem dX11_mean_53 : decode cX11_mean 53 = .ok (.athrow, 1) := by decide +kernel
theorem dX11_mean_54 : decode cX11_mean 54 = .ok (.aload_n 0, 1) := by decide +kernel
theorem dX11_mean_55 : decode cX11_mean 55 = .ok (.getfield 19, 3) := by decide +kernel
theorem dX11_mean_58 : decode cX11_mean 58 = .ok (.iload_n 1, 1) := by decide +kernel
theorem dX11_mean_59 : decode cX11_mean 59 = .ok (.invokevirtual 313, 3) := by decide +kernel
theorem dX11_mean_62 : decode cX11_mean 62 = .ok (.istore 4, 2) := by decide +kernel
theorem dX11_mean_64 : decode cX11_mean 64 = .ok (.iload_n 2, 1) := by decide +kernel
theorem dX11_mean_65 : decode cX11_mean 65 = .ok (.ifCond .ne 8, 3) := by decide +kernel
theorem dX11_mean_68 : decode cX11_mean 68 = .ok (.iload 4, 2) := by decide +kernel
theorem dX11_mean_70 : decode cX11_mean 70 = .ok (.goto 4, 3) := by decide +kernel
theorem dX11_mean_73 : decode cX11_mean 73 = .ok (.iload_n 3, 1) := by decide +kernel
theorem dX11_mean_74 : decode cX11_mean 74 = .ok (.istore 5, 2) := by decide +kernel
theorem dX11_mean_76 : decode cX11_mean 76 = .ok (.iload_n 3, 1) := by decide +kernel
theorem dX11_mean_77 : decode cX11_mean 77 = .ok (.istore 6, 2) := by decide +kernel
theorem dX11_mean_79 : decode cX11_mean 79 = .ok (.iload 6, 2) := by decide +kernel
theorem dX11_mean_81 : decode cX11_mean 81 = .ok (.iconst 1, 1) := by decide +kernel
theorem dX11_mean_82 : decode cX11_mean 82 = .ok (.if_icmp .le 30, 3) := by decide +kernel
theorem dX11_mean_85 : decode cX11_mean 85 = .ok (.iload 4, 2) := by decide +kernel
theorem dX11_mean_87 : decode cX11_mean 87 = .ok (.iload 6, 2) := by decide +kernel
theorem dX11_mean_89 : decode cX11_mean 89 = .ok (.irem, 1) := by decide +kernel
theorem dX11_mean_90 : decode cX11_mean 90 = .ok (.ifCond .ne 16, 3) := by decide +kernel
theorem dX11_mean_93 : decode cX11_mean 93 = .ok (.iload_n 3, 1) := by decide +kernel
theorem dX11_mean_94 : decode cX11_mean 94 = .ok (.iload 6, 2) := by decide +kernel
theorem dX11_mean_96 : decode cX11_mean 96 = .ok (.irem, 1) := by decide +kernel
theorem dX11_mean_97 : decode cX11_mean 97 = .ok (.ifCond .ne 9, 3) := by decide +kernel
theorem dX11_mean_100 : decode cX11_mean 100 = .ok (.iload 5, 2) := by decide +kernel
theorem dX11_mean_102 : decode cX11_mean 102 = .ok (.iload 6, 2) := by decide +kernel
theorem dX11_mean_104 : decode cX11_mean 104 = .ok (.idiv, 1) := by decide +kernel
theorem dX11_mean_105 : decode cX11_mean 105 = .ok (.ireturn, 1) := by decide +kernel
theorem dX11_mean_106 : decode cX11_mean 106 = .ok (.iinc 6 (-1), 3) := by decide +kernel
theorem dX11_mean_109 : decode cX11_mean 109 = .ok (.goto (-30), 3) := by decide +kernel
theorem dX11_mean_112 : decode cX11_mean 112 = .ok (.iload 5, 2) := by decide +kernel
theorem dX11_mean_114 : decode cX11_mean 114 = .ok (.ireturn, 1) := by decide +kernel
def f_X11_mean_106 (v0 : XM) (k79 : Int32 → Int32 → Int32 → Int32 → Option (Int32 × Int32)) (l3 : Int32) (l4 : Int32) (l5 : Int32) (l6 : Int32) : Option (Int32 × Int32) :=
  k79 l3 l4 l5 (l6 + (-1))
def f_X11_mean_79 (v0 : XM) (k79 : Int32 → Int32 → Int32 → Int32 → Option (Int32 × Int32)) (l3 : Int32) (l4 : Int32) (l5 : Int32) (l6 : Int32) : Option (Int32 × Int32) :=
  if (l6 : Int32) ≤ (1 : Int32) then
  (some ((0 : Int32), l5))
  else (x_nz l6 (
  if (l4 - l4 / l6 * l6) = (0 : Int32) then
  (x_nz l6 (
  if (l3 - l3 / l6 * l6) = (0 : Int32) then
  (x_nz l6 (
  some ((0 : Int32), l5 / l6)))
  else (f_X11_mean_106 v0 k79 l3 l4 l5 l6)))
  else (f_X11_mean_106 v0 k79 l3 l4 l5 l6)))
def f_X11_mean_74 (v0 : XM) (l3 : Int32) (l4 : Int32) (s0 : Int32) : Option (Int32 × Int32) :=
  x_lp (φ := Int32 → Int32 → Int32 → Int32 → Option (Int32 × Int32)) (fun _ _ _ _ => none) (f_X11_mean_79 v0 ) x_NN l3 l4 s0 l3
def f_X11_mean_32 (v0 : XM) (l1 : Int32) (l2 : Int32) (s0 : Int32) : Option (Int32 × Int32) :=
  if s0 = (0 : Int32) then
  (some ((1 : Int32), (0 : Int32)))
  else (if l2 < (0 : Int32) then
  (some ((1 : Int32), (0 : Int32)))
  else (if (l2 : Int32) ≤ (1 : Int32) then
  (x_bo (f_X10_deepInAll (x_sub v0 5) l1) (fun y1 =>
  if l2 = (0 : Int32) then
  (f_X11_mean_74 v0  s0 y1 y1)
  else (f_X11_mean_74 v0  s0 y1 s0)))
  else (some ((1 : Int32), (0 : Int32)))))
def f_X11_mean (v0 : XM) (x0 : Int32) (x1 : Int32) : Option (Int32 × Int32) :=
  x_lt (f_X9_hasSpot (x_sub v0 6) x0) (fun y2 =>
  if y2 = (0 : Int32) then
  (f_X11_mean_32 v0  x0 x1 (0 : Int32))
  else (x_bo (f_X9_foldsAt (x_sub v0 6) x0) (fun y3 =>
  x_lt (f_J6_bitCount_0f7a4 y3) (fun y4 =>
  f_X11_mean_32 v0  x0 x1 y4))))
set_option maxRecDepth 100000 in
set_option maxHeartbeats 4000000 in
theorem w_X11_mean_106 {p : Program} {l : Launch} {e : Env} {s : State} {m : MethodId} {args : Array Value} {below : List Frame} {meth : Method} {c : Code} {D : va_G} {tc : Nat → ClassId} {aK aV : Nat → Nat} {A : Nat → Prop} {ad0 : Nat → Nat} {v0 : XM} (X : Cx p s m args meth c cX11_mean 7 (some .int) RX11 D tc aK aV A [(shFoldRoads, ad0)]) (hl0 : l.stackTraces = false) (htab : ∀ x ∈ c.exceptionTable.toList, False) (hNw : x_Nw s)  {o : Int32 × Int32} {k79 : Int32 → Int32 → Int32 → Int32 → Option (Int32 × Int32)} (hk79 : ∀ (l3 : Int32) (l4 : Int32) (l5 : Int32) (l6 : Int32), k79 l3 l4 l5 l6 = some o → xW p l e (x_RmX 6) s m args below meth c D tc A 7 [(shFoldRoads, ad0)] o.1 (some (.int o.2)) [v0] 79 [(3, .int l3), (4, .int l4), (5, .int l5), (6, .int l6)] [] [v0]) {l3 : Int32} {l4 : Int32} {l5 : Int32} {l6 : Int32}  (h : f_X11_mean_106 v0 k79 l3 l4 l5 l6 = some o) : xW p l e (x_RmX 6) s m args below meth c D tc A 7 [(shFoldRoads, ad0)] o.1 (some (.int o.2)) [v0] 106 [(3, .int l3), (4, .int l4), (5, .int l5), (6, .int l6)] [] [v0] := by
  unfold f_X11_mean_106 at h
  refine a_iinc (pc := 106) X 3 [(6, .int (l6 + (-1))), (3, .int l3), (4, .int l4), (5, .int l5)] dX11_mean_106 rfl (congrArg (HAdd.hAdd l6) q_ic_m1) (by decide) rfl ?_
  refine a_goto (pc := 109) X 79 dX11_mean_109 rfl ?_
  refine a_sub [1, 2, 3, 0] rfl ?_
  exact hk79 _ _ _ _ h
set_option maxRecDepth 100000 in
set_option maxHeartbeats 4000000 in
theorem w_X11_mean_79 {p : Program} {l : Launch} {e : Env} {s : State} {m : MethodId} {args : Array Value} {below : List Frame} {meth : Method} {c : Code} {D : va_G} {tc : Nat → ClassId} {aK aV : Nat → Nat} {A : Nat → Prop} {ad0 : Nat → Nat} {v0 : XM} (X : Cx p s m args meth c cX11_mean 7 (some .int) RX11 D tc aK aV A [(shFoldRoads, ad0)]) (hl0 : l.stackTraces = false) (htab : ∀ x ∈ c.exceptionTable.toList, False) (hNw : x_Nw s)  {o : Int32 × Int32}  : ∀ (n : Nat), ∀ (l3 : Int32) (l4 : Int32) (l5 : Int32) (l6 : Int32), x_lp (φ := Int32 → Int32 → Int32 → Int32 → Option (Int32 × Int32)) (fun _ _ _ _ => none) (f_X11_mean_79 v0 ) n l3 l4 l5 l6 = some o → xW p l e (x_RmX 6) s m args below meth c D tc A 7 [(shFoldRoads, ad0)] o.1 (some (.int o.2)) [v0] 79 [(3, .int l3), (4, .int l4), (5, .int l5), (6, .int l6)] [] [v0] := by
  intro n
  induction n with
  | zero => intro l3 l4 l5 l6 h; exact absurd h (fun q => by cases q)
  | succ n ih =>
    intro l3 l4 l5 l6 h
    have h : f_X11_mean_79 v0  (x_lp (φ := Int32 → Int32 → Int32 → Int32 → Option (Int32 × Int32)) (fun _ _ _ _ => none) (f_X11_mean_79 v0 ) n) l3 l4 l5 l6 = some o := h
    generalize x_lp (φ := Int32 → Int32 → Int32 → Int32 → Option (Int32 × Int32)) (fun _ _ _ _ => none) (f_X11_mean_79 v0 ) n = k79 at h ih
    have hk79 := ih
    unfold f_X11_mean_79 at h
    refine a_iload (pc := 79) X 3 dX11_mean_79 rfl ?_
    refine a_iconst (pc := 81) X dX11_mean_81 q_ic_1 ?_
    refine a_icmp_le (pc := 82) X 112 dX11_mean_82 rfl (fun c_82 => ?_) (fun c_82 => ?_)
    · have h := x_ifp c_82 h
      refine a_iload (pc := 112) X 2 dX11_mean_112 rfl ?_
      have h := Option.some.inj h; subst h
      exact a_xret (pc := 114) X dX11_mean_114
    · have h := x_ifn c_82 h
      refine a_iload (pc := 85) X 1 dX11_mean_85 rfl ?_
      refine a_iload (pc := 87) X 3 dX11_mean_87 rfl ?_
      obtain ⟨c_89, h⟩ := x_nz_elim h
      refine a_irem (pc := 89) X c_89 dX11_mean_89 ?_
      refine a_if_ne (pc := 90) X 106 dX11_mean_90 rfl (fun c_90 => ?_) (fun c_90 => ?_)
      · have h := x_ifn c_90 h
        exact w_X11_mean_106 X hl0 htab hNw  hk79  h
      · have h := x_ifp c_90 h
        refine a_iload_n (pc := 93) X 0 dX11_mean_93 rfl rfl ?_
        refine a_iload (pc := 94) X 3 dX11_mean_94 rfl ?_
        obtain ⟨c_96, h⟩ := x_nz_elim h
        refine a_irem (pc := 96) X c_96 dX11_mean_96 ?_
        refine a_if_ne (pc := 97) X 106 dX11_mean_97 rfl (fun c_97 => ?_) (fun c_97 => ?_)
        · have h := x_ifn c_97 h
          exact w_X11_mean_106 X hl0 htab hNw  hk79  h
        · have h := x_ifp c_97 h
          refine a_iload (pc := 100) X 2 dX11_mean_100 rfl ?_
          refine a_iload (pc := 102) X 3 dX11_mean_102 rfl ?_
          obtain ⟨c_104, h⟩ := x_nz_elim h
          refine a_idiv (pc := 104) X c_104 dX11_mean_104 ?_
          have h := Option.some.inj h; subst h
          exact a_xret (pc := 105) X dX11_mean_105
set_option maxRecDepth 100000 in
set_option maxHeartbeats 4000000 in
theorem w_X11_mean_74 {p : Program} {l : Launch} {e : Env} {s : State} {m : MethodId} {args : Array Value} {below : List Frame} {meth : Method} {c : Code} {D : va_G} {tc : Nat → ClassId} {aK aV : Nat → Nat} {A : Nat → Prop} {ad0 : Nat → Nat} {v0 : XM} (X : Cx p s m args meth c cX11_mean 7 (some .int) RX11 D tc aK aV A [(shFoldRoads, ad0)]) (hl0 : l.stackTraces = false) (htab : ∀ x ∈ c.exceptionTable.toList, False) (hNw : x_Nw s)  {o : Int32 × Int32}  {l3 : Int32} {l4 : Int32} {s0 : Int32}  (h : f_X11_mean_74 v0  l3 l4 s0 = some o) : xW p l e (x_RmX 6) s m args below meth c D tc A 7 [(shFoldRoads, ad0)] o.1 (some (.int o.2)) [v0] 74 [(3, .int l3), (4, .int l4)] [.int s0] [v0] := by
  unfold f_X11_mean_74 at h
  refine a_istore (pc := 74) X [(5, .int s0), (3, .int l3), (4, .int l4)] dX11_mean_74 (by decide) rfl ?_
  refine a_iload_n (pc := 76) X 1 dX11_mean_76 rfl rfl ?_
  refine a_istore (pc := 77) X [(6, .int l3), (5, .int s0), (3, .int l3), (4, .int l4)] dX11_mean_77 (by decide) rfl ?_
  refine a_sub [2, 3, 1, 0] rfl ?_
  exact w_X11_mean_79 X hl0 htab hNw   x_NN _ _ _ _ h
set_option maxRecDepth 100000 in
set_option maxHeartbeats 4000000 in
theorem w_X11_mean_32 {p : Program} {l : Launch} {e : Env} {s : State} {m : MethodId} {args : Array Value} {below : List Frame} {meth : Method} {c : Code} {D : va_G} {tc : Nat → ClassId} {aK aV : Nat → Nat} {A : Nat → Prop} {ad0 : Nat → Nat} {v0 : XM} (X : Cx p s m args meth c cX11_mean 7 (some .int) RX11 D tc aK aV A [(shFoldRoads, ad0)]) (hl0 : l.stackTraces = false) (htab : ∀ x ∈ c.exceptionTable.toList, False) (hNw : x_Nw s)  {o : Int32 × Int32}  {l1 : Int32} {l2 : Int32} {s0 : Int32}  (h : f_X11_mean_32 v0  l1 l2 s0 = some o) : xW p l e (x_RmX 6) s m args below meth c D tc A 7 [(shFoldRoads, ad0)] o.1 (some (.int o.2)) [v0] 32 [(0, .ref (ad0 0)), (1, .int l1), (2, .int l2)] [.int s0] [v0] := by
  unfold f_X11_mean_32 at h
  refine a_istore_n (pc := 32) X [(3, .int s0), (0, .ref (ad0 0)), (1, .int l1), (2, .int l2)] dX11_mean_32 rfl (by decide) rfl ?_
  refine a_iload_n (pc := 33) X 0 dX11_mean_33 rfl rfl ?_
  refine a_if_eq (pc := 34) X 46 dX11_mean_34 rfl (fun c_34 => ?_) (fun c_34 => ?_)
  · have h := x_ifp c_34 h
    have h := Option.some.inj h; subst h
    exact a_throw (pc := 46) X hl0 htab hNw k_thr dX11_mean_46 dX11_mean_49 dX11_mean_50 dX11_mean_53 (Nat.le_of_ble_eq_true rfl) (Nat.le_of_ble_eq_true rfl) (Nat.le_of_ble_eq_true rfl) (Nat.le_of_ble_eq_true rfl)
  · have h := x_ifn c_34 h
    refine a_iload_n (pc := 37) X 3 dX11_mean_37 rfl rfl ?_
    refine a_if_lt (pc := 38) X 46 dX11_mean_38 rfl (fun c_38 => ?_) (fun c_38 => ?_)
    · have h := x_ifp c_38 h
      have h := Option.some.inj h; subst h
      exact a_throw (pc := 46) X hl0 htab hNw k_thr dX11_mean_46 dX11_mean_49 dX11_mean_50 dX11_mean_53 (Nat.le_of_ble_eq_true rfl) (Nat.le_of_ble_eq_true rfl) (Nat.le_of_ble_eq_true rfl) (Nat.le_of_ble_eq_true rfl)
    · have h := x_ifn c_38 h
      refine a_iload_n (pc := 41) X 3 dX11_mean_41 rfl rfl ?_
      refine a_iconst (pc := 42) X dX11_mean_42 q_ic_1 ?_
      refine a_icmp_le (pc := 43) X 54 dX11_mean_43 rfl (fun c_43 => ?_) (fun c_43 => ?_)
      · have h := x_ifp c_43 h
        refine a_aload_n (pc := 54) X 1 dX11_mean_54 rfl rfl ?_
        refine a_getR (pc := 55) X 0 5 5 fl_RX11_19 rfl rfl rfl rfl rfl dX11_mean_55 ?_
        refine a_iload_n (pc := 58) X 2 dX11_mean_58 rfl rfl ?_
        obtain ⟨y1, e_y1, h⟩ := x_bo_elim h
        refine a_callV (pc := 59) (st2 := [.int y1]) (vs2 := [v0]) X [(0, 5, 32)] [none] 0 5 10 [.int l1] [] cv_RX11_313 (c_X10_deepInAll (ad0 := (fun i => ad0 (i + 5)))  e_y1) rfl rfl rfl rfl rfl rfl rfl rfl rfl rfl rfl rfl rfl rfl rfl (Nat.le_of_ble_eq_true rfl) ⟨Nat.le_of_ble_eq_true rfl, Nat.le_of_ble_eq_true rfl⟩ dX11_mean_59 (fun _ => ?_)
        refine a_istore (pc := 62) X [(4, .int y1), (3, .int s0), (0, .ref (ad0 0)), (1, .int l1), (2, .int l2)] dX11_mean_62 (by decide) rfl ?_
        refine a_iload_n (pc := 64) X 4 dX11_mean_64 rfl rfl ?_
        refine a_if_ne (pc := 65) X 73 dX11_mean_65 rfl (fun c_65 => ?_) (fun c_65 => ?_)
        · have h := x_ifn c_65 h
          refine a_iload_n (pc := 73) X 1 dX11_mean_73 rfl rfl ?_
          refine a_sub [1, 0] rfl ?_
          exact w_X11_mean_74 X hl0 htab hNw    h
        · have h := x_ifp c_65 h
          refine a_iload (pc := 68) X 0 dX11_mean_68 rfl ?_
          refine a_goto (pc := 70) X 74 dX11_mean_70 rfl ?_
          refine a_sub [1, 0] rfl ?_
          exact w_X11_mean_74 X hl0 htab hNw    h
      · have h := x_ifn c_43 h
        have h := Option.some.inj h; subst h
        exact a_throw (pc := 46) X hl0 htab hNw k_thr dX11_mean_46 dX11_mean_49 dX11_mean_50 dX11_mean_53 (Nat.le_of_ble_eq_true rfl) (Nat.le_of_ble_eq_true rfl) (Nat.le_of_ble_eq_true rfl) (Nat.le_of_ble_eq_true rfl)
set_option maxRecDepth 100000 in
set_option maxHeartbeats 4000000 in
theorem c_X11_mean {l : Launch} (hl0 : l.stackTraces = false) {ad0 : Nat → Nat} {v0 : XM} {x0 : Int32} {x1 : Int32} {o : Int32 × Int32} (h : f_X11_mean v0 x0 x1 = some o) : CTX l yX11_mean cX11_mean 7 (some .int) 6 [(shFoldRoads, ad0)] [v0] (fun aK => [.ref (ad0 0), .int x0, .int x1]) o.1 (some (.int o.2)) [v0] := by
  refine CTX_of (by decide) (fun _ => Nat.le_of_ble_eq_true rfl) ?_
  intro p e s m args below meth c D tc aK aV A X htab hNw
  have X : Cx p s m args meth c cX11_mean 7 (some .int) RX11 D tc aK aV A [(shFoldRoads, ad0)] := X
  show xW p l e (x_RmX 6) s m args below meth c D tc A 7 [(shFoldRoads, ad0)] o.1 (some (.int o.2)) [v0] 0 [(0, .ref (ad0 0)), (1, .int x0), (2, .int x1)] [] [v0]
  unfold f_X11_mean at h
  refine a_aload_n (pc := 0) X 0 dX11_mean_0 rfl rfl ?_
  refine a_getR (pc := 1) X 0 5 5 fl_RX11_19 rfl rfl rfl rfl rfl dX11_mean_1 ?_
  refine a_getR (pc := 4) X 0 1 6 fl_RX11_106 rfl rfl rfl rfl rfl dX11_mean_4 ?_
  refine a_iload_n (pc := 7) X 1 dX11_mean_7 rfl rfl ?_
  obtain ⟨y2, e_y2, h⟩ := x_lt_elim h
  refine a_callV (pc := 8) (st2 := [.int y2]) (vs2 := [v0]) X [(0, 6, 16)] [none] 0 6 9 [.int x0] [] cv_RX11_171 (c_X9_hasSpot (ad0 := (fun i => ad0 (i + 6)))  e_y2) rfl rfl rfl rfl rfl rfl rfl rfl rfl rfl rfl rfl rfl rfl rfl (Nat.le_of_ble_eq_true rfl) ⟨Nat.le_of_ble_eq_true rfl, Nat.le_of_ble_eq_true rfl⟩ dX11_mean_8 (fun z_8 => ?_)
  refine a_if_eq (pc := 11) X 31 dX11_mean_11 rfl (fun c_11 => ?_) (fun c_11 => ?_)
  · have h := x_ifp c_11 h
    refine a_iconst (pc := 31) X dX11_mean_31 q_ic_0 ?_
    exact w_X11_mean_32 X hl0 htab hNw    h
  · have h := x_ifn c_11 h
    refine a_aload_n (pc := 14) X 0 dX11_mean_14 rfl rfl ?_
    refine a_getR (pc := 15) X 0 5 5 fl_RX11_19 rfl rfl rfl rfl rfl dX11_mean_15 ?_
    refine a_getR (pc := 18) X 0 1 6 fl_RX11_106 rfl rfl rfl rfl rfl dX11_mean_18 ?_
    refine a_iload_n (pc := 21) X 1 dX11_mean_21 rfl rfl ?_
    obtain ⟨y3, e_y3, h⟩ := x_bo_elim h
    refine a_callV (pc := 22) (st2 := [.int y3]) (vs2 := [v0]) X [(0, 6, 16)] [none] 0 6 9 [.int x0] [] cv_RX11_180 (c_X9_foldsAt (ad0 := (fun i => ad0 (i + 6)))  e_y3) rfl rfl rfl rfl rfl rfl rfl rfl rfl rfl rfl rfl rfl rfl rfl (Nat.le_of_ble_eq_true rfl) ⟨Nat.le_of_ble_eq_true rfl, Nat.le_of_ble_eq_true rfl⟩ dX11_mean_22 (fun _ => ?_)
    obtain ⟨y4, e_y4, h⟩ := x_lt_elim h
    refine a_callS (pc := 25) (st2 := [.int y4]) (vs2 := [v0]) X [] [] [.int y3] [] cv_RX11_308 (c_J6_bitCount_0f7a4   e_y4) rfl rfl rfl rfl rfl rfl rfl rfl rfl rfl rfl (Nat.le_of_ble_eq_true rfl) ⟨Nat.le_of_ble_eq_true rfl, Nat.le_of_ble_eq_true rfl⟩ dX11_mean_25 (fun _ => ?_)
    refine a_goto (pc := 28) X 32 dX11_mean_28 rfl ?_
    exact w_X11_mean_32 X hl0 htab hNw    h
theorem dX11_tag_0 : decode cX11_tag 0 = .ok (.aload_n 0, 1) := by decide +kernel
theorem dX11_tag_1 : decode cX11_tag 1 = .ok (.getfield 19, 3) := by decide +kernel
theorem dX11_tag_4 : decode cX11_tag 4 = .ok (.getfield 106, 3) := by decide +kernel
theorem dX11_tag_7 : decode cX11_tag 7 = .ok (.iload_n 1, 1) := by decide +kernel
theorem dX11_tag_8 : decode cX11_tag 8 = .ok (.invokevirtual 109, 3) := by decide +kernel
theorem dX11_tag_11 : decode cX11_tag 11 = .ok (.ifCond .ne 5, 3) := by decide +kernel
theorem dX11_tag_14 : decode cX11_tag 14 = .ok (.iconst (-1), 1) := by decide +kernel
theorem dX11_tag_15 : decode cX11_tag 15 = .ok (.ireturn, 1) := by decide +kernel
theorem dX11_tag_16 : decode cX11_tag 16 = .ok (.aload_n 0, 1) := by decide +kernel
theorem dX11_tag_17 : decode cX11_tag 17 = .ok (.getfield 74, 3) := by decide +kernel
theorem dX11_tag_20 : decode cX11_tag 20 = .ok (.aload_n 0, 1) := by decide +kernel
theorem dX11_tag_21 : decode cX11_tag 21 = .ok (.getfield 19, 3) := by decide +kernel
theorem dX11_tag_24 : decode cX11_tag 24 = .ok (.iload_n 1, 1) := by decide +kernel
theorem dX11_tag_25 : decode cX11_tag 25 = .ok (.aload_n 0, 1) := by decide +kernel
theorem dX11_tag_26 : decode cX11_tag 26 = .ok (.getfield 67, 3) := by decide +kernel
theorem dX11_tag_29 : decode cX11_tag 29 = .ok (.aload_n 0, 1) := by decide +kernel
theorem dX11_tag_30 : decode cX11_tag 30 = .ok (.getfield 19, 3) := by decide +kernel
theorem dX11_tag_33 : decode cX11_tag 33 = .ok (.invokevirtual 146, 3) := by decide +kernel
theorem dX11_tag_36 : decode cX11_tag 36 = .ok (.iload_n 1, 1) := by decide +kernel
theorem dX11_tag_37 : decode cX11_tag 37 = .ok (.ishr, 1) := by decide +kernel
theorem dX11_tag_38 : decode cX11_tag 38 = .ok (.iconst 1, 1) := by decide +kernel
theorem dX11_tag_39 : decode cX11_tag 39 = .ok (.iand, 1) := by decide +kernel
theorem dX11_tag_40 : decode cX11_tag 40 = .ok (.iconst 1, 1) := by decide +kernel
theorem dX11_tag_41 : decode cX11_tag 41 = .ok (.if_icmp .ne 7, 3) := by decide +kernel
theorem dX11_tag_44 : decode cX11_tag 44 = .ok (.iconst 1, 1) := by decide +kernel
theorem dX11_tag_45 : decode cX11_tag 45 = .ok (.goto 4, 3) := by decide +kernel
theorem dX11_tag_48 : decode cX11_tag 48 = .ok (.iconst 0, 1) := by decide +kernel
theorem dX11_tag_49 : decode cX11_tag 49 = .ok (.invokevirtual 316, 3) := by decide +kernel
theorem dX11_tag_52 : decode cX11_tag 52 = .ok (.aload_n 0, 1) := by decide +kernel
theorem dX11_tag_53 : decode cX11_tag 53 = .ok (.getfield 74, 3) := by decide +kernel
theorem dX11_tag_56 : decode cX11_tag 56 = .ok (.getfield 320, 3) := by decide +kernel
theorem dX11_tag_59 : decode cX11_tag 59 = .ok (.ireturn, 1) := by decide +kernel
def f_X11_tag_49 (w0 : XM) (s2 : Int32) (s3 : Int32) : Option (Int32 × XM) :=
  x_bo (f_X7_write (x_sub w0 315) (x_sub w0 5) s2 s3) (fun y1 =>
  x_lt (x_put w0 315 3 y1) (fun m2 =>
  some (m2.1 315 1, m2)))
def f_X11_tag (v0 : XM) (x0 : Int32) : Option (Int32 × XM) :=
  x_lt (f_X9_hasWalker (x_sub v0 6) x0) (fun y3 =>
  if y3 = (0 : Int32) then
  (some ((-1 : Int32), v0))
  else (x_bo (f_X2_lostWalkers (x_sub v0 300) (x_sub v0 5)) (fun y4 =>
  x_lt (x_put v0 300 15 y4.2) (fun m5 =>
  if (((y4.1 >>> (x0 &&& 31)) &&& (1 : Int32)) : Int32) = (1 : Int32) then
  (f_X11_tag_49   m5 x0 (1 : Int32))
  else (f_X11_tag_49   m5 x0 (0 : Int32))))))
set_option maxRecDepth 100000 in
set_option maxHeartbeats 4000000 in
theorem w_X11_tag_49 {p : Program} {l : Launch} {e : Env} {s : State} {m : MethodId} {args : Array Value} {below : List Frame} {meth : Method} {c : Code} {D : va_G} {tc : Nat → ClassId} {aK aV : Nat → Nat} {A : Nat → Prop} {ad0 : Nat → Nat}  (X : Cx p s m args meth c cX11_tag 2 (some .int) RX11 D tc aK aV A [(shFoldRoads, ad0)])  {o : Int32 × XM}  {w0 : XM} {s2 : Int32} {s3 : Int32} (hzs3 : x_Z s3) (h : f_X11_tag_49   w0 s2 s3 = some o) : aW p l e (x_Rm 7) s m args below meth c D tc A 2 [(shFoldRoads, ad0)] (some (.int o.1)) True [o.2] 49 [(0, .ref (ad0 0))] [.int s3, .int s2, .ref (ad0 5), .ref (ad0 315)] [w0] := by
  unfold f_X11_tag_49 at h
  obtain ⟨y1, e_y1, h⟩ := x_bo_elim h
  refine a_callV (pc := 49) (st2 := []) (vs2 := [x_put w0 315 3 y1]) X [(0, 315, 3), (0, 5, 32)] [some y1, none] 0 315 7 [.ref (ad0 5), .int s2, .int s3] [] cv_RX11_316 (c_X7_write (ad0 := (fun i => ad0 (i + 315))) (ad1 := (fun i => ad0 (i + 5))) hzs3 e_y1) rfl rfl rfl rfl rfl rfl rfl rfl rfl rfl rfl rfl rfl rfl rfl (Nat.le_of_ble_eq_true rfl) ⟨Nat.le_of_ble_eq_true rfl, Nat.le_of_ble_eq_true rfl⟩ dX11_tag_49 (fun _ => ?_)
  obtain ⟨m2, e_m2, h⟩ := x_lt_elim h
  refine a_nm (vs2 := [m2]) (congrArg (fun q : XM => [q]) e_m2) ?_
  refine a_aload_n (pc := 52) X 0 dX11_tag_52 rfl rfl ?_
  refine a_getR (pc := 53) X 0 315 315 fl_RX11_74 rfl rfl rfl rfl rfl dX11_tag_53 ?_
  refine a_getI (pc := 56) X 0 fl_RX11_320 rfl rfl rfl rfl dX11_tag_56 ?_
  have h := Option.some.inj h; subst h
  exact a_iret (pc := 59) X trivial dX11_tag_59
set_option maxRecDepth 100000 in
set_option maxHeartbeats 4000000 in
theorem c_X11_tag {l : Launch}  {ad0 : Nat → Nat} {v0 : XM} {x0 : Int32}  {o : Int32 × XM} (h : f_X11_tag v0 x0 = some o) : CT l yX11_tag cX11_tag 2 (some .int) 7 [(shFoldRoads, ad0)] [v0] (fun aK => [.ref (ad0 0), .int x0]) (some (.int o.1)) True [o.2] := by
  refine CT_of (by decide) (fun _ => Nat.le_of_ble_eq_true rfl) ?_
  intro p e s m args below meth c D tc aK aV A X
  have X : Cx p s m args meth c cX11_tag 2 (some .int) RX11 D tc aK aV A [(shFoldRoads, ad0)] := X
  show aW p l e (x_Rm 7) s m args below meth c D tc A 2 [(shFoldRoads, ad0)] (some (.int o.1)) True [o.2] 0 [(0, .ref (ad0 0)), (1, .int x0)] [] [v0]
  unfold f_X11_tag at h
  refine a_aload_n (pc := 0) X 0 dX11_tag_0 rfl rfl ?_
  refine a_getR (pc := 1) X 0 5 5 fl_RX11_19 rfl rfl rfl rfl rfl dX11_tag_1 ?_
  refine a_getR (pc := 4) X 0 1 6 fl_RX11_106 rfl rfl rfl rfl rfl dX11_tag_4 ?_
  refine a_iload_n (pc := 7) X 1 dX11_tag_7 rfl rfl ?_
  obtain ⟨y3, e_y3, h⟩ := x_lt_elim h
  refine a_callV (pc := 8) (st2 := [.int y3]) (vs2 := [v0]) X [(0, 6, 16)] [none] 0 6 9 [.int x0] [] cv_RX11_109 (c_X9_hasWalker (ad0 := (fun i => ad0 (i + 6)))  e_y3) rfl rfl rfl rfl rfl rfl rfl rfl rfl rfl rfl rfl rfl rfl rfl (Nat.le_of_ble_eq_true rfl) ⟨Nat.le_of_ble_eq_true rfl, Nat.le_of_ble_eq_true rfl⟩ dX11_tag_8 (fun z_8 => ?_)
  refine a_if_ne (pc := 11) X 16 dX11_tag_11 rfl (fun c_11 => ?_) (fun c_11 => ?_)
  · have h := x_ifn c_11 h
    refine a_aload_n (pc := 16) X 0 dX11_tag_16 rfl rfl ?_
    refine a_getR (pc := 17) X 0 315 315 fl_RX11_74 rfl rfl rfl rfl rfl dX11_tag_17 ?_
    refine a_aload_n (pc := 20) X 0 dX11_tag_20 rfl rfl ?_
    refine a_getR (pc := 21) X 0 5 5 fl_RX11_19 rfl rfl rfl rfl rfl dX11_tag_21 ?_
    refine a_iload_n (pc := 24) X 1 dX11_tag_24 rfl rfl ?_
    refine a_aload_n (pc := 25) X 0 dX11_tag_25 rfl rfl ?_
    refine a_getR (pc := 26) X 0 300 300 fl_RX11_67 rfl rfl rfl rfl rfl dX11_tag_26 ?_
    refine a_aload_n (pc := 29) X 0 dX11_tag_29 rfl rfl ?_
    refine a_getR (pc := 30) X 0 5 5 fl_RX11_19 rfl rfl rfl rfl rfl dX11_tag_30 ?_
    obtain ⟨y4, e_y4, h⟩ := x_bo_elim h
    refine a_callV (pc := 33) (st2 := [.int y4.1, .int x0, .ref (ad0 5), .ref (ad0 315)]) (vs2 := [x_put v0 300 15 y4.2]) X [(0, 300, 15), (0, 5, 32)] [some y4.2, none] 0 300 2 [.ref (ad0 5)] [.int x0, .ref (ad0 5), .ref (ad0 315)] cv_RX11_146 (c_X2_lostWalkers (ad0 := (fun i => ad0 (i + 300))) (ad1 := (fun i => ad0 (i + 5)))  e_y4) rfl rfl rfl rfl rfl rfl rfl rfl rfl rfl rfl rfl rfl rfl rfl (Nat.le_of_ble_eq_true rfl) ⟨Nat.le_of_ble_eq_true rfl, Nat.le_of_ble_eq_true rfl⟩ dX11_tag_33 (fun _ => ?_)
    obtain ⟨m5, e_m5, h⟩ := x_lt_elim h
    refine a_nm (vs2 := [m5]) (congrArg (fun q : XM => [q]) e_m5) ?_
    refine a_iload_n (pc := 36) X 1 dX11_tag_36 rfl rfl ?_
    refine a_ishr (pc := 37) X dX11_tag_37 ?_
    refine a_iconst (pc := 38) X dX11_tag_38 q_ic_1 ?_
    refine a_iand (pc := 39) X dX11_tag_39 ?_
    refine a_iconst (pc := 40) X dX11_tag_40 q_ic_1 ?_
    refine a_icmp_ne (pc := 41) X 48 dX11_tag_41 rfl (fun c_41 => ?_) (fun c_41 => ?_)
    · have h := x_ifn c_41 h
      refine a_iconst (pc := 48) X dX11_tag_48 q_ic_0 ?_
      refine a_sub [0] rfl ?_
      exact w_X11_tag_49 X    x_Z0 h
    · have h := x_ifp c_41 h
      refine a_iconst (pc := 44) X dX11_tag_44 q_ic_1 ?_
      refine a_goto (pc := 45) X 49 dX11_tag_45 rfl ?_
      refine a_sub [0] rfl ?_
      exact w_X11_tag_49 X    x_Z1 h
  · have h := x_ifp c_11 h
    refine a_iconst (pc := 14) X dX11_tag_14 q_ic_m1 ?_
    have h := Option.some.inj h; subst h
    exact a_iret (pc := 15) X trivial dX11_tag_15
theorem dX11_book_0 : decode cX11_book 0 = .ok (.iload_n 1, 1) := by decide +kernel
theorem dX11_book_1 : decode cX11_book 1 = .ok (.ifCond .eq 12, 3) := by decide +kernel
theorem dX11_book_4 : decode cX11_book 4 = .ok (.iload_n 1, 1) := by decide +kernel
theorem dX11_book_5 : decode cX11_book 5 = .ok (.iconst 1, 1) := by decide +kernel
theorem dX11_book_6 : decode cX11_book 6 = .ok (.if_icmp .eq 7, 3) := by decide +kernel
theorem dX11_book_9 : decode cX11_book 9 = .ok (.sipush (-1000), 3) := by decide +kernel
theorem dX11_book_12 : decode cX11_book 12 = .ok (.ireturn, 1) := by decide +kernel
theorem dX11_book_13 : decode cX11_book 13 = .ok (.aload_n 0, 1) := by decide +kernel
theorem dX11_book_14 : decode cX11_book 14 = .ok (.getfield 53, 3) := by decide +kernel
theorem dX11_book_17 : decode cX11_book 17 = .ok (.aload_n 0, 1) := by decide +kernel
theorem dX11_book_18 : decode cX11_book 18 = .ok (.getfield 12, 3) := by decide +kernel
theorem dX11_book_21 : decode cX11_book 21 = .ok (.aload_n 0, 1) := by decide +kernel
theorem dX11_book_22 : decode cX11_book 22 = .ok (.getfield 19, 3) := by decide +kernel
theorem dX11_book_25 : decode cX11_book 25 = .ok (.getfield 106, 3) := by decide +kernel
theorem dX11_book_28 : decode cX11_book 28 = .ok (.invokevirtual 324, 3) := by decide +kernel
theorem dX11_book_31 : decode cX11_book 31 = .ok (.istore_n 2, 1) := by decide +kernel
theorem dX11_book_32 : decode cX11_book 32 = .ok (.aload_n 0, 1) := by decide +kernel
theorem dX11_book_33 : decode cX11_book 33 = .ok (.getfield 12, 3) := by decide +kernel
theorem dX11_book_36 : decode cX11_book 36 = .ok (.iconst 0, 1) := by decide +kernel
theorem dX11_book_37 : decode cX11_book 37 = .ok (.putfield 78, 3) := by decide +kernel
theorem dX11_book_40 : decode cX11_book 40 = .ok (.iload_n 2, 1) := by decide +kernel
theorem dX11_book_41 : decode cX11_book 41 = .ok (.ifCond .ne 14, 3) := by decide +kernel
theorem dX11_book_44 : decode cX11_book 44 = .ok (.bipush (-2), 2) := by decide +kernel
theorem dX11_book_46 : decode cX11_book 46 = .ok (.aload_n 0, 1) := by decide +kernel
theorem dX11_book_47 : decode cX11_book 47 = .ok (.getfield 12, 3) := by decide +kernel
theorem dX11_book_50 : decode cX11_book 50 = .ok (.getfield 90, 3) := by decide +kernel
theorem dX11_book_53 : decode cX11_book 53 = .ok (.isub, 1) := by decide +kernel
theorem dX11_book_54 : decode cX11_book 54 = .ok (.ireturn, 1) := by decide +kernel
theorem dX11_book_55 : decode cX11_book 55 = .ok (.aload_n 0, 1) := by decide +kernel
theorem dX11_book_56 : decode cX11_book 56 = .ok (.getfield 32, 3) := by decide +kernel
theorem dX11_book_59 : decode cX11_book 59 = .ok (.aload_n 0, 1) := by decide +kernel
theorem dX11_book_60 : decode cX11_book 60 = .ok (.getfield 19, 3) := by decide +kernel
theorem dX11_book_63 : decode cX11_book 63 = .ok (.getfield 118, 3) := by decide +kernel
theorem dX11_book_66 : decode cX11_book 66 = .ok (.invokevirtual 230, 3) := by decide +kernel
theorem dX11_book_69 : decode cX11_book 69 = .ok (.aload_n 0, 1) := by decide +kernel
theorem dX11_book_70 : decode cX11_book 70 = .ok (.getfield 53, 3) := by decide +kernel
theorem dX11_book_73 : decode cX11_book 73 = .ok (.aload_n 0, 1) := by decide +kernel
theorem dX11_book_74 : decode cX11_book 74 = .ok (.getfield 19, 3) := by decide +kernel
theorem dX11_book_77 : decode cX11_book 77 = .ok (.invokevirtual 328, 3) := by decide +kernel
theorem dX11_book_80 : decode cX11_book 80 = .ok (.istore_n 3, 1) := by decide +kernel
theorem dX11_book_81 : decode cX11_book 81 = .ok (.iload_n 1, 1) := by decide +kernel
theorem dX11_book_82 : decode cX11_book 82 = .ok (.ifCond .ne 20, 3) := by decide +kernel
theorem dX11_book_85 : decode cX11_book 85 = .ok (.aload_n 0, 1) := by decide +kernel
theorem dX11_book_86 : decode cX11_book 86 = .ok (.getfield 19, 3) := by decide +kernel
theorem dX11_book_89 : decode cX11_book 89 = .ok (.getfield 118, 3) := by decide +kernel
theorem dX11_book_92 : decode cX11_book 92 = .ok (.aload_n 0, 1) := by decide +kernel
theorem dX11_book_93 : decode cX11_book 93 = .ok (.getfield 32, 3) := by decide +kernel
theorem dX11_book_96 : decode cX11_book 96 = .ok (.invokevirtual 230, 3) := by decide +kernel
theorem dX11_book_99 : decode cX11_book 99 = .ok (.goto 24, 3) := by decide +kernel
theorem dX11_book_102 : decode cX11_book 102 = .ok (.aload_n 0, 1) := by decide +kernel
theorem dX11_book_103 : decode cX11_book 103 = .ok (.getfield 53, 3) := by decide +kernel
theorem dX11_book_106 : decode cX11_book 106 = .ok (.getfield 331, 3) := by decide +kernel
theorem dX11_book_109 : decode cX11_book 109 = .ok (.ifCond .le 14, 3) := by decide +kernel
theorem dX11_book_112 : decode cX11_book 112 = .ok (.aload_n 0, 1) := by decide +kernel
theorem dX11_book_113 : decode cX11_book 113 = .ok (.getfield 39, 3) := by decide +kernel
theorem dX11_book_116 : decode cX11_book 116 = .ok (.aload_n 0, 1) := by decide +kernel
theorem dX11_book_117 : decode cX11_book 117 = .ok (.getfield 32, 3) := by decide +kernel
theorem dX11_book_120 : decode cX11_book 120 = .ok (.invokevirtual 237, 3) := by decide +kernel
theorem dX11_book_123 : decode cX11_book 123 = .ok (.iload_n 3, 1) := by decide +kernel
theorem dX11_book_124 : decode cX11_book 124 = .ok (.ireturn, 1) := by decide +kernel
def f_X11_book_13 (w0 : XM) (l1 : Int32) : Option (Int32 × XM) :=
  x_bo (f_X0_readBook (x_sub w0 282) (x_sub w0 1) (x_sub w0 6)) (fun y1 =>
  x_lt (x_put (x_put w0 282 9 y1.2.1) 1 4 y1.2.2) (fun m2 =>
  x_lt (x_si m2 1 2 (0 : Int32)) (fun m3 =>
  if y1.1 = (0 : Int32) then
  (some ((-2 : Int32) - (m3.1 1 11), m3))
  else (x_lt (f_X5_become (x_sub m3 128) (x_sub m3 22)) (fun y4 =>
  x_lt (x_put m3 128 15 y4) (fun m5 =>
  x_bo (f_X0_live (x_sub m5 282) (x_sub m5 5)) (fun y6 =>
  x_lt (x_put (x_put m5 282 9 y6.2.1) 5 32 y6.2.2) (fun m7 =>
  if l1 = (0 : Int32) then
  (x_lt (f_X5_become (x_sub m7 22) (x_sub m7 128)) (fun y10 =>
  x_lt (x_put m7 22 15 y10) (fun m11 =>
  some (y6.1, m11))))
  else (if (m7.1 282 7) ≤ (0 : Int32) then
  (some (y6.1, m7))
  else (x_lt (f_X1_keep (x_sub m7 143) (x_sub m7 128)) (fun y8 =>
  x_lt (x_put m7 143 122 y8) (fun m9 =>
  some (y6.1, m9)))))))))))))
def f_X11_book (v0 : XM) (x0 : Int32) : Option (Int32 × XM) :=
  if x0 = (0 : Int32) then
  (f_X11_book_13   v0 x0)
  else (if (x0 : Int32) = (1 : Int32) then
  (f_X11_book_13   v0 x0)
  else (some ((-1000 : Int32), v0)))
set_option maxRecDepth 100000 in
set_option maxHeartbeats 4000000 in
theorem w_X11_book_13 {p : Program} {l : Launch} {e : Env} {s : State} {m : MethodId} {args : Array Value} {below : List Frame} {meth : Method} {c : Code} {D : va_G} {tc : Nat → ClassId} {aK aV : Nat → Nat} {A : Nat → Prop} {ad0 : Nat → Nat}  (X : Cx p s m args meth c cX11_book 4 (some .int) RX11 D tc aK aV A [(shFoldRoads, ad0)])  {o : Int32 × XM}  {w0 : XM} {l1 : Int32}  (h : f_X11_book_13   w0 l1 = some o) : aW p l e (x_Rm 7) s m args below meth c D tc A 4 [(shFoldRoads, ad0)] (some (.int o.1)) True [o.2] 13 [(0, .ref (ad0 0)), (1, .int l1)] [] [w0] := by
  unfold f_X11_book_13 at h
  refine a_aload_n (pc := 13) X 0 dX11_book_13 rfl rfl ?_
  refine a_getR (pc := 14) X 0 282 282 fl_RX11_53 rfl rfl rfl rfl rfl dX11_book_14 ?_
  refine a_aload_n (pc := 17) X 0 dX11_book_17 rfl rfl ?_
  refine a_getR (pc := 18) X 0 1 1 fl_RX11_12 rfl rfl rfl rfl rfl dX11_book_18 ?_
  refine a_aload_n (pc := 21) X 0 dX11_book_21 rfl rfl ?_
  refine a_getR (pc := 22) X 0 5 5 fl_RX11_19 rfl rfl rfl rfl rfl dX11_book_22 ?_
  refine a_getR (pc := 25) X 0 1 6 fl_RX11_106 rfl rfl rfl rfl rfl dX11_book_25 ?_
  obtain ⟨y1, e_y1, h⟩ := x_bo_elim h
  refine a_callV (pc := 28) (st2 := [.int y1.1]) (vs2 := [x_put (x_put w0 282 9 y1.2.1) 1 4 y1.2.2]) X [(0, 282, 9), (0, 1, 4), (0, 6, 16)] [some y1.2.1, some y1.2.2, none] 0 282 0 [.ref (ad0 1), .ref (ad0 6)] [] cv_RX11_324 (c_X0_readBook (ad0 := (fun i => ad0 (i + 282))) (ad1 := (fun i => ad0 (i + 1))) (ad2 := (fun i => ad0 (i + 6)))  e_y1) rfl rfl rfl rfl rfl rfl rfl rfl rfl rfl rfl rfl rfl rfl rfl (Nat.le_of_ble_eq_true rfl) ⟨Nat.le_of_ble_eq_true rfl, Nat.le_of_ble_eq_true rfl⟩ dX11_book_28 (fun z_28 => ?_)
  obtain ⟨m2, e_m2, h⟩ := x_lt_elim h
  refine a_nm (vs2 := [m2]) (congrArg (fun q : XM => [q]) e_m2) ?_
  refine a_istore_n (pc := 31) X [(2, .int y1.1), (0, .ref (ad0 0)), (1, .int l1)] dX11_book_31 rfl (by decide) rfl ?_
  refine a_aload_n (pc := 32) X 1 dX11_book_32 rfl rfl ?_
  refine a_getR (pc := 33) X 0 1 1 fl_RX11_12 rfl rfl rfl rfl rfl dX11_book_33 ?_
  refine a_iconst (pc := 36) X dX11_book_36 q_ic_0 ?_
  refine a_putI (pc := 37) X 0 fl_RX11_78 rfl rfl rfl rfl dX11_book_37 ?_
  obtain ⟨m3, e_m3, h⟩ := x_lt_elim h
  refine a_nm (vs2 := [m3]) (congrArg (fun q : XM => [q]) e_m3) ?_
  refine a_iload_n (pc := 40) X 0 dX11_book_40 rfl rfl ?_
  refine a_if_ne (pc := 41) X 55 dX11_book_41 rfl (fun c_41 => ?_) (fun c_41 => ?_)
  · have h := x_ifn c_41 h
    refine a_aload_n (pc := 55) X 1 dX11_book_55 rfl rfl ?_
    refine a_getR (pc := 56) X 0 128 128 fl_RX11_32 rfl rfl rfl rfl rfl dX11_book_56 ?_
    refine a_aload_n (pc := 59) X 1 dX11_book_59 rfl rfl ?_
    refine a_getR (pc := 60) X 0 5 5 fl_RX11_19 rfl rfl rfl rfl rfl dX11_book_60 ?_
    refine a_getR (pc := 63) X 0 17 22 fl_RX11_118 rfl rfl rfl rfl rfl dX11_book_63 ?_
    obtain ⟨y4, e_y4, h⟩ := x_lt_elim h
    refine a_callV (pc := 66) (st2 := []) (vs2 := [x_put m3 128 15 y4]) X [(0, 128, 15), (0, 22, 15)] [some y4, none] 0 128 5 [.ref (ad0 22)] [] cv_RX11_230 (c_X5_become (ad0 := (fun i => ad0 (i + 128))) (ad1 := (fun i => ad0 (i + 22)))  e_y4) rfl rfl rfl rfl rfl rfl rfl rfl rfl rfl rfl rfl rfl rfl rfl (Nat.le_of_ble_eq_true rfl) ⟨Nat.le_of_ble_eq_true rfl, Nat.le_of_ble_eq_true rfl⟩ dX11_book_66 (fun _ => ?_)
    obtain ⟨m5, e_m5, h⟩ := x_lt_elim h
    refine a_nm (vs2 := [m5]) (congrArg (fun q : XM => [q]) e_m5) ?_
    refine a_aload_n (pc := 69) X 1 dX11_book_69 rfl rfl ?_
    refine a_getR (pc := 70) X 0 282 282 fl_RX11_53 rfl rfl rfl rfl rfl dX11_book_70 ?_
    refine a_aload_n (pc := 73) X 1 dX11_book_73 rfl rfl ?_
    refine a_getR (pc := 74) X 0 5 5 fl_RX11_19 rfl rfl rfl rfl rfl dX11_book_74 ?_
    obtain ⟨y6, e_y6, h⟩ := x_bo_elim h
    refine a_callV (pc := 77) (st2 := [.int y6.1]) (vs2 := [x_put (x_put m5 282 9 y6.2.1) 5 32 y6.2.2]) X [(0, 282, 9), (0, 5, 32)] [some y6.2.1, some y6.2.2] 0 282 0 [.ref (ad0 5)] [] cv_RX11_328 (c_X0_live (ad0 := (fun i => ad0 (i + 282))) (ad1 := (fun i => ad0 (i + 5)))  e_y6) rfl rfl rfl rfl rfl rfl rfl rfl rfl rfl rfl rfl rfl rfl rfl (Nat.le_of_ble_eq_true rfl) ⟨Nat.le_of_ble_eq_true rfl, Nat.le_of_ble_eq_true rfl⟩ dX11_book_77 (fun _ => ?_)
    obtain ⟨m7, e_m7, h⟩ := x_lt_elim h
    refine a_nm (vs2 := [m7]) (congrArg (fun q : XM => [q]) e_m7) ?_
    refine a_istore_n (pc := 80) X [(3, .int y6.1), (2, .int y1.1), (0, .ref (ad0 0)), (1, .int l1)] dX11_book_80 rfl (by decide) rfl ?_
    refine a_iload_n (pc := 81) X 3 dX11_book_81 rfl rfl ?_
    refine a_if_ne (pc := 82) X 102 dX11_book_82 rfl (fun c_82 => ?_) (fun c_82 => ?_)
    · have h := x_ifn c_82 h
      refine a_aload_n (pc := 102) X 2 dX11_book_102 rfl rfl ?_
      refine a_getR (pc := 103) X 0 282 282 fl_RX11_53 rfl rfl rfl rfl rfl dX11_book_103 ?_
      refine a_getI (pc := 106) X 0 fl_RX11_331 rfl rfl rfl rfl dX11_book_106 ?_
      refine a_if_le (pc := 109) X 123 dX11_book_109 rfl (fun c_109 => ?_) (fun c_109 => ?_)
      · have h := x_ifp c_109 h
        refine a_iload_n (pc := 123) X 0 dX11_book_123 rfl rfl ?_
        have h := Option.some.inj h; subst h
        exact a_iret (pc := 124) X trivial dX11_book_124
      · have h := x_ifn c_109 h
        refine a_aload_n (pc := 112) X 2 dX11_book_112 rfl rfl ?_
        refine a_getR (pc := 113) X 0 143 143 fl_RX11_39 rfl rfl rfl rfl rfl dX11_book_113 ?_
        refine a_aload_n (pc := 116) X 2 dX11_book_116 rfl rfl ?_
        refine a_getR (pc := 117) X 0 128 128 fl_RX11_32 rfl rfl rfl rfl rfl dX11_book_117 ?_
        obtain ⟨y8, e_y8, h⟩ := x_lt_elim h
        refine a_callV (pc := 120) (st2 := []) (vs2 := [x_put m7 143 122 y8]) X [(0, 143, 122), (0, 128, 15)] [some y8, none] 0 143 1 [.ref (ad0 128)] [] cv_RX11_237 (c_X1_keep (ad0 := (fun i => ad0 (i + 143))) (ad1 := (fun i => ad0 (i + 128)))  e_y8) rfl rfl rfl rfl rfl rfl rfl rfl rfl rfl rfl rfl rfl rfl rfl (Nat.le_of_ble_eq_true rfl) ⟨Nat.le_of_ble_eq_true rfl, Nat.le_of_ble_eq_true rfl⟩ dX11_book_120 (fun _ => ?_)
        obtain ⟨m9, e_m9, h⟩ := x_lt_elim h
        refine a_nm (vs2 := [m9]) (congrArg (fun q : XM => [q]) e_m9) ?_
        refine a_iload_n (pc := 123) X 0 dX11_book_123 rfl rfl ?_
        have h := Option.some.inj h; subst h
        exact a_iret (pc := 124) X trivial dX11_book_124
    · have h := x_ifp c_82 h
      refine a_aload_n (pc := 85) X 2 dX11_book_85 rfl rfl ?_
      refine a_getR (pc := 86) X 0 5 5 fl_RX11_19 rfl rfl rfl rfl rfl dX11_book_86 ?_
      refine a_getR (pc := 89) X 0 17 22 fl_RX11_118 rfl rfl rfl rfl rfl dX11_book_89 ?_
      refine a_aload_n (pc := 92) X 2 dX11_book_92 rfl rfl ?_
      refine a_getR (pc := 93) X 0 128 128 fl_RX11_32 rfl rfl rfl rfl rfl dX11_book_93 ?_
      obtain ⟨y10, e_y10, h⟩ := x_lt_elim h
      refine a_callV (pc := 96) (st2 := []) (vs2 := [x_put m7 22 15 y10]) X [(0, 22, 15), (0, 128, 15)] [some y10, none] 0 22 5 [.ref (ad0 128)] [] cv_RX11_230 (c_X5_become (ad0 := (fun i => ad0 (i + 22))) (ad1 := (fun i => ad0 (i + 128)))  e_y10) rfl rfl rfl rfl rfl rfl rfl rfl rfl rfl rfl rfl rfl rfl rfl (Nat.le_of_ble_eq_true rfl) ⟨Nat.le_of_ble_eq_true rfl, Nat.le_of_ble_eq_true rfl⟩ dX11_book_96 (fun _ => ?_)
      obtain ⟨m11, e_m11, h⟩ := x_lt_elim h
      refine a_nm (vs2 := [m11]) (congrArg (fun q : XM => [q]) e_m11) ?_
      refine a_goto (pc := 99) X 123 dX11_book_99 rfl ?_
      refine a_iload_n (pc := 123) X 0 dX11_book_123 rfl rfl ?_
      have h := Option.some.inj h; subst h
      exact a_iret (pc := 124) X trivial dX11_book_124
  · have h := x_ifp c_41 h
    refine a_bipush (pc := 44) X dX11_book_44 q_bp_m2 ?_
    refine a_aload_n (pc := 46) X 1 dX11_book_46 rfl rfl ?_
    refine a_getR (pc := 47) X 0 1 1 fl_RX11_12 rfl rfl rfl rfl rfl dX11_book_47 ?_
    refine a_getI (pc := 50) X 0 fl_RX11_90 rfl rfl rfl rfl dX11_book_50 ?_
    refine a_isub (pc := 53) X dX11_book_53 ?_
    have h := Option.some.inj h; subst h
    exact a_iret (pc := 54) X trivial dX11_book_54
set_option maxRecDepth 100000 in
set_option maxHeartbeats 4000000 in
theorem c_X11_book {l : Launch}  {ad0 : Nat → Nat} {v0 : XM} {x0 : Int32}  {o : Int32 × XM} (h : f_X11_book v0 x0 = some o) : CT l yX11_book cX11_book 4 (some .int) 7 [(shFoldRoads, ad0)] [v0] (fun aK => [.ref (ad0 0), .int x0]) (some (.int o.1)) True [o.2] := by
  refine CT_of (by decide) (fun _ => Nat.le_of_ble_eq_true rfl) ?_
  intro p e s m args below meth c D tc aK aV A X
  have X : Cx p s m args meth c cX11_book 4 (some .int) RX11 D tc aK aV A [(shFoldRoads, ad0)] := X
  show aW p l e (x_Rm 7) s m args below meth c D tc A 4 [(shFoldRoads, ad0)] (some (.int o.1)) True [o.2] 0 [(0, .ref (ad0 0)), (1, .int x0)] [] [v0]
  unfold f_X11_book at h
  refine a_iload_n (pc := 0) X 1 dX11_book_0 rfl rfl ?_
  refine a_if_eq (pc := 1) X 13 dX11_book_1 rfl (fun c_1 => ?_) (fun c_1 => ?_)
  · have h := x_ifp c_1 h
    exact w_X11_book_13 X     h
  · have h := x_ifn c_1 h
    refine a_iload_n (pc := 4) X 1 dX11_book_4 rfl rfl ?_
    refine a_iconst (pc := 5) X dX11_book_5 q_ic_1 ?_
    refine a_icmp_eq (pc := 6) X 13 dX11_book_6 rfl (fun c_6 => ?_) (fun c_6 => ?_)
    · have h := x_ifp c_6 h
      exact w_X11_book_13 X     h
    · have h := x_ifn c_6 h
      refine a_sipush (pc := 9) X dX11_book_9 q_sp_m1000 ?_
      have h := Option.some.inj h; subst h
      exact a_iret (pc := 12) X trivial dX11_book_12
theorem dX11_image_0 : decode cX11_image 0 = .ok (.aload_n 0, 1) := by decide +kernel
theorem dX11_image_1 : decode cX11_image 1 = .ok (.iload_n 1, 1) := by decide +kernel
theorem dX11_image_2 : decode cX11_image 2 = .ok (.invokevirtual 365, 3) := by decide +kernel
theorem dX11_image_5 : decode cX11_image 5 = .ok (.astore_n 2, 1) := by decide +kernel
theorem dX11_image_6 : decode cX11_image 6 = .ok (.aload_n 2, 1) := by decide +kernel
theorem dX11_image_7 : decode cX11_image 7 = .ok (.ifnonnull 5, 3) := by decide +kernel
theorem dX11_image_10 : decode cX11_image 10 = .ok (.iconst 0, 1) := by decide +kernel
theorem dX11_image_11 : decode cX11_image 11 = .ok (.ireturn, 1) := by decide +kernel
theorem dX11_image_12 : decode cX11_image 12 = .ok (.aload_n 2, 1) := by decide +kernel
theorem dX11_image_13 : decode cX11_image 13 = .ok (.aload_n 0, 1) := by decide +kernel
theorem dX11_image_14 : decode cX11_image 14 = .ok (.getfield 19, 3) := by decide +kernel
theorem dX11_image_17 : decode cX11_image 17 = .ok (.invokevirtual 369, 3) := by decide +kernel
theorem dX11_image_20 : decode cX11_image 20 = .ok (.aload_n 2, 1) := by decide +kernel
theorem dX11_image_21 : decode cX11_image 21 = .ok (.iconst 1, 1) := by decide +kernel
theorem dX11_image_22 : decode cX11_image 22 = .ok (.putfield 372, 3) := by decide +kernel
theorem dX11_image_25 : decode cX11_image 25 = .ok (.iconst 1, 1) := by decide +kernel
theorem dX11_image_26 : decode cX11_image 26 = .ok (.ireturn, 1) := by decide +kernel
def f_X11_image (v0 : XM) (x0 : Int32) : Option (Int32 × XM) :=
  if x0 = (0 : Int32) then
  (x_bo (f_X10_become (x_sub v0 46) (x_sub v0 5)) (fun y1 =>
  x_lt (x_put v0 46 41 y1) (fun m2 =>
  x_lt (x_si m2 46 3 (1 : Int32)) (fun m3 =>
  some ((1 : Int32), m3)))))
  else (if x0 = (1 : Int32) then
  (x_bo (f_X10_become (x_sub v0 87) (x_sub v0 5)) (fun y4 =>
  x_lt (x_put v0 87 41 y4) (fun m5 =>
  x_lt (x_si m5 87 3 (1 : Int32)) (fun m6 =>
  some ((1 : Int32), m6)))))
  else (some ((0 : Int32), v0)))
set_option maxRecDepth 100000 in
set_option maxHeartbeats 4000000 in
theorem c_X11_image {l : Launch}  {ad0 : Nat → Nat} {v0 : XM} {x0 : Int32}  {o : Int32 × XM} (h : f_X11_image v0 x0 = some o) : CT l yX11_image cX11_image 3 (some .boolean) 4 [(shFoldRoads, ad0)] [v0] (fun aK => [.ref (ad0 0), .int x0]) (some (.int o.1)) (x_Z o.1) [o.2] := by
  refine CT_of (by decide) (fun _ => Nat.le_of_ble_eq_true rfl) ?_
  intro p e s m args below meth c D tc aK aV A X
  have X : Cx p s m args meth c cX11_image 3 (some .boolean) RX11 D tc aK aV A [(shFoldRoads, ad0)] := X
  show aW p l e (x_Rm 4) s m args below meth c D tc A 3 [(shFoldRoads, ad0)] (some (.int o.1)) (x_Z o.1) [o.2] 0 [(0, .ref (ad0 0)), (1, .int x0)] [] [v0]
  unfold f_X11_image at h
  refine a_aload_n (pc := 0) X 0 dX11_image_0 rfl rfl ?_
  refine a_iload_n (pc := 1) X 1 dX11_image_1 rfl rfl ?_
  by_cases c_2_0 : x0 = (0 : Int32)
  · have h := x_ifp c_2_0 h
    refine a_ni c_2_0 ?_
    refine a_callV (pc := 2) (st2 := [.ref (ad0 46)]) (vs2 := [v0]) X [(0, 0, 318)] [none] 0 0 11 [.int (0 : Int32)] [] cv_RX11_365 (c_X11_imagePlace_0 (ad0 := ad0) (v0 := v0)) rfl rfl rfl rfl rfl rfl rfl rfl rfl rfl rfl rfl rfl rfl rfl (Nat.le_of_ble_eq_true rfl) ⟨Nat.le_of_ble_eq_true rfl, Nat.le_of_ble_eq_true rfl⟩ dX11_image_2 (fun _ => ?_)
    refine a_astore_n (pc := 5) X [(2, .ref (ad0 46)), (0, .ref (ad0 0)), (1, .int x0)] dX11_image_5 rfl (by decide) rfl ?_
    refine a_aload_n (pc := 6) X 0 dX11_image_6 rfl rfl ?_
    refine a_ifnonnull (pc := 7) X 12 dX11_image_7 rfl ?_
    refine a_aload_n (pc := 12) X 0 dX11_image_12 rfl rfl ?_
    refine a_aload_n (pc := 13) X 1 dX11_image_13 rfl rfl ?_
    refine a_getR (pc := 14) X 0 5 5 fl_RX11_19 rfl rfl rfl rfl rfl dX11_image_14 ?_
    obtain ⟨y1, e_y1, h⟩ := x_bo_elim h
    refine a_callV (pc := 17) (st2 := []) (vs2 := [x_put v0 46 41 y1]) X [(0, 46, 41), (0, 5, 41)] [some y1, none] 0 46 10 [.ref (ad0 5)] [] cv_RX11_369 (c_X10_become (ad0 := (fun i => ad0 (i + 46))) (ad1 := (fun i => ad0 (i + 5)))  e_y1) rfl rfl rfl rfl rfl rfl rfl rfl rfl rfl rfl rfl rfl rfl rfl (Nat.le_of_ble_eq_true rfl) ⟨Nat.le_of_ble_eq_true rfl, Nat.le_of_ble_eq_true rfl⟩ dX11_image_17 (fun _ => ?_)
    obtain ⟨m2, e_m2, h⟩ := x_lt_elim h
    refine a_nm (vs2 := [m2]) (congrArg (fun q : XM => [q]) e_m2) ?_
    refine a_aload_n (pc := 20) X 0 dX11_image_20 rfl rfl ?_
    refine a_iconst (pc := 21) X dX11_image_21 q_ic_1 ?_
    refine a_putZ (pc := 22) X 0 x_Z1 fl_RX11_372 rfl rfl rfl rfl dX11_image_22 ?_
    obtain ⟨m3, e_m3, h⟩ := x_lt_elim h
    refine a_nm (vs2 := [m3]) (congrArg (fun q : XM => [q]) e_m3) ?_
    refine a_iconst (pc := 25) X dX11_image_25 q_ic_1 ?_
    have h := Option.some.inj h; subst h
    exact a_zret (pc := 26) X x_Z1 x_Z1 dX11_image_26
  · have h := x_ifn c_2_0 h
    by_cases c_2_1 : x0 = (1 : Int32)
    · have h := x_ifp c_2_1 h
      refine a_ni c_2_1 ?_
      refine a_callV (pc := 2) (st2 := [.ref (ad0 87)]) (vs2 := [v0]) X [(0, 0, 318)] [none] 0 0 11 [.int (1 : Int32)] [] cv_RX11_365 (c_X11_imagePlace_1 (ad0 := ad0) (v0 := v0)) rfl rfl rfl rfl rfl rfl rfl rfl rfl rfl rfl rfl rfl rfl rfl (Nat.le_of_ble_eq_true rfl) ⟨Nat.le_of_ble_eq_true rfl, Nat.le_of_ble_eq_true rfl⟩ dX11_image_2 (fun _ => ?_)
      refine a_astore_n (pc := 5) X [(2, .ref (ad0 87)), (0, .ref (ad0 0)), (1, .int x0)] dX11_image_5 rfl (by decide) rfl ?_
      refine a_aload_n (pc := 6) X 0 dX11_image_6 rfl rfl ?_
      refine a_ifnonnull (pc := 7) X 12 dX11_image_7 rfl ?_
      refine a_aload_n (pc := 12) X 0 dX11_image_12 rfl rfl ?_
      refine a_aload_n (pc := 13) X 1 dX11_image_13 rfl rfl ?_
      refine a_getR (pc := 14) X 0 5 5 fl_RX11_19 rfl rfl rfl rfl rfl dX11_image_14 ?_
      obtain ⟨y4, e_y4, h⟩ := x_bo_elim h
      refine a_callV (pc := 17) (st2 := []) (vs2 := [x_put v0 87 41 y4]) X [(0, 87, 41), (0, 5, 41)] [some y4, none] 0 87 10 [.ref (ad0 5)] [] cv_RX11_369 (c_X10_become (ad0 := (fun i => ad0 (i + 87))) (ad1 := (fun i => ad0 (i + 5)))  e_y4) rfl rfl rfl rfl rfl rfl rfl rfl rfl rfl rfl rfl rfl rfl rfl (Nat.le_of_ble_eq_true rfl) ⟨Nat.le_of_ble_eq_true rfl, Nat.le_of_ble_eq_true rfl⟩ dX11_image_17 (fun _ => ?_)
      obtain ⟨m5, e_m5, h⟩ := x_lt_elim h
      refine a_nm (vs2 := [m5]) (congrArg (fun q : XM => [q]) e_m5) ?_
      refine a_aload_n (pc := 20) X 0 dX11_image_20 rfl rfl ?_
      refine a_iconst (pc := 21) X dX11_image_21 q_ic_1 ?_
      refine a_putZ (pc := 22) X 0 x_Z1 fl_RX11_372 rfl rfl rfl rfl dX11_image_22 ?_
      obtain ⟨m6, e_m6, h⟩ := x_lt_elim h
      refine a_nm (vs2 := [m6]) (congrArg (fun q : XM => [q]) e_m6) ?_
      refine a_iconst (pc := 25) X dX11_image_25 q_ic_1 ?_
      have h := Option.some.inj h; subst h
      exact a_zret (pc := 26) X x_Z1 x_Z1 dX11_image_26
    · have h := x_ifn c_2_1 h
      refine a_callV (pc := 2) (st2 := [.null]) (vs2 := [v0]) X [(0, 0, 318)] [none] 0 0 11 [.int x0] [] cv_RX11_365 (c_X11_imagePlace_N (ad0 := ad0) (v0 := v0) c_2_0 c_2_1) rfl rfl rfl rfl rfl rfl rfl rfl rfl rfl rfl rfl rfl rfl rfl (Nat.le_of_ble_eq_true rfl) ⟨Nat.le_of_ble_eq_true rfl, Nat.le_of_ble_eq_true rfl⟩ dX11_image_2 (fun _ => ?_)
      refine a_astore_nN (pc := 5) X [(2, .null), (0, .ref (ad0 0)), (1, .int x0)] dX11_image_5 rfl (by decide) rfl ?_
      refine a_aload_nN (pc := 6) X 0 dX11_image_6 rfl rfl ?_
      refine a_ifnonnullN (pc := 7) X dX11_image_7 ?_
      refine a_iconst (pc := 10) X dX11_image_10 q_ic_0 ?_
      have h := Option.some.inj h; subst h
      exact a_zret (pc := 11) X x_Z0 x_Z0 dX11_image_11
theorem dX11_restore_0 : decode cX11_restore 0 = .ok (.aload_n 0, 1) := by decide +kernel
theorem dX11_restore_1 : decode cX11_restore 1 = .ok (.iload_n 1, 1) := by decide +kernel
theorem dX11_restore_2 : decode cX11_restore 2 = .ok (.invokevirtual 365, 3) := by decide +kernel
theorem dX11_restore_5 : decode cX11_restore 5 = .ok (.astore_n 2, 1) := by decide +kernel
theorem dX11_restore_6 : decode cX11_restore 6 = .ok (.aload_n 2, 1) := by decide +kernel
theorem dX11_restore_7 : decode cX11_restore 7 = .ok (.ifnull 10, 3) := by decide +kernel
theorem dX11_restore_10 : decode cX11_restore 10 = .ok (.aload_n 2, 1) := by decide +kernel
theorem dX11_restore_11 : decode cX11_restore 11 = .ok (.getfield 372, 3) := by decide +kernel
theorem dX11_restore_14 : decode cX11_restore 14 = .ok (.ifCond .ne 5, 3) := by decide +kernel
theorem dX11_restore_17 : decode cX11_restore 17 = .ok (.iconst 0, 1) := by decide +kernel
theorem dX11_restore_18 : decode cX11_restore 18 = .ok (.ireturn, 1) := by decide +kernel
theorem dX11_restore_19 : decode cX11_restore 19 = .ok (.aload_n 0, 1) := by decide +kernel
theorem dX11_restore_20 : decode cX11_restore 20 = .ok (.getfield 19, 3) := by decide +kernel
theorem dX11_restore_23 : decode cX11_restore 23 = .ok (.aload_n 2, 1) := by decide +kernel
theorem dX11_restore_24 : decode cX11_restore 24 = .ok (.invokevirtual 369, 3) := by decide +kernel
theorem dX11_restore_27 : decode cX11_restore 27 = .ok (.aload_n 0, 1) := by decide +kernel
theorem dX11_restore_28 : decode cX11_restore 28 = .ok (.getfield 39, 3) := by decide +kernel
theorem dX11_restore_31 : decode cX11_restore 31 = .ok (.invokevirtual 100, 3) := by decide +kernel
theorem dX11_restore_34 : decode cX11_restore 34 = .ok (.iconst 1, 1) := by decide +kernel
theorem dX11_restore_35 : decode cX11_restore 35 = .ok (.ireturn, 1) := by decide +kernel
def f_X11_restore (v0 : XM) (x0 : Int32) : Option (Int32 × XM) :=
  if x0 = (0 : Int32) then
  (if (v0.1 46 3) = (0 : Int32) then
  (some ((0 : Int32), v0))
  else (x_bo (f_X10_become (x_sub v0 5) (x_sub v0 46)) (fun y1 =>
  x_lt (x_put v0 5 41 y1) (fun m2 =>
  x_lt (f_X1_forget (x_sub m2 143)) (fun y3 =>
  x_lt (x_put m2 143 122 y3) (fun m4 =>
  some ((1 : Int32), m4)))))))
  else (if x0 = (1 : Int32) then
  (if (v0.1 87 3) = (0 : Int32) then
  (some ((0 : Int32), v0))
  else (x_bo (f_X10_become (x_sub v0 5) (x_sub v0 87)) (fun y5 =>
  x_lt (x_put v0 5 41 y5) (fun m6 =>
  x_lt (f_X1_forget (x_sub m6 143)) (fun y7 =>
  x_lt (x_put m6 143 122 y7) (fun m8 =>
  some ((1 : Int32), m8)))))))
  else (some ((0 : Int32), v0)))
set_option maxRecDepth 100000 in
set_option maxHeartbeats 4000000 in
theorem c_X11_restore {l : Launch}  {ad0 : Nat → Nat} {v0 : XM} {x0 : Int32}  {o : Int32 × XM} (h : f_X11_restore v0 x0 = some o) : CT l yX11_restore cX11_restore 3 (some .boolean) 4 [(shFoldRoads, ad0)] [v0] (fun aK => [.ref (ad0 0), .int x0]) (some (.int o.1)) (x_Z o.1) [o.2] := by
  refine CT_of (by decide) (fun _ => Nat.le_of_ble_eq_true rfl) ?_
  intro p e s m args below meth c D tc aK aV A X
  have X : Cx p s m args meth c cX11_restore 3 (some .boolean) RX11 D tc aK aV A [(shFoldRoads, ad0)] := X
  show aW p l e (x_Rm 4) s m args below meth c D tc A 3 [(shFoldRoads, ad0)] (some (.int o.1)) (x_Z o.1) [o.2] 0 [(0, .ref (ad0 0)), (1, .int x0)] [] [v0]
  unfold f_X11_restore at h
  refine a_aload_n (pc := 0) X 0 dX11_restore_0 rfl rfl ?_
  refine a_iload_n (pc := 1) X 1 dX11_restore_1 rfl rfl ?_
  by_cases c_2_0 : x0 = (0 : Int32)
  · have h := x_ifp c_2_0 h
    refine a_ni c_2_0 ?_
    refine a_callV (pc := 2) (st2 := [.ref (ad0 46)]) (vs2 := [v0]) X [(0, 0, 318)] [none] 0 0 11 [.int (0 : Int32)] [] cv_RX11_365 (c_X11_imagePlace_0 (ad0 := ad0) (v0 := v0)) rfl rfl rfl rfl rfl rfl rfl rfl rfl rfl rfl rfl rfl rfl rfl (Nat.le_of_ble_eq_true rfl) ⟨Nat.le_of_ble_eq_true rfl, Nat.le_of_ble_eq_true rfl⟩ dX11_restore_2 (fun _ => ?_)
    refine a_astore_n (pc := 5) X [(2, .ref (ad0 46)), (0, .ref (ad0 0)), (1, .int x0)] dX11_restore_5 rfl (by decide) rfl ?_
    refine a_aload_n (pc := 6) X 0 dX11_restore_6 rfl rfl ?_
    refine a_ifnull (pc := 7) X dX11_restore_7 ?_
    refine a_aload_n (pc := 10) X 0 dX11_restore_10 rfl rfl ?_
    refine a_getI (pc := 11) X 0 fl_RX11_372 rfl rfl rfl rfl dX11_restore_11 ?_
    refine a_if_ne (pc := 14) X 19 dX11_restore_14 rfl (fun c_14 => ?_) (fun c_14 => ?_)
    · have h := x_ifn c_14 h
      refine a_aload_n (pc := 19) X 1 dX11_restore_19 rfl rfl ?_
      refine a_getR (pc := 20) X 0 5 5 fl_RX11_19 rfl rfl rfl rfl rfl dX11_restore_20 ?_
      refine a_aload_n (pc := 23) X 0 dX11_restore_23 rfl rfl ?_
      obtain ⟨y1, e_y1, h⟩ := x_bo_elim h
      refine a_callV (pc := 24) (st2 := []) (vs2 := [x_put v0 5 41 y1]) X [(0, 5, 41), (0, 46, 41)] [some y1, none] 0 5 10 [.ref (ad0 46)] [] cv_RX11_369 (c_X10_become (ad0 := (fun i => ad0 (i + 5))) (ad1 := (fun i => ad0 (i + 46)))  e_y1) rfl rfl rfl rfl rfl rfl rfl rfl rfl rfl rfl rfl rfl rfl rfl (Nat.le_of_ble_eq_true rfl) ⟨Nat.le_of_ble_eq_true rfl, Nat.le_of_ble_eq_true rfl⟩ dX11_restore_24 (fun _ => ?_)
      obtain ⟨m2, e_m2, h⟩ := x_lt_elim h
      refine a_nm (vs2 := [m2]) (congrArg (fun q : XM => [q]) e_m2) ?_
      refine a_aload_n (pc := 27) X 1 dX11_restore_27 rfl rfl ?_
      refine a_getR (pc := 28) X 0 143 143 fl_RX11_39 rfl rfl rfl rfl rfl dX11_restore_28 ?_
      obtain ⟨y3, e_y3, h⟩ := x_lt_elim h
      refine a_callV (pc := 31) (st2 := []) (vs2 := [x_put m2 143 122 y3]) X [(0, 143, 122)] [some y3] 0 143 1 [] [] cv_RX11_100 (c_X1_forget (ad0 := (fun i => ad0 (i + 143)))  e_y3) rfl rfl rfl rfl rfl rfl rfl rfl rfl rfl rfl rfl rfl rfl rfl (Nat.le_of_ble_eq_true rfl) ⟨Nat.le_of_ble_eq_true rfl, Nat.le_of_ble_eq_true rfl⟩ dX11_restore_31 (fun _ => ?_)
      obtain ⟨m4, e_m4, h⟩ := x_lt_elim h
      refine a_nm (vs2 := [m4]) (congrArg (fun q : XM => [q]) e_m4) ?_
      refine a_iconst (pc := 34) X dX11_restore_34 q_ic_1 ?_
      have h := Option.some.inj h; subst h
      exact a_zret (pc := 35) X x_Z1 x_Z1 dX11_restore_35
    · have h := x_ifp c_14 h
      refine a_iconst (pc := 17) X dX11_restore_17 q_ic_0 ?_
      have h := Option.some.inj h; subst h
      exact a_zret (pc := 18) X x_Z0 x_Z0 dX11_restore_18
  · have h := x_ifn c_2_0 h
    by_cases c_2_1 : x0 = (1 : Int32)
    · have h := x_ifp c_2_1 h
      refine a_ni c_2_1 ?_
      refine a_callV (pc := 2) (st2 := [.ref (ad0 87)]) (vs2 := [v0]) X [(0, 0, 318)] [none] 0 0 11 [.int (1 : Int32)] [] cv_RX11_365 (c_X11_imagePlace_1 (ad0 := ad0) (v0 := v0)) rfl rfl rfl rfl rfl rfl rfl rfl rfl rfl rfl rfl rfl rfl rfl (Nat.le_of_ble_eq_true rfl) ⟨Nat.le_of_ble_eq_true rfl, Nat.le_of_ble_eq_true rfl⟩ dX11_restore_2 (fun _ => ?_)
      refine a_astore_n (pc := 5) X [(2, .ref (ad0 87)), (0, .ref (ad0 0)), (1, .int x0)] dX11_restore_5 rfl (by decide) rfl ?_
      refine a_aload_n (pc := 6) X 0 dX11_restore_6 rfl rfl ?_
      refine a_ifnull (pc := 7) X dX11_restore_7 ?_
      refine a_aload_n (pc := 10) X 0 dX11_restore_10 rfl rfl ?_
      refine a_getI (pc := 11) X 0 fl_RX11_372 rfl rfl rfl rfl dX11_restore_11 ?_
      refine a_if_ne (pc := 14) X 19 dX11_restore_14 rfl (fun c_14 => ?_) (fun c_14 => ?_)
      · have h := x_ifn c_14 h
        refine a_aload_n (pc := 19) X 1 dX11_restore_19 rfl rfl ?_
        refine a_getR (pc := 20) X 0 5 5 fl_RX11_19 rfl rfl rfl rfl rfl dX11_restore_20 ?_
        refine a_aload_n (pc := 23) X 0 dX11_restore_23 rfl rfl ?_
        obtain ⟨y5, e_y5, h⟩ := x_bo_elim h
        refine a_callV (pc := 24) (st2 := []) (vs2 := [x_put v0 5 41 y5]) X [(0, 5, 41), (0, 87, 41)] [some y5, none] 0 5 10 [.ref (ad0 87)] [] cv_RX11_369 (c_X10_become (ad0 := (fun i => ad0 (i + 5))) (ad1 := (fun i => ad0 (i + 87)))  e_y5) rfl rfl rfl rfl rfl rfl rfl rfl rfl rfl rfl rfl rfl rfl rfl (Nat.le_of_ble_eq_true rfl) ⟨Nat.le_of_ble_eq_true rfl, Nat.le_of_ble_eq_true rfl⟩ dX11_restore_24 (fun _ => ?_)
        obtain ⟨m6, e_m6, h⟩ := x_lt_elim h
        refine a_nm (vs2 := [m6]) (congrArg (fun q : XM => [q]) e_m6) ?_
        refine a_aload_n (pc := 27) X 1 dX11_restore_27 rfl rfl ?_
        refine a_getR (pc := 28) X 0 143 143 fl_RX11_39 rfl rfl rfl rfl rfl dX11_restore_28 ?_
        obtain ⟨y7, e_y7, h⟩ := x_lt_elim h
        refine a_callV (pc := 31) (st2 := []) (vs2 := [x_put m6 143 122 y7]) X [(0, 143, 122)] [some y7] 0 143 1 [] [] cv_RX11_100 (c_X1_forget (ad0 := (fun i => ad0 (i + 143)))  e_y7) rfl rfl rfl rfl rfl rfl rfl rfl rfl rfl rfl rfl rfl rfl rfl (Nat.le_of_ble_eq_true rfl) ⟨Nat.le_of_ble_eq_true rfl, Nat.le_of_ble_eq_true rfl⟩ dX11_restore_31 (fun _ => ?_)
        obtain ⟨m8, e_m8, h⟩ := x_lt_elim h
        refine a_nm (vs2 := [m8]) (congrArg (fun q : XM => [q]) e_m8) ?_
        refine a_iconst (pc := 34) X dX11_restore_34 q_ic_1 ?_
        have h := Option.some.inj h; subst h
        exact a_zret (pc := 35) X x_Z1 x_Z1 dX11_restore_35
      · have h := x_ifp c_14 h
        refine a_iconst (pc := 17) X dX11_restore_17 q_ic_0 ?_
        have h := Option.some.inj h; subst h
        exact a_zret (pc := 18) X x_Z0 x_Z0 dX11_restore_18
    · have h := x_ifn c_2_1 h
      refine a_callV (pc := 2) (st2 := [.null]) (vs2 := [v0]) X [(0, 0, 318)] [none] 0 0 11 [.int x0] [] cv_RX11_365 (c_X11_imagePlace_N (ad0 := ad0) (v0 := v0) c_2_0 c_2_1) rfl rfl rfl rfl rfl rfl rfl rfl rfl rfl rfl rfl rfl rfl rfl (Nat.le_of_ble_eq_true rfl) ⟨Nat.le_of_ble_eq_true rfl, Nat.le_of_ble_eq_true rfl⟩ dX11_restore_2 (fun _ => ?_)
      refine a_astore_nN (pc := 5) X [(2, .null), (0, .ref (ad0 0)), (1, .int x0)] dX11_restore_5 rfl (by decide) rfl ?_
      refine a_aload_nN (pc := 6) X 0 dX11_restore_6 rfl rfl ?_
      refine a_ifnullN (pc := 7) X 17 dX11_restore_7 rfl ?_
      refine a_iconst (pc := 17) X dX11_restore_17 q_ic_0 ?_
      have h := Option.some.inj h; subst h
      exact a_zret (pc := 18) X x_Z0 x_Z0 dX11_restore_18
