-- model: functional forms and contracts, written by wip/whole/gen.py out of the bytecode.
theorem dX12_isSpot_0 : decode cX12_isSpot 0 = .ok (.iload_n 1, 1) := by decide +kernel
theorem dX12_isSpot_1 : decode cX12_isSpot 1 = .ok (.iconst 0, 1) := by decide +kernel
theorem dX12_isSpot_2 : decode cX12_isSpot 2 = .ok (.aload_n 0, 1) := by decide +kernel
theorem dX12_isSpot_3 : decode cX12_isSpot 3 = .ok (.getfield 98, 3) := by decide +kernel
theorem dX12_isSpot_6 : decode cX12_isSpot 6 = .ok (.iconst 0, 1) := by decide +kernel
theorem dX12_isSpot_7 : decode cX12_isSpot 7 = .ok (.iaload, 1) := by decide +kernel
theorem dX12_isSpot_8 : decode cX12_isSpot 8 = .ok (.iconst 1, 1) := by decide +kernel
theorem dX12_isSpot_9 : decode cX12_isSpot 9 = .ok (.isub, 1) := by decide +kernel
theorem dX12_isSpot_10 : decode cX12_isSpot 10 = .ok (.invokestatic 75, 3) := by decide +kernel
theorem dX12_isSpot_13 : decode cX12_isSpot 13 = .ok (.ireturn, 1) := by decide +kernel
def f_X12_isSpot (v0 : XM) (x0 : Int32) : Int32 :=
  x_lt (f_X12_isIn x0 (0 : Int32) ((x_ga v0 2 (0 : Int32)) - (1 : Int32))) (fun y1 =>
  (y1 : Int32))
set_option maxRecDepth 100000 in
set_option maxHeartbeats 4000000 in
theorem c_X12_isSpot {l : Launch}  {ad0 : Nat → Nat} {v0 : XM} {x0 : Int32}  {o : Int32} (h : f_X12_isSpot v0 x0 = o) : CT l yX12_isSpot cX12_isSpot 2 (some .boolean) 1 [(shModel, ad0)] [v0] (fun aK => [.ref (ad0 0), .int x0]) (some (.int o)) (x_Z o) [v0] := by
  refine CT_of (by decide) (fun _ => Nat.le_of_ble_eq_true rfl) ?_
  intro p e s m args below meth c D tc aK aV A X
  have X : Cx p s m args meth c cX12_isSpot 2 (some .boolean) RX12 D tc aK aV A [(shModel, ad0)] := X
  show aW p l e (x_Rm 1) s m args below meth c D tc A 2 [(shModel, ad0)] (some (.int o)) (x_Z o) [v0] 0 [(0, .ref (ad0 0)), (1, .int x0)] [] [v0]
  unfold f_X12_isSpot at h
  refine a_iload_n (pc := 0) X 1 dX12_isSpot_0 rfl rfl ?_
  refine a_iconst (pc := 1) X dX12_isSpot_1 q_ic_0 ?_
  refine a_aload_n (pc := 2) X 0 dX12_isSpot_2 rfl rfl ?_
  refine a_getR (pc := 3) X 0 2 2 fl_RX12_98 rfl rfl rfl rfl rfl dX12_isSpot_3 ?_
  refine a_iconst (pc := 6) X dX12_isSpot_6 q_ic_0 ?_
  refine a_iald (pc := 7) X 0 rfl rfl rfl (x_inl (by decide)) dX12_isSpot_7 ?_
  refine a_iconst (pc := 8) X dX12_isSpot_8 q_ic_1 ?_
  refine a_isub (pc := 9) X dX12_isSpot_9 ?_
  obtain ⟨y1, e_y1, h⟩ := x_lt_elim h
  refine a_callS (pc := 10) (st2 := [.int y1]) (vs2 := [v0]) X [] [] [.int x0, .int (0 : Int32), .int ((x_ga v0 2 (0 : Int32)) - (1 : Int32))] [] cv_RX12_75 (c_X12_isIn   e_y1) rfl rfl rfl rfl rfl rfl rfl rfl rfl rfl rfl (Nat.le_of_ble_eq_true rfl) ⟨Nat.le_of_ble_eq_true rfl, Nat.le_of_ble_eq_true rfl⟩ dX12_isSpot_10 (fun z_10 => ?_)
  subst h
  exact a_zret (pc := 13) X z_10 z_10 dX12_isSpot_13
theorem dX12_isFold_0 : decode cX12_isFold 0 = .ok (.iload_n 1, 1) := by decide +kernel
theorem dX12_isFold_1 : decode cX12_isFold 1 = .ok (.iconst 0, 1) := by decide +kernel
theorem dX12_isFold_2 : decode cX12_isFold 2 = .ok (.aload_n 0, 1) := by decide +kernel
theorem dX12_isFold_3 : decode cX12_isFold 3 = .ok (.getfield 98, 3) := by decide +kernel
theorem dX12_isFold_6 : decode cX12_isFold 6 = .ok (.iconst 1, 1) := by decide +kernel
theorem dX12_isFold_7 : decode cX12_isFold 7 = .ok (.iaload, 1) := by decide +kernel
theorem dX12_isFold_8 : decode cX12_isFold 8 = .ok (.iconst 1, 1) := by decide +kernel
theorem dX12_isFold_9 : decode cX12_isFold 9 = .ok (.isub, 1) := by decide +kernel
theorem dX12_isFold_10 : decode cX12_isFold 10 = .ok (.invokestatic 75, 3) := by decide +kernel
theorem dX12_isFold_13 : decode cX12_isFold 13 = .ok (.ireturn, 1) := by decide +kernel
def f_X12_isFold (v0 : XM) (x0 : Int32) : Int32 :=
  x_lt (f_X12_isIn x0 (0 : Int32) ((x_ga v0 2 (1 : Int32)) - (1 : Int32))) (fun y1 =>
  (y1 : Int32))
set_option maxRecDepth 100000 in
set_option maxHeartbeats 4000000 in
theorem c_X12_isFold {l : Launch}  {ad0 : Nat → Nat} {v0 : XM} {x0 : Int32}  {o : Int32} (h : f_X12_isFold v0 x0 = o) : CT l yX12_isFold cX12_isFold 2 (some .boolean) 1 [(shModel, ad0)] [v0] (fun aK => [.ref (ad0 0), .int x0]) (some (.int o)) (x_Z o) [v0] := by
  refine CT_of (by decide) (fun _ => Nat.le_of_ble_eq_true rfl) ?_
  intro p e s m args below meth c D tc aK aV A X
  have X : Cx p s m args meth c cX12_isFold 2 (some .boolean) RX12 D tc aK aV A [(shModel, ad0)] := X
  show aW p l e (x_Rm 1) s m args below meth c D tc A 2 [(shModel, ad0)] (some (.int o)) (x_Z o) [v0] 0 [(0, .ref (ad0 0)), (1, .int x0)] [] [v0]
  unfold f_X12_isFold at h
  refine a_iload_n (pc := 0) X 1 dX12_isFold_0 rfl rfl ?_
  refine a_iconst (pc := 1) X dX12_isFold_1 q_ic_0 ?_
  refine a_aload_n (pc := 2) X 0 dX12_isFold_2 rfl rfl ?_
  refine a_getR (pc := 3) X 0 2 2 fl_RX12_98 rfl rfl rfl rfl rfl dX12_isFold_3 ?_
  refine a_iconst (pc := 6) X dX12_isFold_6 q_ic_1 ?_
  refine a_iald (pc := 7) X 0 rfl rfl rfl (x_inl (by decide)) dX12_isFold_7 ?_
  refine a_iconst (pc := 8) X dX12_isFold_8 q_ic_1 ?_
  refine a_isub (pc := 9) X dX12_isFold_9 ?_
  obtain ⟨y1, e_y1, h⟩ := x_lt_elim h
  refine a_callS (pc := 10) (st2 := [.int y1]) (vs2 := [v0]) X [] [] [.int x0, .int (0 : Int32), .int ((x_ga v0 2 (1 : Int32)) - (1 : Int32))] [] cv_RX12_75 (c_X12_isIn   e_y1) rfl rfl rfl rfl rfl rfl rfl rfl rfl rfl rfl (Nat.le_of_ble_eq_true rfl) ⟨Nat.le_of_ble_eq_true rfl, Nat.le_of_ble_eq_true rfl⟩ dX12_isFold_10 (fun z_10 => ?_)
  subst h
  exact a_zret (pc := 13) X z_10 z_10 dX12_isFold_13
theorem dX12_isThing_0 : decode cX12_isThing 0 = .ok (.iload_n 1, 1) := by decide +kernel
theorem dX12_isThing_1 : decode cX12_isThing 1 = .ok (.iconst 0, 1) := by decide +kernel
theorem dX12_isThing_2 : decode cX12_isThing 2 = .ok (.aload_n 0, 1) := by decide +kernel
theorem dX12_isThing_3 : decode cX12_isThing 3 = .ok (.getfield 98, 3) := by decide +kernel
theorem dX12_isThing_6 : decode cX12_isThing 6 = .ok (.iconst 2, 1) := by decide +kernel
theorem dX12_isThing_7 : decode cX12_isThing 7 = .ok (.iaload, 1) := by decide +kernel
theorem dX12_isThing_8 : decode cX12_isThing 8 = .ok (.iconst 1, 1) := by decide +kernel
theorem dX12_isThing_9 : decode cX12_isThing 9 = .ok (.isub, 1) := by decide +kernel
theorem dX12_isThing_10 : decode cX12_isThing 10 = .ok (.invokestatic 75, 3) := by decide +kernel
theorem dX12_isThing_13 : decode cX12_isThing 13 = .ok (.ireturn, 1) := by decide +kernel
def f_X12_isThing (v0 : XM) (x0 : Int32) : Int32 :=
  x_lt (f_X12_isIn x0 (0 : Int32) ((x_ga v0 2 (2 : Int32)) - (1 : Int32))) (fun y1 =>
  (y1 : Int32))
set_option maxRecDepth 100000 in
set_option maxHeartbeats 4000000 in
theorem c_X12_isThing {l : Launch}  {ad0 : Nat → Nat} {v0 : XM} {x0 : Int32}  {o : Int32} (h : f_X12_isThing v0 x0 = o) : CT l yX12_isThing cX12_isThing 2 (some .boolean) 1 [(shModel, ad0)] [v0] (fun aK => [.ref (ad0 0), .int x0]) (some (.int o)) (x_Z o) [v0] := by
  refine CT_of (by decide) (fun _ => Nat.le_of_ble_eq_true rfl) ?_
  intro p e s m args below meth c D tc aK aV A X
  have X : Cx p s m args meth c cX12_isThing 2 (some .boolean) RX12 D tc aK aV A [(shModel, ad0)] := X
  show aW p l e (x_Rm 1) s m args below meth c D tc A 2 [(shModel, ad0)] (some (.int o)) (x_Z o) [v0] 0 [(0, .ref (ad0 0)), (1, .int x0)] [] [v0]
  unfold f_X12_isThing at h
  refine a_iload_n (pc := 0) X 1 dX12_isThing_0 rfl rfl ?_
  refine a_iconst (pc := 1) X dX12_isThing_1 q_ic_0 ?_
  refine a_aload_n (pc := 2) X 0 dX12_isThing_2 rfl rfl ?_
  refine a_getR (pc := 3) X 0 2 2 fl_RX12_98 rfl rfl rfl rfl rfl dX12_isThing_3 ?_
  refine a_iconst (pc := 6) X dX12_isThing_6 q_ic_2 ?_
  refine a_iald (pc := 7) X 0 rfl rfl rfl (x_inl (by decide)) dX12_isThing_7 ?_
  refine a_iconst (pc := 8) X dX12_isThing_8 q_ic_1 ?_
  refine a_isub (pc := 9) X dX12_isThing_9 ?_
  obtain ⟨y1, e_y1, h⟩ := x_lt_elim h
  refine a_callS (pc := 10) (st2 := [.int y1]) (vs2 := [v0]) X [] [] [.int x0, .int (0 : Int32), .int ((x_ga v0 2 (2 : Int32)) - (1 : Int32))] [] cv_RX12_75 (c_X12_isIn   e_y1) rfl rfl rfl rfl rfl rfl rfl rfl rfl rfl rfl (Nat.le_of_ble_eq_true rfl) ⟨Nat.le_of_ble_eq_true rfl, Nat.le_of_ble_eq_true rfl⟩ dX12_isThing_10 (fun z_10 => ?_)
  subst h
  exact a_zret (pc := 13) X z_10 z_10 dX12_isThing_13
theorem dX12_isWalker_0 : decode cX12_isWalker 0 = .ok (.iload_n 1, 1) := by decide +kernel
theorem dX12_isWalker_1 : decode cX12_isWalker 1 = .ok (.iconst 0, 1) := by decide +kernel
theorem dX12_isWalker_2 : decode cX12_isWalker 2 = .ok (.aload_n 0, 1) := by decide +kernel
theorem dX12_isWalker_3 : decode cX12_isWalker 3 = .ok (.getfield 98, 3) := by decide +kernel
theorem dX12_isWalker_6 : decode cX12_isWalker 6 = .ok (.iconst 3, 1) := by decide +kernel
theorem dX12_isWalker_7 : decode cX12_isWalker 7 = .ok (.iaload, 1) := by decide +kernel
theorem dX12_isWalker_8 : decode cX12_isWalker 8 = .ok (.iconst 1, 1) := by decide +kernel
theorem dX12_isWalker_9 : decode cX12_isWalker 9 = .ok (.isub, 1) := by decide +kernel
theorem dX12_isWalker_10 : decode cX12_isWalker 10 = .ok (.invokestatic 75, 3) := by decide +kernel
theorem dX12_isWalker_13 : decode cX12_isWalker 13 = .ok (.ireturn, 1) := by decide +kernel
def f_X12_isWalker (v0 : XM) (x0 : Int32) : Int32 :=
  x_lt (f_X12_isIn x0 (0 : Int32) ((x_ga v0 2 (3 : Int32)) - (1 : Int32))) (fun y1 =>
  (y1 : Int32))
set_option maxRecDepth 100000 in
set_option maxHeartbeats 4000000 in
theorem c_X12_isWalker {l : Launch}  {ad0 : Nat → Nat} {v0 : XM} {x0 : Int32}  {o : Int32} (h : f_X12_isWalker v0 x0 = o) : CT l yX12_isWalker cX12_isWalker 2 (some .boolean) 1 [(shModel, ad0)] [v0] (fun aK => [.ref (ad0 0), .int x0]) (some (.int o)) (x_Z o) [v0] := by
  refine CT_of (by decide) (fun _ => Nat.le_of_ble_eq_true rfl) ?_
  intro p e s m args below meth c D tc aK aV A X
  have X : Cx p s m args meth c cX12_isWalker 2 (some .boolean) RX12 D tc aK aV A [(shModel, ad0)] := X
  show aW p l e (x_Rm 1) s m args below meth c D tc A 2 [(shModel, ad0)] (some (.int o)) (x_Z o) [v0] 0 [(0, .ref (ad0 0)), (1, .int x0)] [] [v0]
  unfold f_X12_isWalker at h
  refine a_iload_n (pc := 0) X 1 dX12_isWalker_0 rfl rfl ?_
  refine a_iconst (pc := 1) X dX12_isWalker_1 q_ic_0 ?_
  refine a_aload_n (pc := 2) X 0 dX12_isWalker_2 rfl rfl ?_
  refine a_getR (pc := 3) X 0 2 2 fl_RX12_98 rfl rfl rfl rfl rfl dX12_isWalker_3 ?_
  refine a_iconst (pc := 6) X dX12_isWalker_6 q_ic_3 ?_
  refine a_iald (pc := 7) X 0 rfl rfl rfl (x_inl (by decide)) dX12_isWalker_7 ?_
  refine a_iconst (pc := 8) X dX12_isWalker_8 q_ic_1 ?_
  refine a_isub (pc := 9) X dX12_isWalker_9 ?_
  obtain ⟨y1, e_y1, h⟩ := x_lt_elim h
  refine a_callS (pc := 10) (st2 := [.int y1]) (vs2 := [v0]) X [] [] [.int x0, .int (0 : Int32), .int ((x_ga v0 2 (3 : Int32)) - (1 : Int32))] [] cv_RX12_75 (c_X12_isIn   e_y1) rfl rfl rfl rfl rfl rfl rfl rfl rfl rfl rfl (Nat.le_of_ble_eq_true rfl) ⟨Nat.le_of_ble_eq_true rfl, Nat.le_of_ble_eq_true rfl⟩ dX12_isWalker_10 (fun z_10 => ?_)
  subst h
  exact a_zret (pc := 13) X z_10 z_10 dX12_isWalker_13
theorem dX12_isGoing_0 : decode cX12_isGoing 0 = .ok (.aload_n 0, 1) := by decide +kernel
theorem dX12_isGoing_1 : decode cX12_isGoing 1 = .ok (.getfield 98, 3) := by decide +kernel
theorem dX12_isGoing_4 : decode cX12_isGoing 4 = .ok (.bipush 79, 2) := by decide +kernel
theorem dX12_isGoing_6 : decode cX12_isGoing 6 = .ok (.iload_n 1, 1) := by decide +kernel
theorem dX12_isGoing_7 : decode cX12_isGoing 7 = .ok (.iadd, 1) := by decide +kernel
theorem dX12_isGoing_8 : decode cX12_isGoing 8 = .ok (.iaload, 1) := by decide +kernel
theorem dX12_isGoing_9 : decode cX12_isGoing 9 = .ok (.iconst (-1), 1) := by decide +kernel
theorem dX12_isGoing_10 : decode cX12_isGoing 10 = .ok (.if_icmp .eq 7, 3) := by decide +kernel
theorem dX12_isGoing_13 : decode cX12_isGoing 13 = .ok (.iconst 1, 1) := by decide +kernel
theorem dX12_isGoing_14 : decode cX12_isGoing 14 = .ok (.goto 4, 3) := by decide +kernel
theorem dX12_isGoing_17 : decode cX12_isGoing 17 = .ok (.iconst 0, 1) := by decide +kernel
theorem dX12_isGoing_18 : decode cX12_isGoing 18 = .ok (.ireturn, 1) := by decide +kernel
def f_X12_isGoing (v0 : XM) (x0 : Int32) : Option (Int32) :=
  x_ck ((79 : Int32) + x0) 353 (
  if ((x_ga v0 2 ((79 : Int32) + x0)) : Int32) = (-1 : Int32) then
  (some ((0 : Int32) : Int32))
  else (some ((1 : Int32) : Int32)))
set_option maxRecDepth 100000 in
set_option maxHeartbeats 4000000 in
theorem c_X12_isGoing {l : Launch}  {ad0 : Nat → Nat} {v0 : XM} {x0 : Int32}  {o : Int32} (h : f_X12_isGoing v0 x0 = some o) : CT l yX12_isGoing cX12_isGoing 2 (some .boolean) 0 [(shModel, ad0)] [v0] (fun aK => [.ref (ad0 0), .int x0]) (some (.int o)) (x_Z o) [v0] := by
  refine CT_of (by decide) (fun _ => Nat.le_of_ble_eq_true rfl) ?_
  intro p e s m args below meth c D tc aK aV A X
  have X : Cx p s m args meth c cX12_isGoing 2 (some .boolean) RX12 D tc aK aV A [(shModel, ad0)] := X
  show aW p l e (x_Rm 0) s m args below meth c D tc A 2 [(shModel, ad0)] (some (.int o)) (x_Z o) [v0] 0 [(0, .ref (ad0 0)), (1, .int x0)] [] [v0]
  unfold f_X12_isGoing at h
  refine a_aload_n (pc := 0) X 0 dX12_isGoing_0 rfl rfl ?_
  refine a_getR (pc := 1) X 0 2 2 fl_RX12_98 rfl rfl rfl rfl rfl dX12_isGoing_1 ?_
  refine a_bipush (pc := 4) X dX12_isGoing_4 q_bp_79 ?_
  refine a_iload_n (pc := 6) X 1 dX12_isGoing_6 rfl rfl ?_
  refine a_iadd (pc := 7) X dX12_isGoing_7 ?_
  obtain ⟨c_8, h⟩ := x_ck_elim h
  refine a_iald (pc := 8) X 0 rfl rfl rfl c_8 dX12_isGoing_8 ?_
  refine a_iconst (pc := 9) X dX12_isGoing_9 q_ic_m1 ?_
  refine a_icmp_eq (pc := 10) X 17 dX12_isGoing_10 rfl (fun c_10 => ?_) (fun c_10 => ?_)
  · have h := x_ifp c_10 h
    refine a_iconst (pc := 17) X dX12_isGoing_17 q_ic_0 ?_
    have h := Option.some.inj h; subst h
    exact a_zret (pc := 18) X x_Z0 x_Z0 dX12_isGoing_18
  · have h := x_ifn c_10 h
    refine a_iconst (pc := 13) X dX12_isGoing_13 q_ic_1 ?_
    refine a_goto (pc := 14) X 18 dX12_isGoing_14 rfl ?_
    have h := Option.some.inj h; subst h
    exact a_zret (pc := 18) X x_Z1 x_Z1 dX12_isGoing_18
theorem dX12_isStill_0 : decode cX12_isStill 0 = .ok (.aload_n 0, 1) := by decide +kernel
theorem dX12_isStill_1 : decode cX12_isStill 1 = .ok (.iload_n 1, 1) := by decide +kernel
theorem dX12_isStill_2 : decode cX12_isStill 2 = .ok (.invokevirtual 237, 3) := by decide +kernel
theorem dX12_isStill_5 : decode cX12_isStill 5 = .ok (.ifCond .eq 15, 3) := by decide +kernel
theorem dX12_isStill_8 : decode cX12_isStill 8 = .ok (.aload_n 0, 1) := by decide +kernel
theorem dX12_isStill_9 : decode cX12_isStill 9 = .ok (.iload_n 1, 1) := by decide +kernel
theorem dX12_isStill_10 : decode cX12_isStill 10 = .ok (.invokevirtual 240, 3) := by decide +kernel
theorem dX12_isStill_13 : decode cX12_isStill 13 = .ok (.ifCond .ne 7, 3) := by decide +kernel
theorem dX12_isStill_16 : decode cX12_isStill 16 = .ok (.iconst 1, 1) := by decide +kernel
theorem dX12_isStill_17 : decode cX12_isStill 17 = .ok (.goto 4, 3) := by decide +kernel
theorem dX12_isStill_20 : decode cX12_isStill 20 = .ok (.iconst 0, 1) := by decide +kernel
theorem dX12_isStill_21 : decode cX12_isStill 21 = .ok (.ireturn, 1) := by decide +kernel
def f_X12_isStill (v0 : XM) (x0 : Int32) : Option (Int32) :=
  x_lt (f_X12_isWalker v0 x0) (fun y1 =>
  if y1 = (0 : Int32) then
  (some ((0 : Int32) : Int32))
  else (x_bo (f_X12_isGoing v0 x0) (fun y2 =>
  if y2 = (0 : Int32) then
  (some ((1 : Int32) : Int32))
  else (some ((0 : Int32) : Int32)))))
set_option maxRecDepth 100000 in
set_option maxHeartbeats 4000000 in
theorem c_X12_isStill {l : Launch}  {ad0 : Nat → Nat} {v0 : XM} {x0 : Int32}  {o : Int32} (h : f_X12_isStill v0 x0 = some o) : CT l yX12_isStill cX12_isStill 2 (some .boolean) 2 [(shModel, ad0)] [v0] (fun aK => [.ref (ad0 0), .int x0]) (some (.int o)) (x_Z o) [v0] := by
  refine CT_of (by decide) (fun _ => Nat.le_of_ble_eq_true rfl) ?_
  intro p e s m args below meth c D tc aK aV A X
  have X : Cx p s m args meth c cX12_isStill 2 (some .boolean) RX12 D tc aK aV A [(shModel, ad0)] := X
  show aW p l e (x_Rm 2) s m args below meth c D tc A 2 [(shModel, ad0)] (some (.int o)) (x_Z o) [v0] 0 [(0, .ref (ad0 0)), (1, .int x0)] [] [v0]
  unfold f_X12_isStill at h
  refine a_aload_n (pc := 0) X 0 dX12_isStill_0 rfl rfl ?_
  refine a_iload_n (pc := 1) X 1 dX12_isStill_1 rfl rfl ?_
  obtain ⟨y1, e_y1, h⟩ := x_lt_elim h
  refine a_callV (pc := 2) (st2 := [.int y1]) (vs2 := [v0]) X [(0, 0, 20)] [none] 0 0 12 [.int x0] [] cv_RX12_237 (c_X12_isWalker (ad0 := ad0)  e_y1) rfl rfl rfl rfl rfl rfl rfl rfl rfl rfl rfl rfl rfl rfl rfl (Nat.le_of_ble_eq_true rfl) ⟨Nat.le_of_ble_eq_true rfl, Nat.le_of_ble_eq_true rfl⟩ dX12_isStill_2 (fun z_2 => ?_)
  refine a_if_eq (pc := 5) X 20 dX12_isStill_5 rfl (fun c_5 => ?_) (fun c_5 => ?_)
  · have h := x_ifp c_5 h
    refine a_iconst (pc := 20) X dX12_isStill_20 q_ic_0 ?_
    have h := Option.some.inj h; subst h
    exact a_zret (pc := 21) X x_Z0 x_Z0 dX12_isStill_21
  · have h := x_ifn c_5 h
    refine a_aload_n (pc := 8) X 0 dX12_isStill_8 rfl rfl ?_
    refine a_iload_n (pc := 9) X 1 dX12_isStill_9 rfl rfl ?_
    obtain ⟨y2, e_y2, h⟩ := x_bo_elim h
    refine a_callV (pc := 10) (st2 := [.int y2]) (vs2 := [v0]) X [(0, 0, 20)] [none] 0 0 12 [.int x0] [] cv_RX12_240 (c_X12_isGoing (ad0 := ad0)  e_y2) rfl rfl rfl rfl rfl rfl rfl rfl rfl rfl rfl rfl rfl rfl rfl (Nat.le_of_ble_eq_true rfl) ⟨Nat.le_of_ble_eq_true rfl, Nat.le_of_ble_eq_true rfl⟩ dX12_isStill_10 (fun z_10 => ?_)
    refine a_if_ne (pc := 13) X 20 dX12_isStill_13 rfl (fun c_13 => ?_) (fun c_13 => ?_)
    · have h := x_ifn c_13 h
      refine a_iconst (pc := 20) X dX12_isStill_20 q_ic_0 ?_
      have h := Option.some.inj h; subst h
      exact a_zret (pc := 21) X x_Z0 x_Z0 dX12_isStill_21
    · have h := x_ifp c_13 h
      refine a_iconst (pc := 16) X dX12_isStill_16 q_ic_1 ?_
      refine a_goto (pc := 17) X 21 dX12_isStill_17 rfl ?_
      have h := Option.some.inj h; subst h
      exact a_zret (pc := 21) X x_Z1 x_Z1 dX12_isStill_21
theorem dX12_plainDepth_0 : decode cX12_plainDepth 0 = .ok (.aload_n 0, 1) := by decide +kernel
theorem dX12_plainDepth_1 : decode cX12_plainDepth 1 = .ok (.getfield 98, 3) := by decide +kernel
theorem dX12_plainDepth_4 : decode cX12_plainDepth 4 = .ok (.bipush 72, 2) := by decide +kernel
theorem dX12_plainDepth_6 : decode cX12_plainDepth 6 = .ok (.iaload, 1) := by decide +kernel
theorem dX12_plainDepth_7 : decode cX12_plainDepth 7 = .ok (.iload_n 1, 1) := by decide +kernel
theorem dX12_plainDepth_8 : decode cX12_plainDepth 8 = .ok (.invokestatic 243, 3) := by decide +kernel
theorem dX12_plainDepth_11 : decode cX12_plainDepth 11 = .ok (.ifCond .eq 7, 3) := by decide +kernel
theorem dX12_plainDepth_14 : decode cX12_plainDepth 14 = .ok (.iconst 1, 1) := by decide +kernel
theorem dX12_plainDepth_15 : decode cX12_plainDepth 15 = .ok (.goto 12, 3) := by decide +kernel
theorem dX12_plainDepth_18 : decode cX12_plainDepth 18 = .ok (.aload_n 0, 1) := by decide +kernel
theorem dX12_plainDepth_19 : decode cX12_plainDepth 19 = .ok (.getfield 98, 3) := by decide +kernel
theorem dX12_plainDepth_22 : decode cX12_plainDepth 22 = .ok (.bipush 30, 2) := by decide +kernel
theorem dX12_plainDepth_24 : decode cX12_plainDepth 24 = .ok (.iload_n 1, 1) := by decide +kernel
theorem dX12_plainDepth_25 : decode cX12_plainDepth 25 = .ok (.iadd, 1) := by decide +kernel
theorem dX12_plainDepth_26 : decode cX12_plainDepth 26 = .ok (.iaload, 1) := by decide +kernel
theorem dX12_plainDepth_27 : decode cX12_plainDepth 27 = .ok (.ireturn, 1) := by decide +kernel
def f_X12_plainDepth (v0 : XM) (x0 : Int32) : Option (Int32) :=
  x_lt (f_X12_has (x_ga v0 2 (72 : Int32)) x0) (fun y1 =>
  if y1 = (0 : Int32) then
  (x_ck ((30 : Int32) + x0) 353 (
  some (x_ga v0 2 ((30 : Int32) + x0) : Int32)))
  else (some ((1 : Int32) : Int32)))
set_option maxRecDepth 100000 in
set_option maxHeartbeats 4000000 in
theorem c_X12_plainDepth {l : Launch}  {ad0 : Nat → Nat} {v0 : XM} {x0 : Int32}  {o : Int32} (h : f_X12_plainDepth v0 x0 = some o) : CT l yX12_plainDepth cX12_plainDepth 2 (some .int) 1 [(shModel, ad0)] [v0] (fun aK => [.ref (ad0 0), .int x0]) (some (.int o)) True [v0] := by
  refine CT_of (by decide) (fun _ => Nat.le_of_ble_eq_true rfl) ?_
  intro p e s m args below meth c D tc aK aV A X
  have X : Cx p s m args meth c cX12_plainDepth 2 (some .int) RX12 D tc aK aV A [(shModel, ad0)] := X
  show aW p l e (x_Rm 1) s m args below meth c D tc A 2 [(shModel, ad0)] (some (.int o)) True [v0] 0 [(0, .ref (ad0 0)), (1, .int x0)] [] [v0]
  unfold f_X12_plainDepth at h
  refine a_aload_n (pc := 0) X 0 dX12_plainDepth_0 rfl rfl ?_
  refine a_getR (pc := 1) X 0 2 2 fl_RX12_98 rfl rfl rfl rfl rfl dX12_plainDepth_1 ?_
  refine a_bipush (pc := 4) X dX12_plainDepth_4 q_bp_72 ?_
  refine a_iald (pc := 6) X 0 rfl rfl rfl (x_inl (by decide)) dX12_plainDepth_6 ?_
  refine a_iload_n (pc := 7) X 1 dX12_plainDepth_7 rfl rfl ?_
  obtain ⟨y1, e_y1, h⟩ := x_lt_elim h
  refine a_callS (pc := 8) (st2 := [.int y1]) (vs2 := [v0]) X [] [] [.int (x_ga v0 2 (72 : Int32)), .int x0] [] cv_RX12_243 (c_X12_has   e_y1) rfl rfl rfl rfl rfl rfl rfl rfl rfl rfl rfl (Nat.le_of_ble_eq_true rfl) ⟨Nat.le_of_ble_eq_true rfl, Nat.le_of_ble_eq_true rfl⟩ dX12_plainDepth_8 (fun z_8 => ?_)
  refine a_if_eq (pc := 11) X 18 dX12_plainDepth_11 rfl (fun c_11 => ?_) (fun c_11 => ?_)
  · have h := x_ifp c_11 h
    refine a_aload_n (pc := 18) X 0 dX12_plainDepth_18 rfl rfl ?_
    refine a_getR (pc := 19) X 0 2 2 fl_RX12_98 rfl rfl rfl rfl rfl dX12_plainDepth_19 ?_
    refine a_bipush (pc := 22) X dX12_plainDepth_22 q_bp_30 ?_
    refine a_iload_n (pc := 24) X 1 dX12_plainDepth_24 rfl rfl ?_
    refine a_iadd (pc := 25) X dX12_plainDepth_25 ?_
    obtain ⟨c_26, h⟩ := x_ck_elim h
    refine a_iald (pc := 26) X 0 rfl rfl rfl c_26 dX12_plainDepth_26 ?_
    have h := Option.some.inj h; subst h
    exact a_iret (pc := 27) X trivial dX12_plainDepth_27
  · have h := x_ifn c_11 h
    refine a_iconst (pc := 14) X dX12_plainDepth_14 q_ic_1 ?_
    refine a_goto (pc := 15) X 27 dX12_plainDepth_15 rfl ?_
    have h := Option.some.inj h; subst h
    exact a_iret (pc := 27) X trivial dX12_plainDepth_27
theorem dX12_depthOf_0 : decode cX12_depthOf 0 = .ok (.aload_n 0, 1) := by decide +kernel
theorem dX12_depthOf_1 : decode cX12_depthOf 1 = .ok (.iload_n 1, 1) := by decide +kernel
theorem dX12_depthOf_2 : decode cX12_depthOf 2 = .ok (.invokevirtual 246, 3) := by decide +kernel
theorem dX12_depthOf_5 : decode cX12_depthOf 5 = .ok (.iconst 1, 1) := by decide +kernel
theorem dX12_depthOf_6 : decode cX12_depthOf 6 = .ok (.if_icmp .le 32, 3) := by decide +kernel
theorem dX12_depthOf_9 : decode cX12_depthOf 9 = .ok (.aload_n 0, 1) := by decide +kernel
theorem dX12_depthOf_10 : decode cX12_depthOf 10 = .ok (.getfield 98, 3) := by decide +kernel
theorem dX12_depthOf_13 : decode cX12_depthOf 13 = .ok (.bipush 42, 2) := by decide +kernel
theorem dX12_depthOf_15 : decode cX12_depthOf 15 = .ok (.iload_n 1, 1) := by decide +kernel
theorem dX12_depthOf_16 : decode cX12_depthOf 16 = .ok (.iadd, 1) := by decide +kernel
theorem dX12_depthOf_17 : decode cX12_depthOf 17 = .ok (.iaload, 1) := by decide +kernel
theorem dX12_depthOf_18 : decode cX12_depthOf 18 = .ok (.aload_n 0, 1) := by decide +kernel
theorem dX12_depthOf_19 : decode cX12_depthOf 19 = .ok (.getfield 98, 3) := by decide +kernel
theorem dX12_depthOf_22 : decode cX12_depthOf 22 = .ok (.bipush 71, 2) := by decide +kernel
theorem dX12_depthOf_24 : decode cX12_depthOf 24 = .ok (.iaload, 1) := by decide +kernel
theorem dX12_depthOf_25 : decode cX12_depthOf 25 = .ok (.if_icmp .ne 13, 3) := by decide +kernel
theorem dX12_depthOf_28 : decode cX12_depthOf 28 = .ok (.aload_n 0, 1) := by decide +kernel
theorem dX12_depthOf_29 : decode cX12_depthOf 29 = .ok (.iload_n 1, 1) := by decide +kernel
theorem dX12_depthOf_30 : decode cX12_depthOf 30 = .ok (.invokevirtual 246, 3) := by decide +kernel
theorem dX12_depthOf_33 : decode cX12_depthOf 33 = .ok (.iconst 1, 1) := by decide +kernel
theorem dX12_depthOf_34 : decode cX12_depthOf 34 = .ok (.isub, 1) := by decide +kernel
theorem dX12_depthOf_35 : decode cX12_depthOf 35 = .ok (.goto 8, 3) := by decide +kernel
theorem dX12_depthOf_38 : decode cX12_depthOf 38 = .ok (.aload_n 0, 1) := by decide +kernel
theorem dX12_depthOf_39 : decode cX12_depthOf 39 = .ok (.iload_n 1, 1) := by decide +kernel
theorem dX12_depthOf_40 : decode cX12_depthOf 40 = .ok (.invokevirtual 246, 3) := by decide +kernel
theorem dX12_depthOf_43 : decode cX12_depthOf 43 = .ok (.ireturn, 1) := by decide +kernel
def f_X12_depthOf_38 (v0 : XM) (l1 : Int32) : Option (Int32) :=
  x_bo (f_X12_plainDepth v0 l1) (fun y1 =>
  some (y1 : Int32))
def f_X12_depthOf (v0 : XM) (x0 : Int32) : Option (Int32) :=
  x_bo (f_X12_plainDepth v0 x0) (fun y2 =>
  if (y2 : Int32) ≤ (1 : Int32) then
  (f_X12_depthOf_38 v0  x0)
  else (x_ck ((42 : Int32) + x0) 353 (
  if ((x_ga v0 2 ((42 : Int32) + x0)) : Int32) = (x_ga v0 2 (71 : Int32)) then
  (x_bo (f_X12_plainDepth v0 x0) (fun y3 =>
  some (y3 - (1 : Int32) : Int32)))
  else (f_X12_depthOf_38 v0  x0))))
set_option maxRecDepth 100000 in
set_option maxHeartbeats 4000000 in
theorem w_X12_depthOf_38 {p : Program} {l : Launch} {e : Env} {s : State} {m : MethodId} {args : Array Value} {below : List Frame} {meth : Method} {c : Code} {D : va_G} {tc : Nat → ClassId} {aK aV : Nat → Nat} {A : Nat → Prop} {ad0 : Nat → Nat} {v0 : XM} (X : Cx p s m args meth c cX12_depthOf 2 (some .int) RX12 D tc aK aV A [(shModel, ad0)])  {o : Int32}  {l1 : Int32}  (h : f_X12_depthOf_38 v0  l1 = some o) : aW p l e (x_Rm 2) s m args below meth c D tc A 2 [(shModel, ad0)] (some (.int o)) True [v0] 38 [(0, .ref (ad0 0)), (1, .int l1)] [] [v0] := by
  unfold f_X12_depthOf_38 at h
  refine a_aload_n (pc := 38) X 0 dX12_depthOf_38 rfl rfl ?_
  refine a_iload_n (pc := 39) X 1 dX12_depthOf_39 rfl rfl ?_
  obtain ⟨y1, e_y1, h⟩ := x_bo_elim h
  refine a_callV (pc := 40) (st2 := [.int y1]) (vs2 := [v0]) X [(0, 0, 20)] [none] 0 0 12 [.int l1] [] cv_RX12_246 (c_X12_plainDepth (ad0 := ad0)  e_y1) rfl rfl rfl rfl rfl rfl rfl rfl rfl rfl rfl rfl rfl rfl rfl (Nat.le_of_ble_eq_true rfl) ⟨Nat.le_of_ble_eq_true rfl, Nat.le_of_ble_eq_true rfl⟩ dX12_depthOf_40 (fun _ => ?_)
  have h := Option.some.inj h; subst h
  exact a_iret (pc := 43) X trivial dX12_depthOf_43
set_option maxRecDepth 100000 in
set_option maxHeartbeats 4000000 in
theorem c_X12_depthOf {l : Launch}  {ad0 : Nat → Nat} {v0 : XM} {x0 : Int32}  {o : Int32} (h : f_X12_depthOf v0 x0 = some o) : CT l yX12_depthOf cX12_depthOf 2 (some .int) 2 [(shModel, ad0)] [v0] (fun aK => [.ref (ad0 0), .int x0]) (some (.int o)) True [v0] := by
  refine CT_of (by decide) (fun _ => Nat.le_of_ble_eq_true rfl) ?_
  intro p e s m args below meth c D tc aK aV A X
  have X : Cx p s m args meth c cX12_depthOf 2 (some .int) RX12 D tc aK aV A [(shModel, ad0)] := X
  show aW p l e (x_Rm 2) s m args below meth c D tc A 2 [(shModel, ad0)] (some (.int o)) True [v0] 0 [(0, .ref (ad0 0)), (1, .int x0)] [] [v0]
  unfold f_X12_depthOf at h
  refine a_aload_n (pc := 0) X 0 dX12_depthOf_0 rfl rfl ?_
  refine a_iload_n (pc := 1) X 1 dX12_depthOf_1 rfl rfl ?_
  obtain ⟨y2, e_y2, h⟩ := x_bo_elim h
  refine a_callV (pc := 2) (st2 := [.int y2]) (vs2 := [v0]) X [(0, 0, 20)] [none] 0 0 12 [.int x0] [] cv_RX12_246 (c_X12_plainDepth (ad0 := ad0)  e_y2) rfl rfl rfl rfl rfl rfl rfl rfl rfl rfl rfl rfl rfl rfl rfl (Nat.le_of_ble_eq_true rfl) ⟨Nat.le_of_ble_eq_true rfl, Nat.le_of_ble_eq_true rfl⟩ dX12_depthOf_2 (fun _ => ?_)
  refine a_iconst (pc := 5) X dX12_depthOf_5 q_ic_1 ?_
  refine a_icmp_le (pc := 6) X 38 dX12_depthOf_6 rfl (fun c_6 => ?_) (fun c_6 => ?_)
  · have h := x_ifp c_6 h
    exact w_X12_depthOf_38 X     h
  · have h := x_ifn c_6 h
    refine a_aload_n (pc := 9) X 0 dX12_depthOf_9 rfl rfl ?_
    refine a_getR (pc := 10) X 0 2 2 fl_RX12_98 rfl rfl rfl rfl rfl dX12_depthOf_10 ?_
    refine a_bipush (pc := 13) X dX12_depthOf_13 q_bp_42 ?_
    refine a_iload_n (pc := 15) X 1 dX12_depthOf_15 rfl rfl ?_
    refine a_iadd (pc := 16) X dX12_depthOf_16 ?_
    obtain ⟨c_17, h⟩ := x_ck_elim h
    refine a_iald (pc := 17) X 0 rfl rfl rfl c_17 dX12_depthOf_17 ?_
    refine a_aload_n (pc := 18) X 0 dX12_depthOf_18 rfl rfl ?_
    refine a_getR (pc := 19) X 0 2 2 fl_RX12_98 rfl rfl rfl rfl rfl dX12_depthOf_19 ?_
    refine a_bipush (pc := 22) X dX12_depthOf_22 q_bp_71 ?_
    refine a_iald (pc := 24) X 0 rfl rfl rfl (x_inl (by decide)) dX12_depthOf_24 ?_
    refine a_icmp_ne (pc := 25) X 38 dX12_depthOf_25 rfl (fun c_25 => ?_) (fun c_25 => ?_)
    · have h := x_ifn c_25 h
      exact w_X12_depthOf_38 X     h
    · have h := x_ifp c_25 h
      refine a_aload_n (pc := 28) X 0 dX12_depthOf_28 rfl rfl ?_
      refine a_iload_n (pc := 29) X 1 dX12_depthOf_29 rfl rfl ?_
      obtain ⟨y3, e_y3, h⟩ := x_bo_elim h
      refine a_callV (pc := 30) (st2 := [.int y3]) (vs2 := [v0]) X [(0, 0, 20)] [none] 0 0 12 [.int x0] [] cv_RX12_246 (c_X12_plainDepth (ad0 := ad0)  e_y3) rfl rfl rfl rfl rfl rfl rfl rfl rfl rfl rfl rfl rfl rfl rfl (Nat.le_of_ble_eq_true rfl) ⟨Nat.le_of_ble_eq_true rfl, Nat.le_of_ble_eq_true rfl⟩ dX12_depthOf_30 (fun _ => ?_)
      refine a_iconst (pc := 33) X dX12_depthOf_33 q_ic_1 ?_
      refine a_isub (pc := 34) X dX12_depthOf_34 ?_
      refine a_goto (pc := 35) X 43 dX12_depthOf_35 rfl ?_
      have h := Option.some.inj h; subst h
      exact a_iret (pc := 43) X trivial dX12_depthOf_43
theorem dX12_hoursOf_0 : decode cX12_hoursOf 0 = .ok (.aload_n 0, 1) := by decide +kernel
theorem dX12_hoursOf_1 : decode cX12_hoursOf 1 = .ok (.iload_n 1, 1) := by decide +kernel
theorem dX12_hoursOf_2 : decode cX12_hoursOf 2 = .ok (.invokevirtual 249, 3) := by decide +kernel
theorem dX12_hoursOf_5 : decode cX12_hoursOf 5 = .ok (.iload_n 2, 1) := by decide +kernel
theorem dX12_hoursOf_6 : decode cX12_hoursOf 6 = .ok (.iadd, 1) := by decide +kernel
theorem dX12_hoursOf_7 : decode cX12_hoursOf 7 = .ok (.iconst 1, 1) := by decide +kernel
theorem dX12_hoursOf_8 : decode cX12_hoursOf 8 = .ok (.isub, 1) := by decide +kernel
theorem dX12_hoursOf_9 : decode cX12_hoursOf 9 = .ok (.iload_n 2, 1) := by decide +kernel
theorem dX12_hoursOf_10 : decode cX12_hoursOf 10 = .ok (.idiv, 1) := by decide +kernel
theorem dX12_hoursOf_11 : decode cX12_hoursOf 11 = .ok (.ireturn, 1) := by decide +kernel
def f_X12_hoursOf (v0 : XM) (x0 : Int32) (x1 : Int32) : Option (Int32) :=
  x_bo (f_X12_depthOf v0 x0) (fun y1 =>
  x_nz x1 (
  some (((y1 + x1) - (1 : Int32)) / x1 : Int32)))
set_option maxRecDepth 100000 in
set_option maxHeartbeats 4000000 in
theorem c_X12_hoursOf {l : Launch}  {ad0 : Nat → Nat} {v0 : XM} {x0 : Int32} {x1 : Int32}  {o : Int32} (h : f_X12_hoursOf v0 x0 x1 = some o) : CT l yX12_hoursOf cX12_hoursOf 3 (some .int) 3 [(shModel, ad0)] [v0] (fun aK => [.ref (ad0 0), .int x0, .int x1]) (some (.int o)) True [v0] := by
  refine CT_of (by decide) (fun _ => Nat.le_of_ble_eq_true rfl) ?_
  intro p e s m args below meth c D tc aK aV A X
  have X : Cx p s m args meth c cX12_hoursOf 3 (some .int) RX12 D tc aK aV A [(shModel, ad0)] := X
  show aW p l e (x_Rm 3) s m args below meth c D tc A 3 [(shModel, ad0)] (some (.int o)) True [v0] 0 [(0, .ref (ad0 0)), (1, .int x0), (2, .int x1)] [] [v0]
  unfold f_X12_hoursOf at h
  refine a_aload_n (pc := 0) X 0 dX12_hoursOf_0 rfl rfl ?_
  refine a_iload_n (pc := 1) X 1 dX12_hoursOf_1 rfl rfl ?_
  obtain ⟨y1, e_y1, h⟩ := x_bo_elim h
  refine a_callV (pc := 2) (st2 := [.int y1]) (vs2 := [v0]) X [(0, 0, 20)] [none] 0 0 12 [.int x0] [] cv_RX12_249 (c_X12_depthOf (ad0 := ad0)  e_y1) rfl rfl rfl rfl rfl rfl rfl rfl rfl rfl rfl rfl rfl rfl rfl (Nat.le_of_ble_eq_true rfl) ⟨Nat.le_of_ble_eq_true rfl, Nat.le_of_ble_eq_true rfl⟩ dX12_hoursOf_2 (fun _ => ?_)
  refine a_iload_n (pc := 5) X 2 dX12_hoursOf_5 rfl rfl ?_
  refine a_iadd (pc := 6) X dX12_hoursOf_6 ?_
  refine a_iconst (pc := 7) X dX12_hoursOf_7 q_ic_1 ?_
  refine a_isub (pc := 8) X dX12_hoursOf_8 ?_
  refine a_iload_n (pc := 9) X 2 dX12_hoursOf_9 rfl rfl ?_
  obtain ⟨c_10, h⟩ := x_nz_elim h
  refine a_idiv (pc := 10) X c_10 dX12_hoursOf_10 ?_
  have h := Option.some.inj h; subst h
  exact a_iret (pc := 11) X trivial dX12_hoursOf_11
theorem dX12_otherEnd_0 : decode cX12_otherEnd 0 = .ok (.aload_n 0, 1) := by decide +kernel
theorem dX12_otherEnd_1 : decode cX12_otherEnd 1 = .ok (.getfield 98, 3) := by decide +kernel
theorem dX12_otherEnd_4 : decode cX12_otherEnd 4 = .ok (.bipush 6, 2) := by decide +kernel
theorem dX12_otherEnd_6 : decode cX12_otherEnd 6 = .ok (.iload_n 1, 1) := by decide +kernel
theorem dX12_otherEnd_7 : decode cX12_otherEnd 7 = .ok (.iadd, 1) := by decide +kernel
theorem dX12_otherEnd_8 : decode cX12_otherEnd 8 = .ok (.iaload, 1) := by decide +kernel
theorem dX12_otherEnd_9 : decode cX12_otherEnd 9 = .ok (.iload_n 2, 1) := by decide +kernel
theorem dX12_otherEnd_10 : decode cX12_otherEnd 10 = .ok (.if_icmp .ne 15, 3) := by decide +kernel
theorem dX12_otherEnd_13 : decode cX12_otherEnd 13 = .ok (.aload_n 0, 1) := by decide +kernel
theorem dX12_otherEnd_14 : decode cX12_otherEnd 14 = .ok (.getfield 98, 3) := by decide +kernel
theorem dX12_otherEnd_17 : decode cX12_otherEnd 17 = .ok (.bipush 18, 2) := by decide +kernel
theorem dX12_otherEnd_19 : decode cX12_otherEnd 19 = .ok (.iload_n 1, 1) := by decide +kernel
theorem dX12_otherEnd_20 : decode cX12_otherEnd 20 = .ok (.iadd, 1) := by decide +kernel
theorem dX12_otherEnd_21 : decode cX12_otherEnd 21 = .ok (.iaload, 1) := by decide +kernel
theorem dX12_otherEnd_22 : decode cX12_otherEnd 22 = .ok (.goto 29, 3) := by decide +kernel
theorem dX12_otherEnd_25 : decode cX12_otherEnd 25 = .ok (.aload_n 0, 1) := by decide +kernel
theorem dX12_otherEnd_26 : decode cX12_otherEnd 26 = .ok (.getfield 98, 3) := by decide +kernel
theorem dX12_otherEnd_29 : decode cX12_otherEnd 29 = .ok (.bipush 18, 2) := by decide +kernel
theorem dX12_otherEnd_31 : decode cX12_otherEnd 31 = .ok (.iload_n 1, 1) := by decide +kernel
theorem dX12_otherEnd_32 : decode cX12_otherEnd 32 = .ok (.iadd, 1) := by decide +kernel
theorem dX12_otherEnd_33 : decode cX12_otherEnd 33 = .ok (.iaload, 1) := by decide +kernel
theorem dX12_otherEnd_34 : decode cX12_otherEnd 34 = .ok (.iload_n 2, 1) := by decide +kernel
theorem dX12_otherEnd_35 : decode cX12_otherEnd 35 = .ok (.if_icmp .ne 15, 3) := by decide +kernel
theorem dX12_otherEnd_38 : decode cX12_otherEnd 38 = .ok (.aload_n 0, 1) := by decide +kernel
theorem dX12_otherEnd_39 : decode cX12_otherEnd 39 = .ok (.getfield 98, 3) := by decide +kernel
theorem dX12_otherEnd_42 : decode cX12_otherEnd 42 = .ok (.bipush 6, 2) := by decide +kernel
theorem dX12_otherEnd_44 : decode cX12_otherEnd 44 = .ok (.iload_n 1, 1) := by decide +kernel
theorem dX12_otherEnd_45 : decode cX12_otherEnd 45 = .ok (.iadd, 1) := by decide +kernel
theorem dX12_otherEnd_46 : decode cX12_otherEnd 46 = .ok (.iaload, 1) := by decide +kernel
theorem dX12_otherEnd_47 : decode cX12_otherEnd 47 = .ok (.goto 4, 3) := by decide +kernel
theorem dX12_otherEnd_50 : decode cX12_otherEnd 50 = .ok (.iconst (-1), 1) := by decide +kernel
theorem dX12_otherEnd_51 : decode cX12_otherEnd 51 = .ok (.ireturn, 1) := by decide +kernel
def f_X12_otherEnd (v0 : XM) (x0 : Int32) (x1 : Int32) : Option (Int32) :=
  x_ck ((6 : Int32) + x0) 353 (
  if ((x_ga v0 2 ((6 : Int32) + x0)) : Int32) = x1 then
  (x_ck ((18 : Int32) + x0) 353 (
  some (x_ga v0 2 ((18 : Int32) + x0) : Int32)))
  else (x_ck ((18 : Int32) + x0) 353 (
  if ((x_ga v0 2 ((18 : Int32) + x0)) : Int32) = x1 then
  (x_ck ((6 : Int32) + x0) 353 (
  some (x_ga v0 2 ((6 : Int32) + x0) : Int32)))
  else (some ((-1 : Int32) : Int32)))))
set_option maxRecDepth 100000 in
set_option maxHeartbeats 4000000 in
theorem c_X12_otherEnd {l : Launch}  {ad0 : Nat → Nat} {v0 : XM} {x0 : Int32} {x1 : Int32}  {o : Int32} (h : f_X12_otherEnd v0 x0 x1 = some o) : CT l yX12_otherEnd cX12_otherEnd 3 (some .int) 0 [(shModel, ad0)] [v0] (fun aK => [.ref (ad0 0), .int x0, .int x1]) (some (.int o)) True [v0] := by
  refine CT_of (by decide) (fun _ => Nat.le_of_ble_eq_true rfl) ?_
  intro p e s m args below meth c D tc aK aV A X
  have X : Cx p s m args meth c cX12_otherEnd 3 (some .int) RX12 D tc aK aV A [(shModel, ad0)] := X
  show aW p l e (x_Rm 0) s m args below meth c D tc A 3 [(shModel, ad0)] (some (.int o)) True [v0] 0 [(0, .ref (ad0 0)), (1, .int x0), (2, .int x1)] [] [v0]
  unfold f_X12_otherEnd at h
  refine a_aload_n (pc := 0) X 0 dX12_otherEnd_0 rfl rfl ?_
  refine a_getR (pc := 1) X 0 2 2 fl_RX12_98 rfl rfl rfl rfl rfl dX12_otherEnd_1 ?_
  refine a_bipush (pc := 4) X dX12_otherEnd_4 q_bp_6 ?_
  refine a_iload_n (pc := 6) X 1 dX12_otherEnd_6 rfl rfl ?_
  refine a_iadd (pc := 7) X dX12_otherEnd_7 ?_
  obtain ⟨c_8, h⟩ := x_ck_elim h
  refine a_iald (pc := 8) X 0 rfl rfl rfl c_8 dX12_otherEnd_8 ?_
  refine a_iload_n (pc := 9) X 2 dX12_otherEnd_9 rfl rfl ?_
  refine a_icmp_ne (pc := 10) X 25 dX12_otherEnd_10 rfl (fun c_10 => ?_) (fun c_10 => ?_)
  · have h := x_ifn c_10 h
    refine a_aload_n (pc := 25) X 0 dX12_otherEnd_25 rfl rfl ?_
    refine a_getR (pc := 26) X 0 2 2 fl_RX12_98 rfl rfl rfl rfl rfl dX12_otherEnd_26 ?_
    refine a_bipush (pc := 29) X dX12_otherEnd_29 q_bp_18 ?_
    refine a_iload_n (pc := 31) X 1 dX12_otherEnd_31 rfl rfl ?_
    refine a_iadd (pc := 32) X dX12_otherEnd_32 ?_
    obtain ⟨c_33, h⟩ := x_ck_elim h
    refine a_iald (pc := 33) X 0 rfl rfl rfl c_33 dX12_otherEnd_33 ?_
    refine a_iload_n (pc := 34) X 2 dX12_otherEnd_34 rfl rfl ?_
    refine a_icmp_ne (pc := 35) X 50 dX12_otherEnd_35 rfl (fun c_35 => ?_) (fun c_35 => ?_)
    · have h := x_ifn c_35 h
      refine a_iconst (pc := 50) X dX12_otherEnd_50 q_ic_m1 ?_
      have h := Option.some.inj h; subst h
      exact a_iret (pc := 51) X trivial dX12_otherEnd_51
    · have h := x_ifp c_35 h
      refine a_aload_n (pc := 38) X 0 dX12_otherEnd_38 rfl rfl ?_
      refine a_getR (pc := 39) X 0 2 2 fl_RX12_98 rfl rfl rfl rfl rfl dX12_otherEnd_39 ?_
      refine a_bipush (pc := 42) X dX12_otherEnd_42 q_bp_6 ?_
      refine a_iload_n (pc := 44) X 1 dX12_otherEnd_44 rfl rfl ?_
      refine a_iadd (pc := 45) X dX12_otherEnd_45 ?_
      obtain ⟨c_46, h⟩ := x_ck_elim h
      refine a_iald (pc := 46) X 0 rfl rfl rfl c_46 dX12_otherEnd_46 ?_
      refine a_goto (pc := 47) X 51 dX12_otherEnd_47 rfl ?_
      have h := Option.some.inj h; subst h
      exact a_iret (pc := 51) X trivial dX12_otherEnd_51
  · have h := x_ifp c_10 h
    refine a_aload_n (pc := 13) X 0 dX12_otherEnd_13 rfl rfl ?_
    refine a_getR (pc := 14) X 0 2 2 fl_RX12_98 rfl rfl rfl rfl rfl dX12_otherEnd_14 ?_
    refine a_bipush (pc := 17) X dX12_otherEnd_17 q_bp_18 ?_
    refine a_iload_n (pc := 19) X 1 dX12_otherEnd_19 rfl rfl ?_
    refine a_iadd (pc := 20) X dX12_otherEnd_20 ?_
    obtain ⟨c_21, h⟩ := x_ck_elim h
    refine a_iald (pc := 21) X 0 rfl rfl rfl c_21 dX12_otherEnd_21 ?_
    refine a_goto (pc := 22) X 51 dX12_otherEnd_22 rfl ?_
    have h := Option.some.inj h; subst h
    exact a_iret (pc := 51) X trivial dX12_otherEnd_51
theorem dX12_farBy_0 : decode cX12_farBy 0 = .ok (.aload_n 0, 1) := by decide +kernel
theorem dX12_farBy_1 : decode cX12_farBy 1 = .ok (.iload_n 1, 1) := by decide +kernel
theorem dX12_farBy_2 : decode cX12_farBy 2 = .ok (.iload_n 2, 1) := by decide +kernel
theorem dX12_farBy_3 : decode cX12_farBy 3 = .ok (.invokevirtual 252, 3) := by decide +kernel
theorem dX12_farBy_6 : decode cX12_farBy 6 = .ok (.istore 4, 2) := by decide +kernel
theorem dX12_farBy_8 : decode cX12_farBy 8 = .ok (.iload 4, 2) := by decide +kernel
theorem dX12_farBy_10 : decode cX12_farBy 10 = .ok (.iconst (-1), 1) := by decide +kernel
theorem dX12_farBy_11 : decode cX12_farBy 11 = .ok (.if_icmp .eq 28, 3) := by decide +kernel
theorem dX12_farBy_14 : decode cX12_farBy 14 = .ok (.aload_n 0, 1) := by decide +kernel
theorem dX12_farBy_15 : decode cX12_farBy 15 = .ok (.getfield 98, 3) := by decide +kernel
theorem dX12_farBy_18 : decode cX12_farBy 18 = .ok (.bipush 99, 2) := by decide +kernel
theorem dX12_farBy_20 : decode cX12_farBy 20 = .ok (.iload_n 1, 1) := by decide +kernel
theorem dX12_farBy_21 : decode cX12_farBy 21 = .ok (.iadd, 1) := by decide +kernel
theorem dX12_farBy_22 : decode cX12_farBy 22 = .ok (.iaload, 1) := by decide +kernel
theorem dX12_farBy_23 : decode cX12_farBy 23 = .ok (.ifCond .gt 16, 3) := by decide +kernel
theorem dX12_farBy_26 : decode cX12_farBy 26 = .ok (.aload_n 0, 1) := by decide +kernel
theorem dX12_farBy_27 : decode cX12_farBy 27 = .ok (.getfield 127, 3) := by decide +kernel
theorem dX12_farBy_30 : decode cX12_farBy 30 = .ok (.iload 4, 2) := by decide +kernel
theorem dX12_farBy_32 : decode cX12_farBy 32 = .ok (.iaload, 1) := by decide +kernel
theorem dX12_farBy_33 : decode cX12_farBy 33 = .ok (.ldc_w 256, 3) := by decide +kernel
theorem dX12_farBy_36 : decode cX12_farBy 36 = .ok (.if_icmp .lt 9, 3) := by decide +kernel
theorem dX12_farBy_39 : decode cX12_farBy 39 = .ok (.ldc_w 256, 3) := by decide +kernel
theorem dX12_farBy_42 : decode cX12_farBy 42 = .ok (.goto 22, 3) := by decide +kernel
theorem dX12_farBy_45 : decode cX12_farBy 45 = .ok (.aload_n 0, 1) := by decide +kernel
theorem dX12_farBy_46 : decode cX12_farBy 46 = .ok (.getfield 127, 3) := by decide +kernel
theorem dX12_farBy_49 : decode cX12_farBy 49 = .ok (.iload 4, 2) := by decide +kernel
theorem dX12_farBy_51 : decode cX12_farBy 51 = .ok (.iaload, 1) := by decide +kernel
theorem dX12_farBy_52 : decode cX12_farBy 52 = .ok (.bipush 100, 2) := by decide +kernel
theorem dX12_farBy_54 : decode cX12_farBy 54 = .ok (.aload_n 0, 1) := by decide +kernel
theorem dX12_farBy_55 : decode cX12_farBy 55 = .ok (.iload_n 1, 1) := by decide +kernel
theorem dX12_farBy_56 : decode cX12_farBy 56 = .ok (.iload_n 3, 1) := by decide +kernel
theorem dX12_farBy_57 : decode cX12_farBy 57 = .ok (.invokevirtual 257, 3) := by decide +kernel
theorem dX12_farBy_60 : decode cX12_farBy 60 = .ok (.imul, 1) := by decide +kernel
theorem dX12_farBy_61 : decode cX12_farBy 61 = .ok (.iadd, 1) := by decide +kernel
theorem dX12_farBy_62 : decode cX12_farBy 62 = .ok (.iconst 1, 1) := by decide +kernel
theorem dX12_farBy_63 : decode cX12_farBy 63 = .ok (.iadd, 1) := by decide +kernel
theorem dX12_farBy_64 : decode cX12_farBy 64 = .ok (.ireturn, 1) := by decide +kernel
def f_X12_farBy (v0 : XM) (x0 : Int32) (x1 : Int32) (x2 : Int32) : Option (Int32) :=
  x_bo (f_X12_otherEnd v0 x0 x1) (fun y1 =>
  if (y1 : Int32) = (-1 : Int32) then
  (some ((100000 : Int32) : Int32))
  else (x_ck ((99 : Int32) + x0) 353 (
  if (0 : Int32) < (x_ga v0 2 ((99 : Int32) + x0)) then
  (some ((100000 : Int32) : Int32))
  else (x_ck y1 8 (
  if ((x_ga v0 11 y1) : Int32) < (100000 : Int32) then
  (x_ck y1 8 (
  x_bo (f_X12_hoursOf v0 x0 x2) (fun y2 =>
  x_lt (((x_ga v0 11 y1) + ((100 : Int32) * y2)) + (1 : Int32)) (fun y3 =>
  some (y3 : Int32)))))
  else (some ((100000 : Int32) : Int32)))))))
set_option maxRecDepth 100000 in
set_option maxHeartbeats 4000000 in
theorem c_X12_farBy {l : Launch}  {ad0 : Nat → Nat} {v0 : XM} {x0 : Int32} {x1 : Int32} {x2 : Int32}  {o : Int32} (h : f_X12_farBy v0 x0 x1 x2 = some o) : CT l yX12_farBy cX12_farBy 5 (some .int) 4 [(shModel, ad0)] [v0] (fun aK => [.ref (ad0 0), .int x0, .int x1, .int x2]) (some (.int o)) True [v0] := by
  refine CT_of (by decide) (fun _ => Nat.le_of_ble_eq_true rfl) ?_
  intro p e s m args below meth c D tc aK aV A X
  have X : Cx p s m args meth c cX12_farBy 5 (some .int) RX12 D tc aK aV A [(shModel, ad0)] := X
  show aW p l e (x_Rm 4) s m args below meth c D tc A 5 [(shModel, ad0)] (some (.int o)) True [v0] 0 [(0, .ref (ad0 0)), (1, .int x0), (2, .int x1), (3, .int x2)] [] [v0]
  unfold f_X12_farBy at h
  refine a_aload_n (pc := 0) X 0 dX12_farBy_0 rfl rfl ?_
  refine a_iload_n (pc := 1) X 1 dX12_farBy_1 rfl rfl ?_
  refine a_iload_n (pc := 2) X 2 dX12_farBy_2 rfl rfl ?_
  obtain ⟨y1, e_y1, h⟩ := x_bo_elim h
  refine a_callV (pc := 3) (st2 := [.int y1]) (vs2 := [v0]) X [(0, 0, 20)] [none] 0 0 12 [.int x0, .int x1] [] cv_RX12_252 (c_X12_otherEnd (ad0 := ad0)  e_y1) rfl rfl rfl rfl rfl rfl rfl rfl rfl rfl rfl rfl rfl rfl rfl (Nat.le_of_ble_eq_true rfl) ⟨Nat.le_of_ble_eq_true rfl, Nat.le_of_ble_eq_true rfl⟩ dX12_farBy_3 (fun _ => ?_)
  refine a_istore (pc := 6) X [(4, .int y1), (0, .ref (ad0 0)), (1, .int x0), (2, .int x1), (3, .int x2)] dX12_farBy_6 (by decide) rfl ?_
  refine a_iload (pc := 8) X 0 dX12_farBy_8 rfl ?_
  refine a_iconst (pc := 10) X dX12_farBy_10 q_ic_m1 ?_
  refine a_icmp_eq (pc := 11) X 39 dX12_farBy_11 rfl (fun c_11 => ?_) (fun c_11 => ?_)
  · have h := x_ifp c_11 h
    refine a_ldcw (pc := 39) X kc_RX12_256 dX12_farBy_39 ?_
    refine a_goto (pc := 42) X 64 dX12_farBy_42 rfl ?_
    have h := Option.some.inj h; subst h
    exact a_iret (pc := 64) X trivial dX12_farBy_64
  · have h := x_ifn c_11 h
    refine a_aload_n (pc := 14) X 1 dX12_farBy_14 rfl rfl ?_
    refine a_getR (pc := 15) X 0 2 2 fl_RX12_98 rfl rfl rfl rfl rfl dX12_farBy_15 ?_
    refine a_bipush (pc := 18) X dX12_farBy_18 q_bp_99 ?_
    refine a_iload_n (pc := 20) X 2 dX12_farBy_20 rfl rfl ?_
    refine a_iadd (pc := 21) X dX12_farBy_21 ?_
    obtain ⟨c_22, h⟩ := x_ck_elim h
    refine a_iald (pc := 22) X 0 rfl rfl rfl c_22 dX12_farBy_22 ?_
    refine a_if_gt (pc := 23) X 39 dX12_farBy_23 rfl (fun c_23 => ?_) (fun c_23 => ?_)
    · have h := x_ifp c_23 h
      refine a_ldcw (pc := 39) X kc_RX12_256 dX12_farBy_39 ?_
      refine a_goto (pc := 42) X 64 dX12_farBy_42 rfl ?_
      have h := Option.some.inj h; subst h
      exact a_iret (pc := 64) X trivial dX12_farBy_64
    · have h := x_ifn c_23 h
      refine a_aload_n (pc := 26) X 1 dX12_farBy_26 rfl rfl ?_
      refine a_getR (pc := 27) X 0 11 11 fl_RX12_127 rfl rfl rfl rfl rfl dX12_farBy_27 ?_
      refine a_iload (pc := 30) X 0 dX12_farBy_30 rfl ?_
      obtain ⟨c_32, h⟩ := x_ck_elim h
      refine a_iald (pc := 32) X 0 rfl rfl rfl c_32 dX12_farBy_32 ?_
      refine a_ldcw (pc := 33) X kc_RX12_256 dX12_farBy_33 ?_
      refine a_icmp_lt (pc := 36) X 45 dX12_farBy_36 rfl (fun c_36 => ?_) (fun c_36 => ?_)
      · have h := x_ifp c_36 h
        refine a_aload_n (pc := 45) X 1 dX12_farBy_45 rfl rfl ?_
        refine a_getR (pc := 46) X 0 11 11 fl_RX12_127 rfl rfl rfl rfl rfl dX12_farBy_46 ?_
        refine a_iload (pc := 49) X 0 dX12_farBy_49 rfl ?_
        obtain ⟨c_51, h⟩ := x_ck_elim h
        refine a_iald (pc := 51) X 0 rfl rfl rfl c_51 dX12_farBy_51 ?_
        refine a_bipush (pc := 52) X dX12_farBy_52 q_bp_100 ?_
        refine a_aload_n (pc := 54) X 1 dX12_farBy_54 rfl rfl ?_
        refine a_iload_n (pc := 55) X 2 dX12_farBy_55 rfl rfl ?_
        refine a_iload_n (pc := 56) X 4 dX12_farBy_56 rfl rfl ?_
        obtain ⟨y2, e_y2, h⟩ := x_bo_elim h
        refine a_callV (pc := 57) (st2 := [.int y2, .int (100 : Int32), .int (x_ga v0 11 y1)]) (vs2 := [v0]) X [(0, 0, 20)] [none] 0 0 12 [.int x0, .int x2] [.int (100 : Int32), .int (x_ga v0 11 y1)] cv_RX12_257 (c_X12_hoursOf (ad0 := ad0)  e_y2) rfl rfl rfl rfl rfl rfl rfl rfl rfl rfl rfl rfl rfl rfl rfl (Nat.le_of_ble_eq_true rfl) ⟨Nat.le_of_ble_eq_true rfl, Nat.le_of_ble_eq_true rfl⟩ dX12_farBy_57 (fun _ => ?_)
        refine a_imul (pc := 60) X dX12_farBy_60 ?_
        refine a_iadd (pc := 61) X dX12_farBy_61 ?_
        refine a_iconst (pc := 62) X dX12_farBy_62 q_ic_1 ?_
        refine a_iadd (pc := 63) X dX12_farBy_63 ?_
        obtain ⟨y3, e_y3, h⟩ := x_lt_elim h
        refine a_ni e_y3 ?_
        have h := Option.some.inj h; subst h
        exact a_iret (pc := 64) X trivial dX12_farBy_64
      · have h := x_ifn c_36 h
        refine a_ldcw (pc := 39) X kc_RX12_256 dX12_farBy_39 ?_
        refine a_goto (pc := 42) X 64 dX12_farBy_42 rfl ?_
        have h := Option.some.inj h; subst h
        exact a_iret (pc := 64) X trivial dX12_farBy_64
theorem dX12_layFar_0 : decode cX12_layFar 0 = .ok (.iconst 0, 1) := by decide +kernel
theorem dX12_layFar_1 : decode cX12_layFar 1 = .ok (.istore_n 3, 1) := by decide +kernel
theorem dX12_layFar_2 : decode cX12_layFar 2 = .ok (.iload_n 3, 1) := by decide +kernel
theorem dX12_layFar_3 : decode cX12_layFar 3 = .ok (.bipush 8, 2) := by decide +kernel
theorem dX12_layFar_5 : decode cX12_layFar 5 = .ok (.if_icmp .ge 18, 3) := by decide +kernel
theorem dX12_layFar_8 : decode cX12_layFar 8 = .ok (.aload_n 0, 1) := by decide +kernel
theorem dX12_layFar_9 : decode cX12_layFar 9 = .ok (.getfield 127, 3) := by decide +kernel
theorem dX12_layFar_12 : decode cX12_layFar 12 = .ok (.iload_n 3, 1) := by decide +kernel
theorem dX12_layFar_13 : decode cX12_layFar 13 = .ok (.ldc_w 256, 3) := by decide +kernel
theorem dX12_layFar_16 : decode cX12_layFar 16 = .ok (.iastore, 1) := by decide +kernel
theorem dX12_layFar_17 : decode cX12_layFar 17 = .ok (.iinc 3 1, 3) := by decide +kernel
theorem dX12_layFar_20 : decode cX12_layFar 20 = .ok (.goto (-18), 3) := by decide +kernel
theorem dX12_layFar_23 : decode cX12_layFar 23 = .ok (.aload_n 0, 1) := by decide +kernel
theorem dX12_layFar_24 : decode cX12_layFar 24 = .ok (.getfield 127, 3) := by decide +kernel
theorem dX12_layFar_27 : decode cX12_layFar 27 = .ok (.iload_n 1, 1) := by decide +kernel
theorem dX12_layFar_28 : decode cX12_layFar 28 = .ok (.iconst 0, 1) := by decide +kernel
theorem dX12_layFar_29 : decode cX12_layFar 29 = .ok (.iastore, 1) := by decide +kernel
theorem dX12_layFar_30 : decode cX12_layFar 30 = .ok (.iconst 1, 1) := by decide +kernel
theorem dX12_layFar_31 : decode cX12_layFar 31 = .ok (.istore_n 3, 1) := by decide +kernel
theorem dX12_layFar_32 : decode cX12_layFar 32 = .ok (.iload_n 3, 1) := by decide +kernel
theorem dX12_layFar_33 : decode cX12_layFar 33 = .ok (.ifCond .eq 85, 3) := by decide +kernel
theorem dX12_layFar_36 : decode cX12_layFar 36 = .ok (.iconst 0, 1) := by decide +kernel
theorem dX12_layFar_37 : decode cX12_layFar 37 = .ok (.istore_n 3, 1) := by decide +kernel
theorem dX12_layFar_38 : decode cX12_layFar 38 = .ok (.iconst 0, 1) := by decide +kernel
theorem dX12_layFar_39 : decode cX12_layFar 39 = .ok (.istore 4, 2) := by decide +kernel
theorem dX12_layFar_41 : decode cX12_layFar 41 = .ok (.iload 4, 2) := by decide +kernel
theorem dX12_layFar_43 : decode cX12_layFar 43 = .ok (.aload_n 0, 1) := by decide +kernel
theorem dX12_layFar_44 : decode cX12_layFar 44 = .ok (.getfield 98, 3) := by decide +kernel
theorem dX12_layFar_47 : decode cX12_layFar 47 = .ok (.iconst 0, 1) := by decide +kernel
theorem dX12_layFar_48 : decode cX12_layFar 48 = .ok (.iaload, 1) := by decide +kernel
theorem dX12_layFar_49 : decode cX12_layFar 49 = .ok (.if_icmp .ge 66, 3) := by decide +kernel
theorem dX12_layFar_52 : decode cX12_layFar 52 = .ok (.iconst 0, 1) := by decide +kernel
theorem dX12_layFar_53 : decode cX12_layFar 53 = .ok (.istore 5, 2) := by decide +kernel
theorem dX12_layFar_55 : decode cX12_layFar 55 = .ok (.iload 5, 2) := by decide +kernel
theorem dX12_layFar_57 : decode cX12_layFar 57 = .ok (.aload_n 0, 1) := by decide +kernel
theorem dX12_layFar_58 : decode cX12_layFar 58 = .ok (.getfield 98, 3) := by decide +kernel
theorem dX12_layFar_61 : decode cX12_layFar 61 = .ok (.iconst 1, 1) := by decide +kernel
theorem dX12_layFar_62 : decode cX12_layFar 62 = .ok (.iaload, 1) := by decide +kernel
theorem dX12_layFar_63 : decode cX12_layFar 63 = .ok (.if_icmp .ge 46, 3) := by decide +kernel
theorem dX12_layFar_66 : decode cX12_layFar 66 = .ok (.aload_n 0, 1) := by decide +kernel
theorem dX12_layFar_67 : decode cX12_layFar 67 = .ok (.iload 5, 2) := by decide +kernel
theorem dX12_layFar_69 : decode cX12_layFar 69 = .ok (.iload 4, 2) := by decide +kernel
theorem dX12_layFar_71 : decode cX12_layFar 71 = .ok (.iload_n 2, 1) := by decide +kernel
theorem dX12_layFar_72 : decode cX12_layFar 72 = .ok (.invokevirtual 260, 3) := by decide +kernel
theorem dX12_layFar_75 : decode cX12_layFar 75 = .ok (.istore 6, 2) := by decide +kernel
theorem dX12_layFar_77 : decode cX12_layFar 77 = .ok (.iload 6, 2) := by decide +kernel
theorem dX12_layFar_79 : decode cX12_layFar 79 = .ok (.aload_n 0, 1) := by decide +kernel
theorem dX12_layFar_80 : decode cX12_layFar 80 = .ok (.getfield 127, 3) := by decide +kernel
theorem dX12_layFar_83 : decode cX12_layFar 83 = .ok (.iload 4, 2) := by decide +kernel
theorem dX12_layFar_85 : decode cX12_layFar 85 = .ok (.iaload, 1) := by decide +kernel
theorem dX12_layFar_86 : decode cX12_layFar 86 = .ok (.if_icmp .lt 6, 3) := by decide +kernel
theorem dX12_layFar_89 : decode cX12_layFar 89 = .ok (.goto 14, 3) := by decide +kernel
theorem dX12_layFar_92 : decode cX12_layFar 92 = .ok (.aload_n 0, 1) := by decide +kernel
theorem dX12_layFar_93 : decode cX12_layFar 93 = .ok (.getfield 127, 3) := by decide +kernel
theorem dX12_layFar_96 : decode cX12_layFar 96 = .ok (.iload 4, 2) := by decide +kernel
theorem dX12_layFar_98 : decode cX12_layFar 98 = .ok (.iload 6, 2) := by decide +kernel
theorem dX12_layFar_100 : decode cX12_layFar 100 = .ok (.iastore, 1) := by decide +kernel
theorem dX12_layFar_101 : decode cX12_layFar 101 = .ok (.iconst 1, 1) := by decide +kernel
theorem dX12_layFar_102 : decode cX12_layFar 102 = .ok (.istore_n 3, 1) := by decide +kernel
theorem dX12_layFar_103 : decode cX12_layFar 103 = .ok (.iinc 5 1, 3) := by decide +kernel
theorem dX12_layFar_106 : decode cX12_layFar 106 = .ok (.goto (-51), 3) := by decide +kernel
theorem dX12_layFar_109 : decode cX12_layFar 109 = .ok (.iinc 4 1, 3) := by decide +kernel
theorem dX12_layFar_112 : decode cX12_layFar 112 = .ok (.goto (-71), 3) := by decide +kernel
theorem dX12_layFar_115 : decode cX12_layFar 115 = .ok (.goto (-83), 3) := by decide +kernel
theorem dX12_layFar_118 : decode cX12_layFar 118 = .ok (.return_, 1) := by decide +kernel
def f_X12_layFar_103 (k32 : XM → Int32 → Int32 → Option (XM)) (k41 : XM → Int32 → Int32 → Int32 → Option (XM)) (k55 : XM → Int32 → Int32 → Int32 → Int32 → Option (XM)) (w0 : XM) (l2 : Int32) (l3 : Int32) (l4 : Int32) (l5 : Int32) : Option (XM) :=
  k55 w0 l2 l3 l4 (l5 + 1)
def f_X12_layFar_55 (k32 : XM → Int32 → Int32 → Option (XM)) (k41 : XM → Int32 → Int32 → Int32 → Option (XM)) (k55 : XM → Int32 → Int32 → Int32 → Int32 → Option (XM)) (w0 : XM) (l2 : Int32) (l3 : Int32) (l4 : Int32) (l5 : Int32) : Option (XM) :=
  if ((x_ga w0 2 (1 : Int32)) : Int32) ≤ l5 then
  (k41 w0 l2 l3 (l4 + 1))
  else (x_bo (f_X12_farBy w0 l5 l4 l2) (fun y1 =>
  x_ck l4 8 (
  if (y1 : Int32) < (x_ga w0 11 l4) then
  (x_ck l4 8 (
  x_lt (x_pa w0 11 l4 y1) (fun m2 =>
  f_X12_layFar_103  k32 k41 k55 m2 l2 (1 : Int32) l4 l5)))
  else (f_X12_layFar_103  k32 k41 k55 w0 l2 l3 l4 l5))))
def f_X12_layFar_41 (k32 : XM → Int32 → Int32 → Option (XM)) (k41 : XM → Int32 → Int32 → Int32 → Option (XM)) (w0 : XM) (l2 : Int32) (l3 : Int32) (l4 : Int32) : Option (XM) :=
  if ((x_ga w0 2 (0 : Int32)) : Int32) ≤ l4 then
  (k32 w0 l2 l3)
  else (x_lp (φ := XM → Int32 → Int32 → Int32 → Int32 → Option (XM)) (fun _ _ _ _ _ => none) (f_X12_layFar_55  k32 k41) x_NN w0 l2 l3 l4 (0 : Int32))
def f_X12_layFar_32 (k32 : XM → Int32 → Int32 → Option (XM)) (w0 : XM) (l2 : Int32) (l3 : Int32) : Option (XM) :=
  if l3 = (0 : Int32) then
  (some w0)
  else (x_lp (φ := XM → Int32 → Int32 → Int32 → Option (XM)) (fun _ _ _ _ => none) (f_X12_layFar_41  k32) x_NN w0 l2 (0 : Int32) (0 : Int32))
def f_X12_layFar_2 (k2 : XM → Int32 → Int32 → Int32 → Option (XM)) (w0 : XM) (l1 : Int32) (l2 : Int32) (l3 : Int32) : Option (XM) :=
  if ((8 : Int32) : Int32) ≤ l3 then
  (x_ck l1 8 (
  x_lt (x_pa w0 11 l1 (0 : Int32)) (fun m3 =>
  x_lp (φ := XM → Int32 → Int32 → Option (XM)) (fun _ _ _ => none) (f_X12_layFar_32  ) x_NN m3 l2 (1 : Int32))))
  else (x_ck l3 8 (
  x_lt (x_pa w0 11 l3 (100000 : Int32)) (fun m4 =>
  k2 m4 l1 l2 (l3 + 1))))
def f_X12_layFar (v0 : XM) (x0 : Int32) (x1 : Int32) : Option (XM) :=
  x_lp (φ := XM → Int32 → Int32 → Int32 → Option (XM)) (fun _ _ _ _ => none) (f_X12_layFar_2  ) x_NN v0 x0 x1 (0 : Int32)
set_option maxRecDepth 100000 in
set_option maxHeartbeats 4000000 in
theorem w_X12_layFar_103 {p : Program} {l : Launch} {e : Env} {s : State} {m : MethodId} {args : Array Value} {below : List Frame} {meth : Method} {c : Code} {D : va_G} {tc : Nat → ClassId} {aK aV : Nat → Nat} {A : Nat → Prop} {ad0 : Nat → Nat}  (X : Cx p s m args meth c cX12_layFar 7 none RX12 D tc aK aV A [(shModel, ad0)])  {o : XM} {k32 : XM → Int32 → Int32 → Option (XM)} {k41 : XM → Int32 → Int32 → Int32 → Option (XM)} {k55 : XM → Int32 → Int32 → Int32 → Int32 → Option (XM)} (hk32 : ∀ (w0 : XM) (l2 : Int32) (l3 : Int32), k32 w0 l2 l3 = some o → aW p l e (x_Rm 5) s m args below meth c D tc A 7 [(shModel, ad0)] none True [o] 32 [(0, .ref (ad0 0)), (2, .int l2), (3, .int l3)] [] [w0]) (hk41 : ∀ (w0 : XM) (l2 : Int32) (l3 : Int32) (l4 : Int32), k41 w0 l2 l3 l4 = some o → aW p l e (x_Rm 5) s m args below meth c D tc A 7 [(shModel, ad0)] none True [o] 41 [(0, .ref (ad0 0)), (2, .int l2), (3, .int l3), (4, .int l4)] [] [w0]) (hk55 : ∀ (w0 : XM) (l2 : Int32) (l3 : Int32) (l4 : Int32) (l5 : Int32), k55 w0 l2 l3 l4 l5 = some o → aW p l e (x_Rm 5) s m args below meth c D tc A 7 [(shModel, ad0)] none True [o] 55 [(0, .ref (ad0 0)), (2, .int l2), (3, .int l3), (4, .int l4), (5, .int l5)] [] [w0]) {w0 : XM} {l2 : Int32} {l3 : Int32} {l4 : Int32} {l5 : Int32}  (h : f_X12_layFar_103  k32 k41 k55 w0 l2 l3 l4 l5 = some o) : aW p l e (x_Rm 5) s m args below meth c D tc A 7 [(shModel, ad0)] none True [o] 103 [(0, .ref (ad0 0)), (2, .int l2), (3, .int l3), (4, .int l4), (5, .int l5)] [] [w0] := by
  unfold f_X12_layFar_103 at h
  refine a_iinc (pc := 103) X 4 [(5, .int (l5 + 1)), (0, .ref (ad0 0)), (2, .int l2), (3, .int l3), (4, .int l4)] dX12_layFar_103 rfl (congrArg (HAdd.hAdd l5) q_ic_1) (by decide) rfl ?_
  refine a_goto (pc := 106) X 55 dX12_layFar_106 rfl ?_
  refine a_sub [1, 2, 3, 4, 0] rfl ?_
  exact hk55 _ _ _ _ _ h
set_option maxRecDepth 100000 in
set_option maxHeartbeats 4000000 in
theorem w_X12_layFar_55 {p : Program} {l : Launch} {e : Env} {s : State} {m : MethodId} {args : Array Value} {below : List Frame} {meth : Method} {c : Code} {D : va_G} {tc : Nat → ClassId} {aK aV : Nat → Nat} {A : Nat → Prop} {ad0 : Nat → Nat}  (X : Cx p s m args meth c cX12_layFar 7 none RX12 D tc aK aV A [(shModel, ad0)])  {o : XM} {k32 : XM → Int32 → Int32 → Option (XM)} {k41 : XM → Int32 → Int32 → Int32 → Option (XM)} (hk32 : ∀ (w0 : XM) (l2 : Int32) (l3 : Int32), k32 w0 l2 l3 = some o → aW p l e (x_Rm 5) s m args below meth c D tc A 7 [(shModel, ad0)] none True [o] 32 [(0, .ref (ad0 0)), (2, .int l2), (3, .int l3)] [] [w0]) (hk41 : ∀ (w0 : XM) (l2 : Int32) (l3 : Int32) (l4 : Int32), k41 w0 l2 l3 l4 = some o → aW p l e (x_Rm 5) s m args below meth c D tc A 7 [(shModel, ad0)] none True [o] 41 [(0, .ref (ad0 0)), (2, .int l2), (3, .int l3), (4, .int l4)] [] [w0]) : ∀ (n : Nat), ∀ (w0 : XM) (l2 : Int32) (l3 : Int32) (l4 : Int32) (l5 : Int32), x_lp (φ := XM → Int32 → Int32 → Int32 → Int32 → Option (XM)) (fun _ _ _ _ _ => none) (f_X12_layFar_55  k32 k41) n w0 l2 l3 l4 l5 = some o → aW p l e (x_Rm 5) s m args below meth c D tc A 7 [(shModel, ad0)] none True [o] 55 [(0, .ref (ad0 0)), (2, .int l2), (3, .int l3), (4, .int l4), (5, .int l5)] [] [w0] := by
  intro n
  induction n with
  | zero => intro w0 l2 l3 l4 l5 h; exact absurd h (fun q => by cases q)
  | succ n ih =>
    intro w0 l2 l3 l4 l5 h
    have h : f_X12_layFar_55  k32 k41 (x_lp (φ := XM → Int32 → Int32 → Int32 → Int32 → Option (XM)) (fun _ _ _ _ _ => none) (f_X12_layFar_55  k32 k41) n) w0 l2 l3 l4 l5 = some o := h
    generalize x_lp (φ := XM → Int32 → Int32 → Int32 → Int32 → Option (XM)) (fun _ _ _ _ _ => none) (f_X12_layFar_55  k32 k41) n = k55 at h ih
    have hk55 := ih
    unfold f_X12_layFar_55 at h
    refine a_iload (pc := 55) X 4 dX12_layFar_55 rfl ?_
    refine a_aload_n (pc := 57) X 0 dX12_layFar_57 rfl rfl ?_
    refine a_getR (pc := 58) X 0 2 2 fl_RX12_98 rfl rfl rfl rfl rfl dX12_layFar_58 ?_
    refine a_iconst (pc := 61) X dX12_layFar_61 q_ic_1 ?_
    refine a_iald (pc := 62) X 0 rfl rfl rfl (x_inl (by decide)) dX12_layFar_62 ?_
    refine a_icmp_ge (pc := 63) X 109 dX12_layFar_63 rfl (fun c_63 => ?_) (fun c_63 => ?_)
    · have h := x_ifp c_63 h
      refine a_iinc (pc := 109) X 3 [(4, .int (l4 + 1)), (0, .ref (ad0 0)), (2, .int l2), (3, .int l3), (5, .int l5)] dX12_layFar_109 rfl (congrArg (HAdd.hAdd l4) q_ic_1) (by decide) rfl ?_
      refine a_goto (pc := 112) X 41 dX12_layFar_112 rfl ?_
      refine a_sub [1, 2, 3, 0] rfl ?_
      exact hk41 _ _ _ _ h
    · have h := x_ifn c_63 h
      refine a_aload_n (pc := 66) X 0 dX12_layFar_66 rfl rfl ?_
      refine a_iload (pc := 67) X 4 dX12_layFar_67 rfl ?_
      refine a_iload (pc := 69) X 3 dX12_layFar_69 rfl ?_
      refine a_iload_n (pc := 71) X 1 dX12_layFar_71 rfl rfl ?_
      obtain ⟨y1, e_y1, h⟩ := x_bo_elim h
      refine a_callV (pc := 72) (st2 := [.int y1]) (vs2 := [w0]) X [(0, 0, 20)] [none] 0 0 12 [.int l5, .int l4, .int l2] [] cv_RX12_260 (c_X12_farBy (ad0 := ad0)  e_y1) rfl rfl rfl rfl rfl rfl rfl rfl rfl rfl rfl rfl rfl rfl rfl (Nat.le_of_ble_eq_true rfl) ⟨Nat.le_of_ble_eq_true rfl, Nat.le_of_ble_eq_true rfl⟩ dX12_layFar_72 (fun _ => ?_)
      refine a_istore (pc := 75) X [(6, .int y1), (0, .ref (ad0 0)), (2, .int l2), (3, .int l3), (4, .int l4), (5, .int l5)] dX12_layFar_75 (by decide) rfl ?_
      refine a_iload (pc := 77) X 0 dX12_layFar_77 rfl ?_
      refine a_aload_n (pc := 79) X 1 dX12_layFar_79 rfl rfl ?_
      refine a_getR (pc := 80) X 0 11 11 fl_RX12_127 rfl rfl rfl rfl rfl dX12_layFar_80 ?_
      refine a_iload (pc := 83) X 4 dX12_layFar_83 rfl ?_
      obtain ⟨c_85, h⟩ := x_ck_elim h
      refine a_iald (pc := 85) X 0 rfl rfl rfl c_85 dX12_layFar_85 ?_
      refine a_icmp_lt (pc := 86) X 92 dX12_layFar_86 rfl (fun c_86 => ?_) (fun c_86 => ?_)
      · have h := x_ifp c_86 h
        refine a_aload_n (pc := 92) X 1 dX12_layFar_92 rfl rfl ?_
        refine a_getR (pc := 93) X 0 11 11 fl_RX12_127 rfl rfl rfl rfl rfl dX12_layFar_93 ?_
        refine a_iload (pc := 96) X 4 dX12_layFar_96 rfl ?_
        refine a_iload (pc := 98) X 0 dX12_layFar_98 rfl ?_
        obtain ⟨c_100, h⟩ := x_ck_elim h
        refine a_iast (pc := 100) X 0 rfl rfl rfl c_100 dX12_layFar_100 ?_
        obtain ⟨m2, e_m2, h⟩ := x_lt_elim h
        refine a_nm (vs2 := [m2]) (congrArg (fun q : XM => [q]) e_m2) ?_
        refine a_iconst (pc := 101) X dX12_layFar_101 q_ic_1 ?_
        refine a_istore_n (pc := 102) X [(3, .int (1 : Int32)), (6, .int y1), (0, .ref (ad0 0)), (2, .int l2), (4, .int l4), (5, .int l5)] dX12_layFar_102 rfl (by decide) rfl ?_
        refine a_sub [2, 3, 0, 4, 5] rfl ?_
        exact w_X12_layFar_103 X   hk32 hk41 hk55  h
      · have h := x_ifn c_86 h
        refine a_goto (pc := 89) X 103 dX12_layFar_89 rfl ?_
        refine a_sub [1, 2, 3, 4, 5] rfl ?_
        exact w_X12_layFar_103 X   hk32 hk41 hk55  h
set_option maxRecDepth 100000 in
set_option maxHeartbeats 4000000 in
theorem w_X12_layFar_41 {p : Program} {l : Launch} {e : Env} {s : State} {m : MethodId} {args : Array Value} {below : List Frame} {meth : Method} {c : Code} {D : va_G} {tc : Nat → ClassId} {aK aV : Nat → Nat} {A : Nat → Prop} {ad0 : Nat → Nat}  (X : Cx p s m args meth c cX12_layFar 7 none RX12 D tc aK aV A [(shModel, ad0)])  {o : XM} {k32 : XM → Int32 → Int32 → Option (XM)} (hk32 : ∀ (w0 : XM) (l2 : Int32) (l3 : Int32), k32 w0 l2 l3 = some o → aW p l e (x_Rm 5) s m args below meth c D tc A 7 [(shModel, ad0)] none True [o] 32 [(0, .ref (ad0 0)), (2, .int l2), (3, .int l3)] [] [w0]) : ∀ (n : Nat), ∀ (w0 : XM) (l2 : Int32) (l3 : Int32) (l4 : Int32), x_lp (φ := XM → Int32 → Int32 → Int32 → Option (XM)) (fun _ _ _ _ => none) (f_X12_layFar_41  k32) n w0 l2 l3 l4 = some o → aW p l e (x_Rm 5) s m args below meth c D tc A 7 [(shModel, ad0)] none True [o] 41 [(0, .ref (ad0 0)), (2, .int l2), (3, .int l3), (4, .int l4)] [] [w0] := by
  intro n
  induction n with
  | zero => intro w0 l2 l3 l4 h; exact absurd h (fun q => by cases q)
  | succ n ih =>
    intro w0 l2 l3 l4 h
    have h : f_X12_layFar_41  k32 (x_lp (φ := XM → Int32 → Int32 → Int32 → Option (XM)) (fun _ _ _ _ => none) (f_X12_layFar_41  k32) n) w0 l2 l3 l4 = some o := h
    generalize x_lp (φ := XM → Int32 → Int32 → Int32 → Option (XM)) (fun _ _ _ _ => none) (f_X12_layFar_41  k32) n = k41 at h ih
    have hk41 := ih
    unfold f_X12_layFar_41 at h
    refine a_iload (pc := 41) X 3 dX12_layFar_41 rfl ?_
    refine a_aload_n (pc := 43) X 0 dX12_layFar_43 rfl rfl ?_
    refine a_getR (pc := 44) X 0 2 2 fl_RX12_98 rfl rfl rfl rfl rfl dX12_layFar_44 ?_
    refine a_iconst (pc := 47) X dX12_layFar_47 q_ic_0 ?_
    refine a_iald (pc := 48) X 0 rfl rfl rfl (x_inl (by decide)) dX12_layFar_48 ?_
    refine a_icmp_ge (pc := 49) X 115 dX12_layFar_49 rfl (fun c_49 => ?_) (fun c_49 => ?_)
    · have h := x_ifp c_49 h
      refine a_goto (pc := 115) X 32 dX12_layFar_115 rfl ?_
      refine a_sub [0, 1, 2] rfl ?_
      exact hk32 _ _ _ h
    · have h := x_ifn c_49 h
      refine a_iconst (pc := 52) X dX12_layFar_52 q_ic_0 ?_
      refine a_istore (pc := 53) X [(5, .int (0 : Int32)), (0, .ref (ad0 0)), (2, .int l2), (3, .int l3), (4, .int l4)] dX12_layFar_53 (by decide) rfl ?_
      refine a_sub [1, 2, 3, 4, 0] rfl ?_
      exact w_X12_layFar_55 X   hk32 hk41 x_NN _ _ _ _ _ h
set_option maxRecDepth 100000 in
set_option maxHeartbeats 4000000 in
theorem w_X12_layFar_32 {p : Program} {l : Launch} {e : Env} {s : State} {m : MethodId} {args : Array Value} {below : List Frame} {meth : Method} {c : Code} {D : va_G} {tc : Nat → ClassId} {aK aV : Nat → Nat} {A : Nat → Prop} {ad0 : Nat → Nat}  (X : Cx p s m args meth c cX12_layFar 7 none RX12 D tc aK aV A [(shModel, ad0)])  {o : XM}  : ∀ (n : Nat), ∀ (w0 : XM) (l2 : Int32) (l3 : Int32), x_lp (φ := XM → Int32 → Int32 → Option (XM)) (fun _ _ _ => none) (f_X12_layFar_32  ) n w0 l2 l3 = some o → aW p l e (x_Rm 5) s m args below meth c D tc A 7 [(shModel, ad0)] none True [o] 32 [(0, .ref (ad0 0)), (2, .int l2), (3, .int l3)] [] [w0] := by
  intro n
  induction n with
  | zero => intro w0 l2 l3 h; exact absurd h (fun q => by cases q)
  | succ n ih =>
    intro w0 l2 l3 h
    have h : f_X12_layFar_32   (x_lp (φ := XM → Int32 → Int32 → Option (XM)) (fun _ _ _ => none) (f_X12_layFar_32  ) n) w0 l2 l3 = some o := h
    generalize x_lp (φ := XM → Int32 → Int32 → Option (XM)) (fun _ _ _ => none) (f_X12_layFar_32  ) n = k32 at h ih
    have hk32 := ih
    unfold f_X12_layFar_32 at h
    refine a_iload_n (pc := 32) X 2 dX12_layFar_32 rfl rfl ?_
    refine a_if_eq (pc := 33) X 118 dX12_layFar_33 rfl (fun c_33 => ?_) (fun c_33 => ?_)
    · have h := x_ifp c_33 h
      have h := Option.some.inj h; subst h
      exact a_vret (pc := 118) X trivial dX12_layFar_118
    · have h := x_ifn c_33 h
      refine a_iconst (pc := 36) X dX12_layFar_36 q_ic_0 ?_
      refine a_istore_n (pc := 37) X [(3, .int (0 : Int32)), (0, .ref (ad0 0)), (2, .int l2)] dX12_layFar_37 rfl (by decide) rfl ?_
      refine a_iconst (pc := 38) X dX12_layFar_38 q_ic_0 ?_
      refine a_istore (pc := 39) X [(4, .int (0 : Int32)), (3, .int (0 : Int32)), (0, .ref (ad0 0)), (2, .int l2)] dX12_layFar_39 (by decide) rfl ?_
      refine a_sub [2, 3, 1, 0] rfl ?_
      exact w_X12_layFar_41 X   hk32 x_NN _ _ _ _ h
set_option maxRecDepth 100000 in
set_option maxHeartbeats 4000000 in
theorem w_X12_layFar_2 {p : Program} {l : Launch} {e : Env} {s : State} {m : MethodId} {args : Array Value} {below : List Frame} {meth : Method} {c : Code} {D : va_G} {tc : Nat → ClassId} {aK aV : Nat → Nat} {A : Nat → Prop} {ad0 : Nat → Nat}  (X : Cx p s m args meth c cX12_layFar 7 none RX12 D tc aK aV A [(shModel, ad0)])  {o : XM}  : ∀ (n : Nat), ∀ (w0 : XM) (l1 : Int32) (l2 : Int32) (l3 : Int32), x_lp (φ := XM → Int32 → Int32 → Int32 → Option (XM)) (fun _ _ _ _ => none) (f_X12_layFar_2  ) n w0 l1 l2 l3 = some o → aW p l e (x_Rm 5) s m args below meth c D tc A 7 [(shModel, ad0)] none True [o] 2 [(0, .ref (ad0 0)), (1, .int l1), (2, .int l2), (3, .int l3)] [] [w0] := by
  intro n
  induction n with
  | zero => intro w0 l1 l2 l3 h; exact absurd h (fun q => by cases q)
  | succ n ih =>
    intro w0 l1 l2 l3 h
    have h : f_X12_layFar_2   (x_lp (φ := XM → Int32 → Int32 → Int32 → Option (XM)) (fun _ _ _ _ => none) (f_X12_layFar_2  ) n) w0 l1 l2 l3 = some o := h
    generalize x_lp (φ := XM → Int32 → Int32 → Int32 → Option (XM)) (fun _ _ _ _ => none) (f_X12_layFar_2  ) n = k2 at h ih
    have hk2 := ih
    unfold f_X12_layFar_2 at h
    refine a_iload_n (pc := 2) X 3 dX12_layFar_2 rfl rfl ?_
    refine a_bipush (pc := 3) X dX12_layFar_3 q_bp_8 ?_
    refine a_icmp_ge (pc := 5) X 23 dX12_layFar_5 rfl (fun c_5 => ?_) (fun c_5 => ?_)
    · have h := x_ifp c_5 h
      refine a_aload_n (pc := 23) X 0 dX12_layFar_23 rfl rfl ?_
      refine a_getR (pc := 24) X 0 11 11 fl_RX12_127 rfl rfl rfl rfl rfl dX12_layFar_24 ?_
      refine a_iload_n (pc := 27) X 1 dX12_layFar_27 rfl rfl ?_
      refine a_iconst (pc := 28) X dX12_layFar_28 q_ic_0 ?_
      obtain ⟨c_29, h⟩ := x_ck_elim h
      refine a_iast (pc := 29) X 0 rfl rfl rfl c_29 dX12_layFar_29 ?_
      obtain ⟨m3, e_m3, h⟩ := x_lt_elim h
      refine a_nm (vs2 := [m3]) (congrArg (fun q : XM => [q]) e_m3) ?_
      refine a_iconst (pc := 30) X dX12_layFar_30 q_ic_1 ?_
      refine a_istore_n (pc := 31) X [(3, .int (1 : Int32)), (0, .ref (ad0 0)), (1, .int l1), (2, .int l2)] dX12_layFar_31 rfl (by decide) rfl ?_
      refine a_sub [1, 3, 0] rfl ?_
      exact w_X12_layFar_32 X    x_NN _ _ _ h
    · have h := x_ifn c_5 h
      refine a_aload_n (pc := 8) X 0 dX12_layFar_8 rfl rfl ?_
      refine a_getR (pc := 9) X 0 11 11 fl_RX12_127 rfl rfl rfl rfl rfl dX12_layFar_9 ?_
      refine a_iload_n (pc := 12) X 3 dX12_layFar_12 rfl rfl ?_
      refine a_ldcw (pc := 13) X kc_RX12_256 dX12_layFar_13 ?_
      obtain ⟨c_16, h⟩ := x_ck_elim h
      refine a_iast (pc := 16) X 0 rfl rfl rfl c_16 dX12_layFar_16 ?_
      obtain ⟨m4, e_m4, h⟩ := x_lt_elim h
      refine a_nm (vs2 := [m4]) (congrArg (fun q : XM => [q]) e_m4) ?_
      refine a_iinc (pc := 17) X 3 [(3, .int (l3 + 1)), (0, .ref (ad0 0)), (1, .int l1), (2, .int l2)] dX12_layFar_17 rfl (congrArg (HAdd.hAdd l3) q_ic_1) (by decide) rfl ?_
      refine a_goto (pc := 20) X 2 dX12_layFar_20 rfl ?_
      refine a_sub [1, 2, 3, 0] rfl ?_
      exact hk2 _ _ _ _ h
set_option maxRecDepth 100000 in
set_option maxHeartbeats 4000000 in
theorem c_X12_layFar {l : Launch}  {ad0 : Nat → Nat} {v0 : XM} {x0 : Int32} {x1 : Int32}  {o : XM} (h : f_X12_layFar v0 x0 x1 = some o) : CT l yX12_layFar cX12_layFar 7 none 5 [(shModel, ad0)] [v0] (fun aK => [.ref (ad0 0), .int x0, .int x1]) none True [o] := by
  refine CT_of (by decide) (fun _ => Nat.le_of_ble_eq_true rfl) ?_
  intro p e s m args below meth c D tc aK aV A X
  have X : Cx p s m args meth c cX12_layFar 7 none RX12 D tc aK aV A [(shModel, ad0)] := X
  show aW p l e (x_Rm 5) s m args below meth c D tc A 7 [(shModel, ad0)] none True [o] 0 [(0, .ref (ad0 0)), (1, .int x0), (2, .int x1)] [] [v0]
  unfold f_X12_layFar at h
  refine a_iconst (pc := 0) X dX12_layFar_0 q_ic_0 ?_
  refine a_istore_n (pc := 1) X [(3, .int (0 : Int32)), (0, .ref (ad0 0)), (1, .int x0), (2, .int x1)] dX12_layFar_1 rfl (by decide) rfl ?_
  refine a_sub [1, 2, 3, 0] rfl ?_
  exact w_X12_layFar_2 X    x_NN _ _ _ _ h
theorem dX12_hoursFrom_0 : decode cX12_hoursFrom 0 = .ok (.aload_n 0, 1) := by decide +kernel
theorem dX12_hoursFrom_1 : decode cX12_hoursFrom 1 = .ok (.getfield 127, 3) := by decide +kernel
theorem dX12_hoursFrom_4 : decode cX12_hoursFrom 4 = .ok (.iload_n 1, 1) := by decide +kernel
theorem dX12_hoursFrom_5 : decode cX12_hoursFrom 5 = .ok (.iaload, 1) := by decide +kernel
theorem dX12_hoursFrom_6 : decode cX12_hoursFrom 6 = .ok (.ldc_w 256, 3) := by decide +kernel
theorem dX12_hoursFrom_9 : decode cX12_hoursFrom 9 = .ok (.if_icmp .lt 9, 3) := by decide +kernel
theorem dX12_hoursFrom_12 : decode cX12_hoursFrom 12 = .ok (.ldc_w 256, 3) := by decide +kernel
theorem dX12_hoursFrom_15 : decode cX12_hoursFrom 15 = .ok (.goto 12, 3) := by decide +kernel
theorem dX12_hoursFrom_18 : decode cX12_hoursFrom 18 = .ok (.aload_n 0, 1) := by decide +kernel
theorem dX12_hoursFrom_19 : decode cX12_hoursFrom 19 = .ok (.getfield 127, 3) := by decide +kernel
theorem dX12_hoursFrom_22 : decode cX12_hoursFrom 22 = .ok (.iload_n 1, 1) := by decide +kernel
theorem dX12_hoursFrom_23 : decode cX12_hoursFrom 23 = .ok (.iaload, 1) := by decide +kernel
theorem dX12_hoursFrom_24 : decode cX12_hoursFrom 24 = .ok (.bipush 100, 2) := by decide +kernel
theorem dX12_hoursFrom_26 : decode cX12_hoursFrom 26 = .ok (.idiv, 1) := by decide +kernel
theorem dX12_hoursFrom_27 : decode cX12_hoursFrom 27 = .ok (.ireturn, 1) := by decide +kernel
def f_X12_hoursFrom (v0 : XM) (x0 : Int32) : Option (Int32) :=
  x_ck x0 8 (
  if ((x_ga v0 11 x0) : Int32) < (100000 : Int32) then
  (x_ck x0 8 (
  some ((x_ga v0 11 x0) / (100 : Int32) : Int32)))
  else (some ((100000 : Int32) : Int32)))
set_option maxRecDepth 100000 in
set_option maxHeartbeats 4000000 in
theorem c_X12_hoursFrom {l : Launch}  {ad0 : Nat → Nat} {v0 : XM} {x0 : Int32}  {o : Int32} (h : f_X12_hoursFrom v0 x0 = some o) : CT l yX12_hoursFrom cX12_hoursFrom 2 (some .int) 0 [(shModel, ad0)] [v0] (fun aK => [.ref (ad0 0), .int x0]) (some (.int o)) True [v0] := by
  refine CT_of (by decide) (fun _ => Nat.le_of_ble_eq_true rfl) ?_
  intro p e s m args below meth c D tc aK aV A X
  have X : Cx p s m args meth c cX12_hoursFrom 2 (some .int) RX12 D tc aK aV A [(shModel, ad0)] := X
  show aW p l e (x_Rm 0) s m args below meth c D tc A 2 [(shModel, ad0)] (some (.int o)) True [v0] 0 [(0, .ref (ad0 0)), (1, .int x0)] [] [v0]
  unfold f_X12_hoursFrom at h
  refine a_aload_n (pc := 0) X 0 dX12_hoursFrom_0 rfl rfl ?_
  refine a_getR (pc := 1) X 0 11 11 fl_RX12_127 rfl rfl rfl rfl rfl dX12_hoursFrom_1 ?_
  refine a_iload_n (pc := 4) X 1 dX12_hoursFrom_4 rfl rfl ?_
  obtain ⟨c_5, h⟩ := x_ck_elim h
  refine a_iald (pc := 5) X 0 rfl rfl rfl c_5 dX12_hoursFrom_5 ?_
  refine a_ldcw (pc := 6) X kc_RX12_256 dX12_hoursFrom_6 ?_
  refine a_icmp_lt (pc := 9) X 18 dX12_hoursFrom_9 rfl (fun c_9 => ?_) (fun c_9 => ?_)
  · have h := x_ifp c_9 h
    refine a_aload_n (pc := 18) X 0 dX12_hoursFrom_18 rfl rfl ?_
    refine a_getR (pc := 19) X 0 11 11 fl_RX12_127 rfl rfl rfl rfl rfl dX12_hoursFrom_19 ?_
    refine a_iload_n (pc := 22) X 1 dX12_hoursFrom_22 rfl rfl ?_
    obtain ⟨c_23, h⟩ := x_ck_elim h
    refine a_iald (pc := 23) X 0 rfl rfl rfl c_23 dX12_hoursFrom_23 ?_
    refine a_bipush (pc := 24) X dX12_hoursFrom_24 q_bp_100 ?_
    refine a_idiv (pc := 26) X (by decide) dX12_hoursFrom_26 ?_
    have h := Option.some.inj h; subst h
    exact a_iret (pc := 27) X trivial dX12_hoursFrom_27
  · have h := x_ifn c_9 h
    refine a_ldcw (pc := 12) X kc_RX12_256 dX12_hoursFrom_12 ?_
    refine a_goto (pc := 15) X 27 dX12_hoursFrom_15 rfl ?_
    have h := Option.some.inj h; subst h
    exact a_iret (pc := 27) X trivial dX12_hoursFrom_27
theorem dX12_reachesOf_0 : decode cX12_reachesOf 0 = .ok (.aload_n 0, 1) := by decide +kernel
theorem dX12_reachesOf_1 : decode cX12_reachesOf 1 = .ok (.aload_n 0, 1) := by decide +kernel
theorem dX12_reachesOf_2 : decode cX12_reachesOf 2 = .ok (.getfield 98, 3) := by decide +kernel
theorem dX12_reachesOf_5 : decode cX12_reachesOf 5 = .ok (.bipush 74, 2) := by decide +kernel
theorem dX12_reachesOf_7 : decode cX12_reachesOf 7 = .ok (.iload_n 1, 1) := by decide +kernel
theorem dX12_reachesOf_8 : decode cX12_reachesOf 8 = .ok (.iadd, 1) := by decide +kernel
theorem dX12_reachesOf_9 : decode cX12_reachesOf 9 = .ok (.iaload, 1) := by decide +kernel
theorem dX12_reachesOf_10 : decode cX12_reachesOf 10 = .ok (.aload_n 0, 1) := by decide +kernel
theorem dX12_reachesOf_11 : decode cX12_reachesOf 11 = .ok (.getfield 98, 3) := by decide +kernel
theorem dX12_reachesOf_14 : decode cX12_reachesOf 14 = .ok (.bipush 65, 2) := by decide +kernel
theorem dX12_reachesOf_16 : decode cX12_reachesOf 16 = .ok (.iload_n 1, 1) := by decide +kernel
theorem dX12_reachesOf_17 : decode cX12_reachesOf 17 = .ok (.iadd, 1) := by decide +kernel
theorem dX12_reachesOf_18 : decode cX12_reachesOf 18 = .ok (.iaload, 1) := by decide +kernel
theorem dX12_reachesOf_19 : decode cX12_reachesOf 19 = .ok (.invokevirtual 264, 3) := by decide +kernel
theorem dX12_reachesOf_22 : decode cX12_reachesOf 22 = .ok (.iconst 0, 1) := by decide +kernel
theorem dX12_reachesOf_23 : decode cX12_reachesOf 23 = .ok (.istore_n 2, 1) := by decide +kernel
theorem dX12_reachesOf_24 : decode cX12_reachesOf 24 = .ok (.iconst 0, 1) := by decide +kernel
theorem dX12_reachesOf_25 : decode cX12_reachesOf 25 = .ok (.istore_n 3, 1) := by decide +kernel
theorem dX12_reachesOf_26 : decode cX12_reachesOf 26 = .ok (.iload_n 3, 1) := by decide +kernel
theorem dX12_reachesOf_27 : decode cX12_reachesOf 27 = .ok (.aload_n 0, 1) := by decide +kernel
theorem dX12_reachesOf_28 : decode cX12_reachesOf 28 = .ok (.getfield 98, 3) := by decide +kernel
theorem dX12_reachesOf_31 : decode cX12_reachesOf 31 = .ok (.iconst 0, 1) := by decide +kernel
theorem dX12_reachesOf_32 : decode cX12_reachesOf 32 = .ok (.iaload, 1) := by decide +kernel
theorem dX12_reachesOf_33 : decode cX12_reachesOf 33 = .ok (.if_icmp .ge 52, 3) := by decide +kernel
theorem dX12_reachesOf_36 : decode cX12_reachesOf 36 = .ok (.iload_n 3, 1) := by decide +kernel
theorem dX12_reachesOf_37 : decode cX12_reachesOf 37 = .ok (.aload_n 0, 1) := by decide +kernel
theorem dX12_reachesOf_38 : decode cX12_reachesOf 38 = .ok (.getfield 98, 3) := by decide +kernel
theorem dX12_reachesOf_41 : decode cX12_reachesOf 41 = .ok (.bipush 74, 2) := by decide +kernel
theorem dX12_reachesOf_43 : decode cX12_reachesOf 43 = .ok (.iload_n 1, 1) := by decide +kernel
theorem dX12_reachesOf_44 : decode cX12_reachesOf 44 = .ok (.iadd, 1) := by decide +kernel
theorem dX12_reachesOf_45 : decode cX12_reachesOf 45 = .ok (.iaload, 1) := by decide +kernel
theorem dX12_reachesOf_46 : decode cX12_reachesOf 46 = .ok (.if_icmp .eq 27, 3) := by decide +kernel
theorem dX12_reachesOf_49 : decode cX12_reachesOf 49 = .ok (.aload_n 0, 1) := by decide +kernel
theorem dX12_reachesOf_50 : decode cX12_reachesOf 50 = .ok (.iload_n 3, 1) := by decide +kernel
theorem dX12_reachesOf_51 : decode cX12_reachesOf 51 = .ok (.invokevirtual 268, 3) := by decide +kernel
theorem dX12_reachesOf_54 : decode cX12_reachesOf 54 = .ok (.aload_n 0, 1) := by decide +kernel
theorem dX12_reachesOf_55 : decode cX12_reachesOf 55 = .ok (.getfield 98, 3) := by decide +kernel
theorem dX12_reachesOf_58 : decode cX12_reachesOf 58 = .ok (.iconst 4, 1) := by decide +kernel
theorem dX12_reachesOf_59 : decode cX12_reachesOf 59 = .ok (.iaload, 1) := by decide +kernel
theorem dX12_reachesOf_60 : decode cX12_reachesOf 60 = .ok (.aload_n 0, 1) := by decide +kernel
theorem dX12_reachesOf_61 : decode cX12_reachesOf 61 = .ok (.getfield 98, 3) := by decide +kernel
theorem dX12_reachesOf_64 : decode cX12_reachesOf 64 = .ok (.bipush 89, 2) := by decide +kernel
theorem dX12_reachesOf_66 : decode cX12_reachesOf 66 = .ok (.iload_n 1, 1) := by decide +kernel
theorem dX12_reachesOf_67 : decode cX12_reachesOf 67 = .ok (.iadd, 1) := by decide +kernel
theorem dX12_reachesOf_68 : decode cX12_reachesOf 68 = .ok (.iaload, 1) := by decide +kernel
theorem dX12_reachesOf_69 : decode cX12_reachesOf 69 = .ok (.isub, 1) := by decide +kernel
theorem dX12_reachesOf_70 : decode cX12_reachesOf 70 = .ok (.if_icmp .gt 9, 3) := by decide +kernel
theorem dX12_reachesOf_73 : decode cX12_reachesOf 73 = .ok (.iload_n 2, 1) := by decide +kernel
theorem dX12_reachesOf_74 : decode cX12_reachesOf 74 = .ok (.iconst 1, 1) := by decide +kernel
theorem dX12_reachesOf_75 : decode cX12_reachesOf 75 = .ok (.iload_n 3, 1) := by decide +kernel
theorem dX12_reachesOf_76 : decode cX12_reachesOf 76 = .ok (.ishl, 1) := by decide +kernel
theorem dX12_reachesOf_77 : decode cX12_reachesOf 77 = .ok (.ior, 1) := by decide +kernel
theorem dX12_reachesOf_78 : decode cX12_reachesOf 78 = .ok (.istore_n 2, 1) := by decide +kernel
theorem dX12_reachesOf_79 : decode cX12_reachesOf 79 = .ok (.iinc 3 1, 3) := by decide +kernel
theorem dX12_reachesOf_82 : decode cX12_reachesOf 82 = .ok (.goto (-56), 3) := by decide +kernel
theorem dX12_reachesOf_85 : decode cX12_reachesOf 85 = .ok (.iload_n 2, 1) := by decide +kernel
theorem dX12_reachesOf_86 : decode cX12_reachesOf 86 = .ok (.ireturn, 1) := by decide +kernel
def f_X12_reachesOf_79 (k26 : XM → Int32 → Int32 → Int32 → Option (Int32 × XM)) (w0 : XM) (l1 : Int32) (l2 : Int32) (l3 : Int32) : Option (Int32 × XM) :=
  k26 w0 l1 l2 (l3 + 1)
def f_X12_reachesOf_73 (k26 : XM → Int32 → Int32 → Int32 → Option (Int32 × XM)) (w0 : XM) (l1 : Int32) (l2 : Int32) (l3 : Int32) : Option (Int32 × XM) :=
  x_lt (l2 ||| ((1 : Int32) <<< (l3 &&& 31))) (fun y1 =>
  f_X12_reachesOf_79  k26 w0 l1 y1 l3)
def f_X12_reachesOf_26 (k26 : XM → Int32 → Int32 → Int32 → Option (Int32 × XM)) (w0 : XM) (l1 : Int32) (l2 : Int32) (l3 : Int32) : Option (Int32 × XM) :=
  if ((x_ga w0 2 (0 : Int32)) : Int32) ≤ l3 then
  (some (l2, w0))
  else (x_ck ((74 : Int32) + l1) 353 (
  if (l3 : Int32) = (x_ga w0 2 ((74 : Int32) + l1)) then
  (f_X12_reachesOf_73  k26 w0 l1 l2 l3)
  else (x_bo (f_X12_hoursFrom w0 l3) (fun y2 =>
  x_ck ((89 : Int32) + l1) 353 (
  x_lt ((x_ga w0 2 (4 : Int32)) - (x_ga w0 2 ((89 : Int32) + l1))) (fun y3 =>
  if (y3 : Int32) < y2 then
  (f_X12_reachesOf_79  k26 w0 l1 l2 l3)
  else (f_X12_reachesOf_73  k26 w0 l1 l2 l3)))))))
def f_X12_reachesOf (v0 : XM) (x0 : Int32) : Option (Int32 × XM) :=
  x_ck ((74 : Int32) + x0) 353 (
  x_ck ((65 : Int32) + x0) 353 (
  x_bo (f_X12_layFar v0 (x_ga v0 2 ((74 : Int32) + x0)) (x_ga v0 2 ((65 : Int32) + x0))) (fun y4 =>
  x_lp (φ := XM → Int32 → Int32 → Int32 → Option (Int32 × XM)) (fun _ _ _ _ => none) (f_X12_reachesOf_26  ) x_NN y4 x0 (0 : Int32) (0 : Int32))))
set_option maxRecDepth 100000 in
set_option maxHeartbeats 4000000 in
theorem w_X12_reachesOf_79 {p : Program} {l : Launch} {e : Env} {s : State} {m : MethodId} {args : Array Value} {below : List Frame} {meth : Method} {c : Code} {D : va_G} {tc : Nat → ClassId} {aK aV : Nat → Nat} {A : Nat → Prop} {ad0 : Nat → Nat}  (X : Cx p s m args meth c cX12_reachesOf 4 (some .int) RX12 D tc aK aV A [(shModel, ad0)])  {o : Int32 × XM} {k26 : XM → Int32 → Int32 → Int32 → Option (Int32 × XM)} (hk26 : ∀ (w0 : XM) (l1 : Int32) (l2 : Int32) (l3 : Int32), k26 w0 l1 l2 l3 = some o → aW p l e (x_Rm 6) s m args below meth c D tc A 4 [(shModel, ad0)] (some (.int o.1)) True [o.2] 26 [(0, .ref (ad0 0)), (1, .int l1), (2, .int l2), (3, .int l3)] [] [w0]) {w0 : XM} {l1 : Int32} {l2 : Int32} {l3 : Int32}  (h : f_X12_reachesOf_79  k26 w0 l1 l2 l3 = some o) : aW p l e (x_Rm 6) s m args below meth c D tc A 4 [(shModel, ad0)] (some (.int o.1)) True [o.2] 79 [(0, .ref (ad0 0)), (1, .int l1), (2, .int l2), (3, .int l3)] [] [w0] := by
  unfold f_X12_reachesOf_79 at h
  refine a_iinc (pc := 79) X 3 [(3, .int (l3 + 1)), (0, .ref (ad0 0)), (1, .int l1), (2, .int l2)] dX12_reachesOf_79 rfl (congrArg (HAdd.hAdd l3) q_ic_1) (by decide) rfl ?_
  refine a_goto (pc := 82) X 26 dX12_reachesOf_82 rfl ?_
  refine a_sub [1, 2, 3, 0] rfl ?_
  exact hk26 _ _ _ _ h
set_option maxRecDepth 100000 in
set_option maxHeartbeats 4000000 in
theorem w_X12_reachesOf_73 {p : Program} {l : Launch} {e : Env} {s : State} {m : MethodId} {args : Array Value} {below : List Frame} {meth : Method} {c : Code} {D : va_G} {tc : Nat → ClassId} {aK aV : Nat → Nat} {A : Nat → Prop} {ad0 : Nat → Nat}  (X : Cx p s m args meth c cX12_reachesOf 4 (some .int) RX12 D tc aK aV A [(shModel, ad0)])  {o : Int32 × XM} {k26 : XM → Int32 → Int32 → Int32 → Option (Int32 × XM)} (hk26 : ∀ (w0 : XM) (l1 : Int32) (l2 : Int32) (l3 : Int32), k26 w0 l1 l2 l3 = some o → aW p l e (x_Rm 6) s m args below meth c D tc A 4 [(shModel, ad0)] (some (.int o.1)) True [o.2] 26 [(0, .ref (ad0 0)), (1, .int l1), (2, .int l2), (3, .int l3)] [] [w0]) {w0 : XM} {l1 : Int32} {l2 : Int32} {l3 : Int32}  (h : f_X12_reachesOf_73  k26 w0 l1 l2 l3 = some o) : aW p l e (x_Rm 6) s m args below meth c D tc A 4 [(shModel, ad0)] (some (.int o.1)) True [o.2] 73 [(0, .ref (ad0 0)), (1, .int l1), (2, .int l2), (3, .int l3)] [] [w0] := by
  unfold f_X12_reachesOf_73 at h
  refine a_iload_n (pc := 73) X 2 dX12_reachesOf_73 rfl rfl ?_
  refine a_iconst (pc := 74) X dX12_reachesOf_74 q_ic_1 ?_
  refine a_iload_n (pc := 75) X 3 dX12_reachesOf_75 rfl rfl ?_
  refine a_ishl (pc := 76) X dX12_reachesOf_76 ?_
  refine a_ior (pc := 77) X dX12_reachesOf_77 ?_
  obtain ⟨y1, e_y1, h⟩ := x_lt_elim h
  refine a_ni e_y1 ?_
  refine a_istore_n (pc := 78) X [(2, .int y1), (0, .ref (ad0 0)), (1, .int l1), (3, .int l3)] dX12_reachesOf_78 rfl (by decide) rfl ?_
  refine a_sub [1, 2, 0, 3] rfl ?_
  exact w_X12_reachesOf_79 X   hk26  h
set_option maxRecDepth 100000 in
set_option maxHeartbeats 4000000 in
theorem w_X12_reachesOf_26 {p : Program} {l : Launch} {e : Env} {s : State} {m : MethodId} {args : Array Value} {below : List Frame} {meth : Method} {c : Code} {D : va_G} {tc : Nat → ClassId} {aK aV : Nat → Nat} {A : Nat → Prop} {ad0 : Nat → Nat}  (X : Cx p s m args meth c cX12_reachesOf 4 (some .int) RX12 D tc aK aV A [(shModel, ad0)])  {o : Int32 × XM}  : ∀ (n : Nat), ∀ (w0 : XM) (l1 : Int32) (l2 : Int32) (l3 : Int32), x_lp (φ := XM → Int32 → Int32 → Int32 → Option (Int32 × XM)) (fun _ _ _ _ => none) (f_X12_reachesOf_26  ) n w0 l1 l2 l3 = some o → aW p l e (x_Rm 6) s m args below meth c D tc A 4 [(shModel, ad0)] (some (.int o.1)) True [o.2] 26 [(0, .ref (ad0 0)), (1, .int l1), (2, .int l2), (3, .int l3)] [] [w0] := by
  intro n
  induction n with
  | zero => intro w0 l1 l2 l3 h; exact absurd h (fun q => by cases q)
  | succ n ih =>
    intro w0 l1 l2 l3 h
    have h : f_X12_reachesOf_26   (x_lp (φ := XM → Int32 → Int32 → Int32 → Option (Int32 × XM)) (fun _ _ _ _ => none) (f_X12_reachesOf_26  ) n) w0 l1 l2 l3 = some o := h
    generalize x_lp (φ := XM → Int32 → Int32 → Int32 → Option (Int32 × XM)) (fun _ _ _ _ => none) (f_X12_reachesOf_26  ) n = k26 at h ih
    have hk26 := ih
    unfold f_X12_reachesOf_26 at h
    refine a_iload_n (pc := 26) X 3 dX12_reachesOf_26 rfl rfl ?_
    refine a_aload_n (pc := 27) X 0 dX12_reachesOf_27 rfl rfl ?_
    refine a_getR (pc := 28) X 0 2 2 fl_RX12_98 rfl rfl rfl rfl rfl dX12_reachesOf_28 ?_
    refine a_iconst (pc := 31) X dX12_reachesOf_31 q_ic_0 ?_
    refine a_iald (pc := 32) X 0 rfl rfl rfl (x_inl (by decide)) dX12_reachesOf_32 ?_
    refine a_icmp_ge (pc := 33) X 85 dX12_reachesOf_33 rfl (fun c_33 => ?_) (fun c_33 => ?_)
    · have h := x_ifp c_33 h
      refine a_iload_n (pc := 85) X 2 dX12_reachesOf_85 rfl rfl ?_
      have h := Option.some.inj h; subst h
      exact a_iret (pc := 86) X trivial dX12_reachesOf_86
    · have h := x_ifn c_33 h
      refine a_iload_n (pc := 36) X 3 dX12_reachesOf_36 rfl rfl ?_
      refine a_aload_n (pc := 37) X 0 dX12_reachesOf_37 rfl rfl ?_
      refine a_getR (pc := 38) X 0 2 2 fl_RX12_98 rfl rfl rfl rfl rfl dX12_reachesOf_38 ?_
      refine a_bipush (pc := 41) X dX12_reachesOf_41 q_bp_74 ?_
      refine a_iload_n (pc := 43) X 1 dX12_reachesOf_43 rfl rfl ?_
      refine a_iadd (pc := 44) X dX12_reachesOf_44 ?_
      obtain ⟨c_45, h⟩ := x_ck_elim h
      refine a_iald (pc := 45) X 0 rfl rfl rfl c_45 dX12_reachesOf_45 ?_
      refine a_icmp_eq (pc := 46) X 73 dX12_reachesOf_46 rfl (fun c_46 => ?_) (fun c_46 => ?_)
      · have h := x_ifp c_46 h
        exact w_X12_reachesOf_73 X   hk26  h
      · have h := x_ifn c_46 h
        refine a_aload_n (pc := 49) X 0 dX12_reachesOf_49 rfl rfl ?_
        refine a_iload_n (pc := 50) X 3 dX12_reachesOf_50 rfl rfl ?_
        obtain ⟨y2, e_y2, h⟩ := x_bo_elim h
        refine a_callV (pc := 51) (st2 := [.int y2]) (vs2 := [w0]) X [(0, 0, 20)] [none] 0 0 12 [.int l3] [] cv_RX12_268 (c_X12_hoursFrom (ad0 := ad0)  e_y2) rfl rfl rfl rfl rfl rfl rfl rfl rfl rfl rfl rfl rfl rfl rfl (Nat.le_of_ble_eq_true rfl) ⟨Nat.le_of_ble_eq_true rfl, Nat.le_of_ble_eq_true rfl⟩ dX12_reachesOf_51 (fun _ => ?_)
        refine a_aload_n (pc := 54) X 0 dX12_reachesOf_54 rfl rfl ?_
        refine a_getR (pc := 55) X 0 2 2 fl_RX12_98 rfl rfl rfl rfl rfl dX12_reachesOf_55 ?_
        refine a_iconst (pc := 58) X dX12_reachesOf_58 q_ic_4 ?_
        refine a_iald (pc := 59) X 0 rfl rfl rfl (x_inl (by decide)) dX12_reachesOf_59 ?_
        refine a_aload_n (pc := 60) X 0 dX12_reachesOf_60 rfl rfl ?_
        refine a_getR (pc := 61) X 0 2 2 fl_RX12_98 rfl rfl rfl rfl rfl dX12_reachesOf_61 ?_
        refine a_bipush (pc := 64) X dX12_reachesOf_64 q_bp_89 ?_
        refine a_iload_n (pc := 66) X 1 dX12_reachesOf_66 rfl rfl ?_
        refine a_iadd (pc := 67) X dX12_reachesOf_67 ?_
        obtain ⟨c_68, h⟩ := x_ck_elim h
        refine a_iald (pc := 68) X 0 rfl rfl rfl c_68 dX12_reachesOf_68 ?_
        refine a_isub (pc := 69) X dX12_reachesOf_69 ?_
        obtain ⟨y3, e_y3, h⟩ := x_lt_elim h
        refine a_ni e_y3 ?_
        refine a_icmp_gt (pc := 70) X 79 dX12_reachesOf_70 rfl (fun c_70 => ?_) (fun c_70 => ?_)
        · have h := x_ifp c_70 h
          exact w_X12_reachesOf_79 X   hk26  h
        · have h := x_ifn c_70 h
          exact w_X12_reachesOf_73 X   hk26  h
set_option maxRecDepth 100000 in
set_option maxHeartbeats 4000000 in
theorem c_X12_reachesOf {l : Launch}  {ad0 : Nat → Nat} {v0 : XM} {x0 : Int32}  {o : Int32 × XM} (h : f_X12_reachesOf v0 x0 = some o) : CT l yX12_reachesOf cX12_reachesOf 4 (some .int) 6 [(shModel, ad0)] [v0] (fun aK => [.ref (ad0 0), .int x0]) (some (.int o.1)) True [o.2] := by
  refine CT_of (by decide) (fun _ => Nat.le_of_ble_eq_true rfl) ?_
  intro p e s m args below meth c D tc aK aV A X
  have X : Cx p s m args meth c cX12_reachesOf 4 (some .int) RX12 D tc aK aV A [(shModel, ad0)] := X
  show aW p l e (x_Rm 6) s m args below meth c D tc A 4 [(shModel, ad0)] (some (.int o.1)) True [o.2] 0 [(0, .ref (ad0 0)), (1, .int x0)] [] [v0]
  unfold f_X12_reachesOf at h
  refine a_aload_n (pc := 0) X 0 dX12_reachesOf_0 rfl rfl ?_
  refine a_aload_n (pc := 1) X 0 dX12_reachesOf_1 rfl rfl ?_
  refine a_getR (pc := 2) X 0 2 2 fl_RX12_98 rfl rfl rfl rfl rfl dX12_reachesOf_2 ?_
  refine a_bipush (pc := 5) X dX12_reachesOf_5 q_bp_74 ?_
  refine a_iload_n (pc := 7) X 1 dX12_reachesOf_7 rfl rfl ?_
  refine a_iadd (pc := 8) X dX12_reachesOf_8 ?_
  obtain ⟨c_9, h⟩ := x_ck_elim h
  refine a_iald (pc := 9) X 0 rfl rfl rfl c_9 dX12_reachesOf_9 ?_
  refine a_aload_n (pc := 10) X 0 dX12_reachesOf_10 rfl rfl ?_
  refine a_getR (pc := 11) X 0 2 2 fl_RX12_98 rfl rfl rfl rfl rfl dX12_reachesOf_11 ?_
  refine a_bipush (pc := 14) X dX12_reachesOf_14 q_bp_65 ?_
  refine a_iload_n (pc := 16) X 1 dX12_reachesOf_16 rfl rfl ?_
  refine a_iadd (pc := 17) X dX12_reachesOf_17 ?_
  obtain ⟨c_18, h⟩ := x_ck_elim h
  refine a_iald (pc := 18) X 0 rfl rfl rfl c_18 dX12_reachesOf_18 ?_
  obtain ⟨y4, e_y4, h⟩ := x_bo_elim h
  refine a_callV (pc := 19) (st2 := []) (vs2 := [y4]) X [(0, 0, 20)] [some y4] 0 0 12 [.int (x_ga v0 2 ((74 : Int32) + x0)), .int (x_ga v0 2 ((65 : Int32) + x0))] [] cv_RX12_264 (c_X12_layFar (ad0 := ad0)  e_y4) rfl rfl rfl rfl rfl rfl rfl rfl rfl rfl rfl rfl rfl rfl rfl (Nat.le_of_ble_eq_true rfl) ⟨Nat.le_of_ble_eq_true rfl, Nat.le_of_ble_eq_true rfl⟩ dX12_reachesOf_19 (fun _ => ?_)
  refine a_iconst (pc := 22) X dX12_reachesOf_22 q_ic_0 ?_
  refine a_istore_n (pc := 23) X [(2, .int (0 : Int32)), (0, .ref (ad0 0)), (1, .int x0)] dX12_reachesOf_23 rfl (by decide) rfl ?_
  refine a_iconst (pc := 24) X dX12_reachesOf_24 q_ic_0 ?_
  refine a_istore_n (pc := 25) X [(3, .int (0 : Int32)), (2, .int (0 : Int32)), (0, .ref (ad0 0)), (1, .int x0)] dX12_reachesOf_25 rfl (by decide) rfl ?_
  refine a_sub [2, 3, 1, 0] rfl ?_
  exact w_X12_reachesOf_26 X    x_NN _ _ _ _ h
theorem dX12_isLost_0 : decode cX12_isLost 0 = .ok (.aload_n 0, 1) := by decide +kernel
theorem dX12_isLost_1 : decode cX12_isLost 1 = .ok (.iload_n 1, 1) := by decide +kernel
theorem dX12_isLost_2 : decode cX12_isLost 2 = .ok (.invokevirtual 240, 3) := by decide +kernel
theorem dX12_isLost_5 : decode cX12_isLost 5 = .ok (.ifCond .ne 22, 3) := by decide +kernel
theorem dX12_isLost_8 : decode cX12_isLost 8 = .ok (.aload_n 0, 1) := by decide +kernel
theorem dX12_isLost_9 : decode cX12_isLost 9 = .ok (.iload_n 1, 1) := by decide +kernel
theorem dX12_isLost_10 : decode cX12_isLost 10 = .ok (.invokevirtual 271, 3) := by decide +kernel
theorem dX12_isLost_13 : decode cX12_isLost 13 = .ok (.aload_n 0, 1) := by decide +kernel
theorem dX12_isLost_14 : decode cX12_isLost 14 = .ok (.getfield 98, 3) := by decide +kernel
theorem dX12_isLost_17 : decode cX12_isLost 17 = .ok (.iconst 5, 1) := by decide +kernel
theorem dX12_isLost_18 : decode cX12_isLost 18 = .ok (.iaload, 1) := by decide +kernel
theorem dX12_isLost_19 : decode cX12_isLost 19 = .ok (.iand, 1) := by decide +kernel
theorem dX12_isLost_20 : decode cX12_isLost 20 = .ok (.ifCond .ne 7, 3) := by decide +kernel
theorem dX12_isLost_23 : decode cX12_isLost 23 = .ok (.iconst 1, 1) := by decide +kernel
theorem dX12_isLost_24 : decode cX12_isLost 24 = .ok (.goto 4, 3) := by decide +kernel
theorem dX12_isLost_27 : decode cX12_isLost 27 = .ok (.iconst 0, 1) := by decide +kernel
theorem dX12_isLost_28 : decode cX12_isLost 28 = .ok (.ireturn, 1) := by decide +kernel
def f_X12_isLost (v0 : XM) (x0 : Int32) : Option (Int32 × XM) :=
  x_bo (f_X12_isGoing v0 x0) (fun y1 =>
  if y1 = (0 : Int32) then
  (x_bo (f_X12_reachesOf v0 x0) (fun y2 =>
  if (y2.1 &&& (x_ga y2.2 2 (5 : Int32))) = (0 : Int32) then
  (some ((1 : Int32), y2.2))
  else (some ((0 : Int32), y2.2))))
  else (some ((0 : Int32), v0)))
set_option maxRecDepth 100000 in
set_option maxHeartbeats 4000000 in
theorem c_X12_isLost {l : Launch}  {ad0 : Nat → Nat} {v0 : XM} {x0 : Int32}  {o : Int32 × XM} (h : f_X12_isLost v0 x0 = some o) : CT l yX12_isLost cX12_isLost 2 (some .boolean) 7 [(shModel, ad0)] [v0] (fun aK => [.ref (ad0 0), .int x0]) (some (.int o.1)) (x_Z o.1) [o.2] := by
  refine CT_of (by decide) (fun _ => Nat.le_of_ble_eq_true rfl) ?_
  intro p e s m args below meth c D tc aK aV A X
  have X : Cx p s m args meth c cX12_isLost 2 (some .boolean) RX12 D tc aK aV A [(shModel, ad0)] := X
  show aW p l e (x_Rm 7) s m args below meth c D tc A 2 [(shModel, ad0)] (some (.int o.1)) (x_Z o.1) [o.2] 0 [(0, .ref (ad0 0)), (1, .int x0)] [] [v0]
  unfold f_X12_isLost at h
  refine a_aload_n (pc := 0) X 0 dX12_isLost_0 rfl rfl ?_
  refine a_iload_n (pc := 1) X 1 dX12_isLost_1 rfl rfl ?_
  obtain ⟨y1, e_y1, h⟩ := x_bo_elim h
  refine a_callV (pc := 2) (st2 := [.int y1]) (vs2 := [v0]) X [(0, 0, 20)] [none] 0 0 12 [.int x0] [] cv_RX12_240 (c_X12_isGoing (ad0 := ad0)  e_y1) rfl rfl rfl rfl rfl rfl rfl rfl rfl rfl rfl rfl rfl rfl rfl (Nat.le_of_ble_eq_true rfl) ⟨Nat.le_of_ble_eq_true rfl, Nat.le_of_ble_eq_true rfl⟩ dX12_isLost_2 (fun z_2 => ?_)
  refine a_if_ne (pc := 5) X 27 dX12_isLost_5 rfl (fun c_5 => ?_) (fun c_5 => ?_)
  · have h := x_ifn c_5 h
    refine a_iconst (pc := 27) X dX12_isLost_27 q_ic_0 ?_
    have h := Option.some.inj h; subst h
    exact a_zret (pc := 28) X x_Z0 x_Z0 dX12_isLost_28
  · have h := x_ifp c_5 h
    refine a_aload_n (pc := 8) X 0 dX12_isLost_8 rfl rfl ?_
    refine a_iload_n (pc := 9) X 1 dX12_isLost_9 rfl rfl ?_
    obtain ⟨y2, e_y2, h⟩ := x_bo_elim h
    refine a_callV (pc := 10) (st2 := [.int y2.1]) (vs2 := [y2.2]) X [(0, 0, 20)] [some y2.2] 0 0 12 [.int x0] [] cv_RX12_271 (c_X12_reachesOf (ad0 := ad0)  e_y2) rfl rfl rfl rfl rfl rfl rfl rfl rfl rfl rfl rfl rfl rfl rfl (Nat.le_of_ble_eq_true rfl) ⟨Nat.le_of_ble_eq_true rfl, Nat.le_of_ble_eq_true rfl⟩ dX12_isLost_10 (fun _ => ?_)
    refine a_aload_n (pc := 13) X 0 dX12_isLost_13 rfl rfl ?_
    refine a_getR (pc := 14) X 0 2 2 fl_RX12_98 rfl rfl rfl rfl rfl dX12_isLost_14 ?_
    refine a_iconst (pc := 17) X dX12_isLost_17 q_ic_5 ?_
    refine a_iald (pc := 18) X 0 rfl rfl rfl (x_inl (by decide)) dX12_isLost_18 ?_
    refine a_iand (pc := 19) X dX12_isLost_19 ?_
    refine a_if_ne (pc := 20) X 27 dX12_isLost_20 rfl (fun c_20 => ?_) (fun c_20 => ?_)
    · have h := x_ifn c_20 h
      refine a_iconst (pc := 27) X dX12_isLost_27 q_ic_0 ?_
      have h := Option.some.inj h; subst h
      exact a_zret (pc := 28) X x_Z0 x_Z0 dX12_isLost_28
    · have h := x_ifp c_20 h
      refine a_iconst (pc := 23) X dX12_isLost_23 q_ic_1 ?_
      refine a_goto (pc := 24) X 28 dX12_isLost_24 rfl ?_
      have h := Option.some.inj h; subst h
      exact a_zret (pc := 28) X x_Z1 x_Z1 dX12_isLost_28
theorem dX12_walker_0 : decode cX12_walker 0 = .ok (.aload_n 0, 1) := by decide +kernel
theorem dX12_walker_1 : decode cX12_walker 1 = .ok (.iconst 0, 1) := by decide +kernel
theorem dX12_walker_2 : decode cX12_walker 2 = .ok (.putfield 1, 3) := by decide +kernel
theorem dX12_walker_5 : decode cX12_walker 5 = .ok (.aload_n 0, 1) := by decide +kernel
theorem dX12_walker_6 : decode cX12_walker 6 = .ok (.iload_n 1, 1) := by decide +kernel
theorem dX12_walker_7 : decode cX12_walker 7 = .ok (.invokevirtual 237, 3) := by decide +kernel
theorem dX12_walker_10 : decode cX12_walker 10 = .ok (.ifCond .ne 8, 3) := by decide +kernel
theorem dX12_walker_13 : decode cX12_walker 13 = .ok (.aload_n 0, 1) := by decide +kernel
theorem dX12_walker_14 : decode cX12_walker 14 = .ok (.invokevirtual 274, 3) := by decide +kernel
theorem dX12_walker_17 : decode cX12_walker 17 = .ok (.ireturn, 1) := by decide +kernel
theorem dX12_walker_18 : decode cX12_walker 18 = .ok (.iload_n 2, 1) := by decide +kernel
theorem dX12_walker_19 : decode cX12_walker 19 = .ok (.tableswitch 115 0 6 #[41, 51, 61, 71, 81, 91, 101], 41) := by decide +kernel
theorem dX12_walker_60 : decode cX12_walker 60 = .ok (.aload_n 0, 1) := by decide +kernel
theorem dX12_walker_61 : decode cX12_walker 61 = .ok (.getfield 98, 3) := by decide +kernel
theorem dX12_walker_64 : decode cX12_walker 64 = .ok (.bipush 74, 2) := by decide +kernel
theorem dX12_walker_66 : decode cX12_walker 66 = .ok (.iload_n 1, 1) := by decide +kernel
theorem dX12_walker_67 : decode cX12_walker 67 = .ok (.iadd, 1) := by decide +kernel
theorem dX12_walker_68 : decode cX12_walker 68 = .ok (.iaload, 1) := by decide +kernel
theorem dX12_walker_69 : decode cX12_walker 69 = .ok (.ireturn, 1) := by decide +kernel
theorem dX12_walker_70 : decode cX12_walker 70 = .ok (.aload_n 0, 1) := by decide +kernel
theorem dX12_walker_71 : decode cX12_walker 71 = .ok (.getfield 98, 3) := by decide +kernel
theorem dX12_walker_74 : decode cX12_walker 74 = .ok (.bipush 65, 2) := by decide +kernel
theorem dX12_walker_76 : decode cX12_walker 76 = .ok (.iload_n 1, 1) := by decide +kernel
theorem dX12_walker_77 : decode cX12_walker 77 = .ok (.iadd, 1) := by decide +kernel
theorem dX12_walker_78 : decode cX12_walker 78 = .ok (.iaload, 1) := by decide +kernel
theorem dX12_walker_79 : decode cX12_walker 79 = .ok (.ireturn, 1) := by decide +kernel
theorem dX12_walker_80 : decode cX12_walker 80 = .ok (.aload_n 0, 1) := by decide +kernel
theorem dX12_walker_81 : decode cX12_walker 81 = .ok (.getfield 98, 3) := by decide +kernel
theorem dX12_walker_84 : decode cX12_walker 84 = .ok (.bipush 79, 2) := by decide +kernel
theorem dX12_walker_86 : decode cX12_walker 86 = .ok (.iload_n 1, 1) := by decide +kernel
theorem dX12_walker_87 : decode cX12_walker 87 = .ok (.iadd, 1) := by decide +kernel
theorem dX12_walker_88 : decode cX12_walker 88 = .ok (.iaload, 1) := by decide +kernel
theorem dX12_walker_89 : decode cX12_walker 89 = .ok (.ireturn, 1) := by decide +kernel
theorem dX12_walker_90 : decode cX12_walker 90 = .ok (.aload_n 0, 1) := by decide +kernel
theorem dX12_walker_91 : decode cX12_walker 91 = .ok (.getfield 98, 3) := by decide +kernel
theorem dX12_walker_94 : decode cX12_walker 94 = .ok (.bipush 84, 2) := by decide +kernel
theorem dX12_walker_96 : decode cX12_walker 96 = .ok (.iload_n 1, 1) := by decide +kernel
theorem dX12_walker_97 : decode cX12_walker 97 = .ok (.iadd, 1) := by decide +kernel
theorem dX12_walker_98 : decode cX12_walker 98 = .ok (.iaload, 1) := by decide +kernel
theorem dX12_walker_99 : decode cX12_walker 99 = .ok (.ireturn, 1) := by decide +kernel
theorem dX12_walker_100 : decode cX12_walker 100 = .ok (.aload_n 0, 1) := by decide +kernel
theorem dX12_walker_101 : decode cX12_walker 101 = .ok (.getfield 98, 3) := by decide +kernel
theorem dX12_walker_104 : decode cX12_walker 104 = .ok (.bipush 89, 2) := by decide +kernel
theorem dX12_walker_106 : decode cX12_walker 106 = .ok (.iload_n 1, 1) := by decide +kernel
theorem dX12_walker_107 : decode cX12_walker 107 = .ok (.iadd, 1) := by decide +kernel
theorem dX12_walker_108 : decode cX12_walker 108 = .ok (.iaload, 1) := by decide +kernel
theorem dX12_walker_109 : decode cX12_walker 109 = .ok (.ireturn, 1) := by decide +kernel
theorem dX12_walker_110 : decode cX12_walker 110 = .ok (.aload_n 0, 1) := by decide +kernel
theorem dX12_walker_111 : decode cX12_walker 111 = .ok (.getfield 98, 3) := by decide +kernel
theorem dX12_walker_114 : decode cX12_walker 114 = .ok (.bipush 94, 2) := by decide +kernel
theorem dX12_walker_116 : decode cX12_walker 116 = .ok (.iload_n 1, 1) := by decide +kernel
theorem dX12_walker_117 : decode cX12_walker 117 = .ok (.iadd, 1) := by decide +kernel
theorem dX12_walker_118 : decode cX12_walker 118 = .ok (.iaload, 1) := by decide +kernel
theorem dX12_walker_119 : decode cX12_walker 119 = .ok (.ireturn, 1) := by decide +kernel
theorem dX12_walker_120 : decode cX12_walker 120 = .ok (.aload_n 0, 1) := by decide +kernel
theorem dX12_walker_121 : decode cX12_walker 121 = .ok (.iload_n 1, 1) := by decide +kernel
theorem dX12_walker_122 : decode cX12_walker 122 = .ok (.invokevirtual 277, 3) := by decide +kernel
theorem dX12_walker_125 : decode cX12_walker 125 = .ok (.ifCond .eq 7, 3) := by decide +kernel
theorem dX12_walker_128 : decode cX12_walker 128 = .ok (.iconst 1, 1) := by decide +kernel
theorem dX12_walker_129 : decode cX12_walker 129 = .ok (.goto 4, 3) := by decide +kernel
theorem dX12_walker_132 : decode cX12_walker 132 = .ok (.iconst 0, 1) := by decide +kernel
theorem dX12_walker_133 : decode cX12_walker 133 = .ok (.ireturn, 1) := by decide +kernel
theorem dX12_walker_134 : decode cX12_walker 134 = .ok (.aload_n 0, 1) := by decide +kernel
theorem dX12_walker_135 : decode cX12_walker 135 = .ok (.invokevirtual 274, 3) := by decide +kernel
theorem dX12_walker_138 : decode cX12_walker 138 = .ok (.ireturn, 1) := by decide +kernel
def f_X12_walker (v0 : XM) (x0 : Int32) (x1 : Int32) : Option (Int32 × XM) :=
  x_lt (x_si v0 0 0 (0 : Int32)) (fun m1 =>
  x_lt (f_X12_isWalker m1 x0) (fun y2 =>
  if y2 = (0 : Int32) then
  (x_lt (f_X12_refuse m1) (fun y6 =>
  some (y6.1, y6.2)))
  else (if x1 = (0 : Int32) then
  (x_ck ((74 : Int32) + x0) 353 (
  some (x_ga m1 2 ((74 : Int32) + x0), m1)))
  else (if x1 = (1 : Int32) then
  (x_ck ((65 : Int32) + x0) 353 (
  some (x_ga m1 2 ((65 : Int32) + x0), m1)))
  else (if x1 = (2 : Int32) then
  (x_ck ((79 : Int32) + x0) 353 (
  some (x_ga m1 2 ((79 : Int32) + x0), m1)))
  else (if x1 = (3 : Int32) then
  (x_ck ((84 : Int32) + x0) 353 (
  some (x_ga m1 2 ((84 : Int32) + x0), m1)))
  else (if x1 = (4 : Int32) then
  (x_ck ((89 : Int32) + x0) 353 (
  some (x_ga m1 2 ((89 : Int32) + x0), m1)))
  else (if x1 = (5 : Int32) then
  (x_ck ((94 : Int32) + x0) 353 (
  some (x_ga m1 2 ((94 : Int32) + x0), m1)))
  else (if x1 = (6 : Int32) then
  (x_bo (f_X12_isLost m1 x0) (fun y4 =>
  if y4.1 = (0 : Int32) then
  (some ((0 : Int32), y4.2))
  else (some ((1 : Int32), y4.2))))
  else (x_lt (f_X12_refuse m1) (fun y5 =>
  some (y5.1, y5.2))))))))))))
set_option maxRecDepth 100000 in
set_option maxHeartbeats 4000000 in
theorem c_X12_walker {l : Launch}  {ad0 : Nat → Nat} {v0 : XM} {x0 : Int32} {x1 : Int32}  {o : Int32 × XM} (h : f_X12_walker v0 x0 x1 = some o) : CT l yX12_walker cX12_walker 3 (some .int) 8 [(shModel, ad0)] [v0] (fun aK => [.ref (ad0 0), .int x0, .int x1]) (some (.int o.1)) True [o.2] := by
  refine CT_of (by decide) (fun _ => Nat.le_of_ble_eq_true rfl) ?_
  intro p e s m args below meth c D tc aK aV A X
  have X : Cx p s m args meth c cX12_walker 3 (some .int) RX12 D tc aK aV A [(shModel, ad0)] := X
  show aW p l e (x_Rm 8) s m args below meth c D tc A 3 [(shModel, ad0)] (some (.int o.1)) True [o.2] 0 [(0, .ref (ad0 0)), (1, .int x0), (2, .int x1)] [] [v0]
  unfold f_X12_walker at h
  refine a_aload_n (pc := 0) X 0 dX12_walker_0 rfl rfl ?_
  refine a_iconst (pc := 1) X dX12_walker_1 q_ic_0 ?_
  refine a_putI (pc := 2) X 0 fl_RX12_1 rfl rfl rfl rfl dX12_walker_2 ?_
  obtain ⟨m1, e_m1, h⟩ := x_lt_elim h
  refine a_nm (vs2 := [m1]) (congrArg (fun q : XM => [q]) e_m1) ?_
  refine a_aload_n (pc := 5) X 0 dX12_walker_5 rfl rfl ?_
  refine a_iload_n (pc := 6) X 1 dX12_walker_6 rfl rfl ?_
  obtain ⟨y2, e_y2, h⟩ := x_lt_elim h
  refine a_callV (pc := 7) (st2 := [.int y2]) (vs2 := [m1]) X [(0, 0, 20)] [none] 0 0 12 [.int x0] [] cv_RX12_237 (c_X12_isWalker (ad0 := ad0)  e_y2) rfl rfl rfl rfl rfl rfl rfl rfl rfl rfl rfl rfl rfl rfl rfl (Nat.le_of_ble_eq_true rfl) ⟨Nat.le_of_ble_eq_true rfl, Nat.le_of_ble_eq_true rfl⟩ dX12_walker_7 (fun z_7 => ?_)
  refine a_if_ne (pc := 10) X 18 dX12_walker_10 rfl (fun c_10 => ?_) (fun c_10 => ?_)
  · have h := x_ifn c_10 h
    refine a_iload_n (pc := 18) X 2 dX12_walker_18 rfl rfl ?_
    by_cases c_19_0 : x1 = (0 : Int32)
    · have h := x_ifp c_19_0 h
      refine a_tin (pc := 19) X 60 dX12_walker_19 c_19_0 (by decide) (by decide) rfl rfl ?_
      refine a_aload_n (pc := 60) X 0 dX12_walker_60 rfl rfl ?_
      refine a_getR (pc := 61) X 0 2 2 fl_RX12_98 rfl rfl rfl rfl rfl dX12_walker_61 ?_
      refine a_bipush (pc := 64) X dX12_walker_64 q_bp_74 ?_
      refine a_iload_n (pc := 66) X 1 dX12_walker_66 rfl rfl ?_
      refine a_iadd (pc := 67) X dX12_walker_67 ?_
      obtain ⟨c_68, h⟩ := x_ck_elim h
      refine a_iald (pc := 68) X 0 rfl rfl rfl c_68 dX12_walker_68 ?_
      have h := Option.some.inj h; subst h
      exact a_iret (pc := 69) X trivial dX12_walker_69
    · have h := x_ifn c_19_0 h
      by_cases c_19_1 : x1 = (1 : Int32)
      · have h := x_ifp c_19_1 h
        refine a_tin (pc := 19) X 70 dX12_walker_19 c_19_1 (by decide) (by decide) rfl rfl ?_
        refine a_aload_n (pc := 70) X 0 dX12_walker_70 rfl rfl ?_
        refine a_getR (pc := 71) X 0 2 2 fl_RX12_98 rfl rfl rfl rfl rfl dX12_walker_71 ?_
        refine a_bipush (pc := 74) X dX12_walker_74 q_bp_65 ?_
        refine a_iload_n (pc := 76) X 1 dX12_walker_76 rfl rfl ?_
        refine a_iadd (pc := 77) X dX12_walker_77 ?_
        obtain ⟨c_78, h⟩ := x_ck_elim h
        refine a_iald (pc := 78) X 0 rfl rfl rfl c_78 dX12_walker_78 ?_
        have h := Option.some.inj h; subst h
        exact a_iret (pc := 79) X trivial dX12_walker_79
      · have h := x_ifn c_19_1 h
        by_cases c_19_2 : x1 = (2 : Int32)
        · have h := x_ifp c_19_2 h
          refine a_tin (pc := 19) X 80 dX12_walker_19 c_19_2 (by decide) (by decide) rfl rfl ?_
          refine a_aload_n (pc := 80) X 0 dX12_walker_80 rfl rfl ?_
          refine a_getR (pc := 81) X 0 2 2 fl_RX12_98 rfl rfl rfl rfl rfl dX12_walker_81 ?_
          refine a_bipush (pc := 84) X dX12_walker_84 q_bp_79 ?_
          refine a_iload_n (pc := 86) X 1 dX12_walker_86 rfl rfl ?_
          refine a_iadd (pc := 87) X dX12_walker_87 ?_
          obtain ⟨c_88, h⟩ := x_ck_elim h
          refine a_iald (pc := 88) X 0 rfl rfl rfl c_88 dX12_walker_88 ?_
          have h := Option.some.inj h; subst h
          exact a_iret (pc := 89) X trivial dX12_walker_89
        · have h := x_ifn c_19_2 h
          by_cases c_19_3 : x1 = (3 : Int32)
          · have h := x_ifp c_19_3 h
            refine a_tin (pc := 19) X 90 dX12_walker_19 c_19_3 (by decide) (by decide) rfl rfl ?_
            refine a_aload_n (pc := 90) X 0 dX12_walker_90 rfl rfl ?_
            refine a_getR (pc := 91) X 0 2 2 fl_RX12_98 rfl rfl rfl rfl rfl dX12_walker_91 ?_
            refine a_bipush (pc := 94) X dX12_walker_94 q_bp_84 ?_
            refine a_iload_n (pc := 96) X 1 dX12_walker_96 rfl rfl ?_
            refine a_iadd (pc := 97) X dX12_walker_97 ?_
            obtain ⟨c_98, h⟩ := x_ck_elim h
            refine a_iald (pc := 98) X 0 rfl rfl rfl c_98 dX12_walker_98 ?_
            have h := Option.some.inj h; subst h
            exact a_iret (pc := 99) X trivial dX12_walker_99
          · have h := x_ifn c_19_3 h
            by_cases c_19_4 : x1 = (4 : Int32)
            · have h := x_ifp c_19_4 h
              refine a_tin (pc := 19) X 100 dX12_walker_19 c_19_4 (by decide) (by decide) rfl rfl ?_
              refine a_aload_n (pc := 100) X 0 dX12_walker_100 rfl rfl ?_
              refine a_getR (pc := 101) X 0 2 2 fl_RX12_98 rfl rfl rfl rfl rfl dX12_walker_101 ?_
              refine a_bipush (pc := 104) X dX12_walker_104 q_bp_89 ?_
              refine a_iload_n (pc := 106) X 1 dX12_walker_106 rfl rfl ?_
              refine a_iadd (pc := 107) X dX12_walker_107 ?_
              obtain ⟨c_108, h⟩ := x_ck_elim h
              refine a_iald (pc := 108) X 0 rfl rfl rfl c_108 dX12_walker_108 ?_
              have h := Option.some.inj h; subst h
              exact a_iret (pc := 109) X trivial dX12_walker_109
            · have h := x_ifn c_19_4 h
              by_cases c_19_5 : x1 = (5 : Int32)
              · have h := x_ifp c_19_5 h
                refine a_tin (pc := 19) X 110 dX12_walker_19 c_19_5 (by decide) (by decide) rfl rfl ?_
                refine a_aload_n (pc := 110) X 0 dX12_walker_110 rfl rfl ?_
                refine a_getR (pc := 111) X 0 2 2 fl_RX12_98 rfl rfl rfl rfl rfl dX12_walker_111 ?_
                refine a_bipush (pc := 114) X dX12_walker_114 q_bp_94 ?_
                refine a_iload_n (pc := 116) X 1 dX12_walker_116 rfl rfl ?_
                refine a_iadd (pc := 117) X dX12_walker_117 ?_
                obtain ⟨c_118, h⟩ := x_ck_elim h
                refine a_iald (pc := 118) X 0 rfl rfl rfl c_118 dX12_walker_118 ?_
                have h := Option.some.inj h; subst h
                exact a_iret (pc := 119) X trivial dX12_walker_119
              · have h := x_ifn c_19_5 h
                by_cases c_19_6 : x1 = (6 : Int32)
                · have h := x_ifp c_19_6 h
                  refine a_tin (pc := 19) X 120 dX12_walker_19 c_19_6 (by decide) (by decide) rfl rfl ?_
                  refine a_aload_n (pc := 120) X 0 dX12_walker_120 rfl rfl ?_
                  refine a_iload_n (pc := 121) X 1 dX12_walker_121 rfl rfl ?_
                  obtain ⟨y4, e_y4, h⟩ := x_bo_elim h
                  refine a_callV (pc := 122) (st2 := [.int y4.1]) (vs2 := [y4.2]) X [(0, 0, 20)] [some y4.2] 0 0 12 [.int x0] [] cv_RX12_277 (c_X12_isLost (ad0 := ad0)  e_y4) rfl rfl rfl rfl rfl rfl rfl rfl rfl rfl rfl rfl rfl rfl rfl (Nat.le_of_ble_eq_true rfl) ⟨Nat.le_of_ble_eq_true rfl, Nat.le_of_ble_eq_true rfl⟩ dX12_walker_122 (fun z_122 => ?_)
                  refine a_if_eq (pc := 125) X 132 dX12_walker_125 rfl (fun c_125 => ?_) (fun c_125 => ?_)
                  · have h := x_ifp c_125 h
                    refine a_iconst (pc := 132) X dX12_walker_132 q_ic_0 ?_
                    have h := Option.some.inj h; subst h
                    exact a_iret (pc := 133) X trivial dX12_walker_133
                  · have h := x_ifn c_125 h
                    refine a_iconst (pc := 128) X dX12_walker_128 q_ic_1 ?_
                    refine a_goto (pc := 129) X 133 dX12_walker_129 rfl ?_
                    have h := Option.some.inj h; subst h
                    exact a_iret (pc := 133) X trivial dX12_walker_133
                · have h := x_ifn c_19_6 h
                  refine a_tout (pc := 19) X 134 dX12_walker_19 (by have q0 := x_ne c_19_0; have q1 := x_ne c_19_1; have q2 := x_ne c_19_2; have q3 := x_ne c_19_3; have q4 := x_ne c_19_4; have q5 := x_ne c_19_5; have q6 := x_ne c_19_6; have q0 : (x1 : Int32).toInt ≠ 0 := q0; have q1 : (x1 : Int32).toInt ≠ 1 := q1; have q2 : (x1 : Int32).toInt ≠ 2 := q2; have q3 : (x1 : Int32).toInt ≠ 3 := q3; have q4 : (x1 : Int32).toInt ≠ 4 := q4; have q5 : (x1 : Int32).toInt ≠ 5 := q5; have q6 : (x1 : Int32).toInt ≠ 6 := q6; omega) rfl ?_
                  refine a_aload_n (pc := 134) X 0 dX12_walker_134 rfl rfl ?_
                  obtain ⟨y5, e_y5, h⟩ := x_lt_elim h
                  refine a_callV (pc := 135) (st2 := [.int y5.1]) (vs2 := [y5.2]) X [(0, 0, 20)] [some y5.2] 0 0 12 [] [] cv_RX12_274 (c_X12_refuse (ad0 := ad0)  e_y5) rfl rfl rfl rfl rfl rfl rfl rfl rfl rfl rfl rfl rfl rfl rfl (Nat.le_of_ble_eq_true rfl) ⟨Nat.le_of_ble_eq_true rfl, Nat.le_of_ble_eq_true rfl⟩ dX12_walker_135 (fun _ => ?_)
                  have h := Option.some.inj h; subst h
                  exact a_iret (pc := 138) X trivial dX12_walker_138
  · have h := x_ifp c_10 h
    refine a_aload_n (pc := 13) X 0 dX12_walker_13 rfl rfl ?_
    obtain ⟨y6, e_y6, h⟩ := x_lt_elim h
    refine a_callV (pc := 14) (st2 := [.int y6.1]) (vs2 := [y6.2]) X [(0, 0, 20)] [some y6.2] 0 0 12 [] [] cv_RX12_274 (c_X12_refuse (ad0 := ad0)  e_y6) rfl rfl rfl rfl rfl rfl rfl rfl rfl rfl rfl rfl rfl rfl rfl (Nat.le_of_ble_eq_true rfl) ⟨Nat.le_of_ble_eq_true rfl, Nat.le_of_ble_eq_true rfl⟩ dX12_walker_14 (fun _ => ?_)
    have h := Option.some.inj h; subst h
    exact a_iret (pc := 17) X trivial dX12_walker_17
theorem dX12_goers_0 : decode cX12_goers 0 = .ok (.iconst 0, 1) := by decide +kernel
theorem dX12_goers_1 : decode cX12_goers 1 = .ok (.istore_n 2, 1) := by decide +kernel
theorem dX12_goers_2 : decode cX12_goers 2 = .ok (.iconst 0, 1) := by decide +kernel
theorem dX12_goers_3 : decode cX12_goers 3 = .ok (.istore_n 3, 1) := by decide +kernel
theorem dX12_goers_4 : decode cX12_goers 4 = .ok (.iload_n 3, 1) := by decide +kernel
theorem dX12_goers_5 : decode cX12_goers 5 = .ok (.aload_n 0, 1) := by decide +kernel
theorem dX12_goers_6 : decode cX12_goers 6 = .ok (.getfield 98, 3) := by decide +kernel
theorem dX12_goers_9 : decode cX12_goers 9 = .ok (.iconst 3, 1) := by decide +kernel
theorem dX12_goers_10 : decode cX12_goers 10 = .ok (.iaload, 1) := by decide +kernel
theorem dX12_goers_11 : decode cX12_goers 11 = .ok (.if_icmp .ge 28, 3) := by decide +kernel
theorem dX12_goers_14 : decode cX12_goers 14 = .ok (.aload_n 0, 1) := by decide +kernel
theorem dX12_goers_15 : decode cX12_goers 15 = .ok (.getfield 98, 3) := by decide +kernel
theorem dX12_goers_18 : decode cX12_goers 18 = .ok (.bipush 79, 2) := by decide +kernel
theorem dX12_goers_20 : decode cX12_goers 20 = .ok (.iload_n 3, 1) := by decide +kernel
theorem dX12_goers_21 : decode cX12_goers 21 = .ok (.iadd, 1) := by decide +kernel
theorem dX12_goers_22 : decode cX12_goers 22 = .ok (.iaload, 1) := by decide +kernel
theorem dX12_goers_23 : decode cX12_goers 23 = .ok (.iload_n 1, 1) := by decide +kernel
theorem dX12_goers_24 : decode cX12_goers 24 = .ok (.if_icmp .ne 9, 3) := by decide +kernel
theorem dX12_goers_27 : decode cX12_goers 27 = .ok (.iload_n 2, 1) := by decide +kernel
theorem dX12_goers_28 : decode cX12_goers 28 = .ok (.iconst 1, 1) := by decide +kernel
theorem dX12_goers_29 : decode cX12_goers 29 = .ok (.iload_n 3, 1) := by decide +kernel
theorem dX12_goers_30 : decode cX12_goers 30 = .ok (.ishl, 1) := by decide +kernel
theorem dX12_goers_31 : decode cX12_goers 31 = .ok (.ior, 1) := by decide +kernel
theorem dX12_goers_32 : decode cX12_goers 32 = .ok (.istore_n 2, 1) := by decide +kernel
theorem dX12_goers_33 : decode cX12_goers 33 = .ok (.iinc 3 1, 3) := by decide +kernel
theorem dX12_goers_36 : decode cX12_goers 36 = .ok (.goto (-32), 3) := by decide +kernel
theorem dX12_goers_39 : decode cX12_goers 39 = .ok (.iload_n 2, 1) := by decide +kernel
theorem dX12_goers_40 : decode cX12_goers 40 = .ok (.ireturn, 1) := by decide +kernel
def f_X12_goers_33 (v0 : XM) (k4 : Int32 → Int32 → Int32 → Option (Int32)) (l1 : Int32) (l2 : Int32) (l3 : Int32) : Option (Int32) :=
  k4 l1 l2 (l3 + 1)
def f_X12_goers_4 (v0 : XM) (k4 : Int32 → Int32 → Int32 → Option (Int32)) (l1 : Int32) (l2 : Int32) (l3 : Int32) : Option (Int32) :=
  if ((x_ga v0 2 (3 : Int32)) : Int32) ≤ l3 then
  (some (l2 : Int32))
  else (x_ck ((79 : Int32) + l3) 353 (
  if ((x_ga v0 2 ((79 : Int32) + l3)) : Int32) = l1 then
  (x_lt (l2 ||| ((1 : Int32) <<< (l3 &&& 31))) (fun y1 =>
  f_X12_goers_33 v0 k4 l1 y1 l3))
  else (f_X12_goers_33 v0 k4 l1 l2 l3)))
def f_X12_goers (v0 : XM) (x0 : Int32) : Option (Int32) :=
  x_lp (φ := Int32 → Int32 → Int32 → Option (Int32)) (fun _ _ _ => none) (f_X12_goers_4 v0 ) x_NN x0 (0 : Int32) (0 : Int32)
set_option maxRecDepth 100000 in
set_option maxHeartbeats 4000000 in
theorem w_X12_goers_33 {p : Program} {l : Launch} {e : Env} {s : State} {m : MethodId} {args : Array Value} {below : List Frame} {meth : Method} {c : Code} {D : va_G} {tc : Nat → ClassId} {aK aV : Nat → Nat} {A : Nat → Prop} {ad0 : Nat → Nat} {v0 : XM} (X : Cx p s m args meth c cX12_goers 4 (some .int) RX12 D tc aK aV A [(shModel, ad0)])  {o : Int32} {k4 : Int32 → Int32 → Int32 → Option (Int32)} (hk4 : ∀ (l1 : Int32) (l2 : Int32) (l3 : Int32), k4 l1 l2 l3 = some o → aW p l e (x_Rm 0) s m args below meth c D tc A 4 [(shModel, ad0)] (some (.int o)) True [v0] 4 [(0, .ref (ad0 0)), (1, .int l1), (2, .int l2), (3, .int l3)] [] [v0]) {l1 : Int32} {l2 : Int32} {l3 : Int32}  (h : f_X12_goers_33 v0 k4 l1 l2 l3 = some o) : aW p l e (x_Rm 0) s m args below meth c D tc A 4 [(shModel, ad0)] (some (.int o)) True [v0] 33 [(0, .ref (ad0 0)), (1, .int l1), (2, .int l2), (3, .int l3)] [] [v0] := by
  unfold f_X12_goers_33 at h
  refine a_iinc (pc := 33) X 3 [(3, .int (l3 + 1)), (0, .ref (ad0 0)), (1, .int l1), (2, .int l2)] dX12_goers_33 rfl (congrArg (HAdd.hAdd l3) q_ic_1) (by decide) rfl ?_
  refine a_goto (pc := 36) X 4 dX12_goers_36 rfl ?_
  refine a_sub [1, 2, 3, 0] rfl ?_
  exact hk4 _ _ _ h
set_option maxRecDepth 100000 in
set_option maxHeartbeats 4000000 in
theorem w_X12_goers_4 {p : Program} {l : Launch} {e : Env} {s : State} {m : MethodId} {args : Array Value} {below : List Frame} {meth : Method} {c : Code} {D : va_G} {tc : Nat → ClassId} {aK aV : Nat → Nat} {A : Nat → Prop} {ad0 : Nat → Nat} {v0 : XM} (X : Cx p s m args meth c cX12_goers 4 (some .int) RX12 D tc aK aV A [(shModel, ad0)])  {o : Int32}  : ∀ (n : Nat), ∀ (l1 : Int32) (l2 : Int32) (l3 : Int32), x_lp (φ := Int32 → Int32 → Int32 → Option (Int32)) (fun _ _ _ => none) (f_X12_goers_4 v0 ) n l1 l2 l3 = some o → aW p l e (x_Rm 0) s m args below meth c D tc A 4 [(shModel, ad0)] (some (.int o)) True [v0] 4 [(0, .ref (ad0 0)), (1, .int l1), (2, .int l2), (3, .int l3)] [] [v0] := by
  intro n
  induction n with
  | zero => intro l1 l2 l3 h; exact absurd h (fun q => by cases q)
  | succ n ih =>
    intro l1 l2 l3 h
    have h : f_X12_goers_4 v0  (x_lp (φ := Int32 → Int32 → Int32 → Option (Int32)) (fun _ _ _ => none) (f_X12_goers_4 v0 ) n) l1 l2 l3 = some o := h
    generalize x_lp (φ := Int32 → Int32 → Int32 → Option (Int32)) (fun _ _ _ => none) (f_X12_goers_4 v0 ) n = k4 at h ih
    have hk4 := ih
    unfold f_X12_goers_4 at h
    refine a_iload_n (pc := 4) X 3 dX12_goers_4 rfl rfl ?_
    refine a_aload_n (pc := 5) X 0 dX12_goers_5 rfl rfl ?_
    refine a_getR (pc := 6) X 0 2 2 fl_RX12_98 rfl rfl rfl rfl rfl dX12_goers_6 ?_
    refine a_iconst (pc := 9) X dX12_goers_9 q_ic_3 ?_
    refine a_iald (pc := 10) X 0 rfl rfl rfl (x_inl (by decide)) dX12_goers_10 ?_
    refine a_icmp_ge (pc := 11) X 39 dX12_goers_11 rfl (fun c_11 => ?_) (fun c_11 => ?_)
    · have h := x_ifp c_11 h
      refine a_iload_n (pc := 39) X 2 dX12_goers_39 rfl rfl ?_
      have h := Option.some.inj h; subst h
      exact a_iret (pc := 40) X trivial dX12_goers_40
    · have h := x_ifn c_11 h
      refine a_aload_n (pc := 14) X 0 dX12_goers_14 rfl rfl ?_
      refine a_getR (pc := 15) X 0 2 2 fl_RX12_98 rfl rfl rfl rfl rfl dX12_goers_15 ?_
      refine a_bipush (pc := 18) X dX12_goers_18 q_bp_79 ?_
      refine a_iload_n (pc := 20) X 3 dX12_goers_20 rfl rfl ?_
      refine a_iadd (pc := 21) X dX12_goers_21 ?_
      obtain ⟨c_22, h⟩ := x_ck_elim h
      refine a_iald (pc := 22) X 0 rfl rfl rfl c_22 dX12_goers_22 ?_
      refine a_iload_n (pc := 23) X 1 dX12_goers_23 rfl rfl ?_
      refine a_icmp_ne (pc := 24) X 33 dX12_goers_24 rfl (fun c_24 => ?_) (fun c_24 => ?_)
      · have h := x_ifn c_24 h
        exact w_X12_goers_33 X   hk4  h
      · have h := x_ifp c_24 h
        refine a_iload_n (pc := 27) X 2 dX12_goers_27 rfl rfl ?_
        refine a_iconst (pc := 28) X dX12_goers_28 q_ic_1 ?_
        refine a_iload_n (pc := 29) X 3 dX12_goers_29 rfl rfl ?_
        refine a_ishl (pc := 30) X dX12_goers_30 ?_
        refine a_ior (pc := 31) X dX12_goers_31 ?_
        obtain ⟨y1, e_y1, h⟩ := x_lt_elim h
        refine a_ni e_y1 ?_
        refine a_istore_n (pc := 32) X [(2, .int y1), (0, .ref (ad0 0)), (1, .int l1), (3, .int l3)] dX12_goers_32 rfl (by decide) rfl ?_
        refine a_sub [1, 2, 0, 3] rfl ?_
        exact w_X12_goers_33 X   hk4  h
set_option maxRecDepth 100000 in
set_option maxHeartbeats 4000000 in
theorem c_X12_goers {l : Launch}  {ad0 : Nat → Nat} {v0 : XM} {x0 : Int32}  {o : Int32} (h : f_X12_goers v0 x0 = some o) : CT l yX12_goers cX12_goers 4 (some .int) 0 [(shModel, ad0)] [v0] (fun aK => [.ref (ad0 0), .int x0]) (some (.int o)) True [v0] := by
  refine CT_of (by decide) (fun _ => Nat.le_of_ble_eq_true rfl) ?_
  intro p e s m args below meth c D tc aK aV A X
  have X : Cx p s m args meth c cX12_goers 4 (some .int) RX12 D tc aK aV A [(shModel, ad0)] := X
  show aW p l e (x_Rm 0) s m args below meth c D tc A 4 [(shModel, ad0)] (some (.int o)) True [v0] 0 [(0, .ref (ad0 0)), (1, .int x0)] [] [v0]
  unfold f_X12_goers at h
  refine a_iconst (pc := 0) X dX12_goers_0 q_ic_0 ?_
  refine a_istore_n (pc := 1) X [(2, .int (0 : Int32)), (0, .ref (ad0 0)), (1, .int x0)] dX12_goers_1 rfl (by decide) rfl ?_
  refine a_iconst (pc := 2) X dX12_goers_2 q_ic_0 ?_
  refine a_istore_n (pc := 3) X [(3, .int (0 : Int32)), (2, .int (0 : Int32)), (0, .ref (ad0 0)), (1, .int x0)] dX12_goers_3 rfl (by decide) rfl ?_
  refine a_sub [2, 3, 1, 0] rfl ?_
  exact w_X12_goers_4 X    x_NN _ _ _ h
theorem dX12_fold_0 : decode cX12_fold 0 = .ok (.aload_n 0, 1) := by decide +kernel
theorem dX12_fold_1 : decode cX12_fold 1 = .ok (.iconst 0, 1) := by decide +kernel
theorem dX12_fold_2 : decode cX12_fold 2 = .ok (.putfield 1, 3) := by decide +kernel
theorem dX12_fold_5 : decode cX12_fold 5 = .ok (.aload_n 0, 1) := by decide +kernel
theorem dX12_fold_6 : decode cX12_fold 6 = .ok (.iload_n 1, 1) := by decide +kernel
theorem dX12_fold_7 : decode cX12_fold 7 = .ok (.invokevirtual 280, 3) := by decide +kernel
theorem dX12_fold_10 : decode cX12_fold 10 = .ok (.ifCond .ne 5, 3) := by decide +kernel
theorem dX12_fold_13 : decode cX12_fold 13 = .ok (.iconst (-1), 1) := by decide +kernel
theorem dX12_fold_14 : decode cX12_fold 14 = .ok (.ireturn, 1) := by decide +kernel
theorem dX12_fold_15 : decode cX12_fold 15 = .ok (.iload_n 2, 1) := by decide +kernel
theorem dX12_fold_16 : decode cX12_fold 16 = .ok (.tableswitch 92 0 5 #[40, 50, 60, 66, 76, 86], 40) := by decide +kernel
theorem dX12_fold_56 : decode cX12_fold 56 = .ok (.aload_n 0, 1) := by decide +kernel
theorem dX12_fold_57 : decode cX12_fold 57 = .ok (.getfield 98, 3) := by decide +kernel
theorem dX12_fold_60 : decode cX12_fold 60 = .ok (.bipush 6, 2) := by decide +kernel
theorem dX12_fold_62 : decode cX12_fold 62 = .ok (.iload_n 1, 1) := by decide +kernel
theorem dX12_fold_63 : decode cX12_fold 63 = .ok (.iadd, 1) := by decide +kernel
theorem dX12_fold_64 : decode cX12_fold 64 = .ok (.iaload, 1) := by decide +kernel
theorem dX12_fold_65 : decode cX12_fold 65 = .ok (.ireturn, 1) := by decide +kernel
theorem dX12_fold_66 : decode cX12_fold 66 = .ok (.aload_n 0, 1) := by decide +kernel
theorem dX12_fold_67 : decode cX12_fold 67 = .ok (.getfield 98, 3) := by decide +kernel
theorem dX12_fold_70 : decode cX12_fold 70 = .ok (.bipush 18, 2) := by decide +kernel
theorem dX12_fold_72 : decode cX12_fold 72 = .ok (.iload_n 1, 1) := by decide +kernel
theorem dX12_fold_73 : decode cX12_fold 73 = .ok (.iadd, 1) := by decide +kernel
theorem dX12_fold_74 : decode cX12_fold 74 = .ok (.iaload, 1) := by decide +kernel
theorem dX12_fold_75 : decode cX12_fold 75 = .ok (.ireturn, 1) := by decide +kernel
theorem dX12_fold_76 : decode cX12_fold 76 = .ok (.aload_n 0, 1) := by decide +kernel
theorem dX12_fold_77 : decode cX12_fold 77 = .ok (.iload_n 1, 1) := by decide +kernel
theorem dX12_fold_78 : decode cX12_fold 78 = .ok (.invokevirtual 249, 3) := by decide +kernel
theorem dX12_fold_81 : decode cX12_fold 81 = .ok (.ireturn, 1) := by decide +kernel
theorem dX12_fold_82 : decode cX12_fold 82 = .ok (.aload_n 0, 1) := by decide +kernel
theorem dX12_fold_83 : decode cX12_fold 83 = .ok (.getfield 98, 3) := by decide +kernel
theorem dX12_fold_86 : decode cX12_fold 86 = .ok (.bipush 42, 2) := by decide +kernel
theorem dX12_fold_88 : decode cX12_fold 88 = .ok (.iload_n 1, 1) := by decide +kernel
theorem dX12_fold_89 : decode cX12_fold 89 = .ok (.iadd, 1) := by decide +kernel
theorem dX12_fold_90 : decode cX12_fold 90 = .ok (.iaload, 1) := by decide +kernel
theorem dX12_fold_91 : decode cX12_fold 91 = .ok (.ireturn, 1) := by decide +kernel
theorem dX12_fold_92 : decode cX12_fold 92 = .ok (.aload_n 0, 1) := by decide +kernel
theorem dX12_fold_93 : decode cX12_fold 93 = .ok (.getfield 98, 3) := by decide +kernel
theorem dX12_fold_96 : decode cX12_fold 96 = .ok (.bipush 99, 2) := by decide +kernel
theorem dX12_fold_98 : decode cX12_fold 98 = .ok (.iload_n 1, 1) := by decide +kernel
theorem dX12_fold_99 : decode cX12_fold 99 = .ok (.iadd, 1) := by decide +kernel
theorem dX12_fold_100 : decode cX12_fold 100 = .ok (.iaload, 1) := by decide +kernel
theorem dX12_fold_101 : decode cX12_fold 101 = .ok (.ireturn, 1) := by decide +kernel
theorem dX12_fold_102 : decode cX12_fold 102 = .ok (.aload_n 0, 1) := by decide +kernel
theorem dX12_fold_103 : decode cX12_fold 103 = .ok (.iload_n 1, 1) := by decide +kernel
theorem dX12_fold_104 : decode cX12_fold 104 = .ok (.invokevirtual 283, 3) := by decide +kernel
theorem dX12_fold_107 : decode cX12_fold 107 = .ok (.ireturn, 1) := by decide +kernel
theorem dX12_fold_108 : decode cX12_fold 108 = .ok (.iconst (-1), 1) := by decide +kernel
theorem dX12_fold_109 : decode cX12_fold 109 = .ok (.ireturn, 1) := by decide +kernel
def f_X12_fold (v0 : XM) (x0 : Int32) (x1 : Int32) : Option (Int32 × XM) :=
  x_lt (x_si v0 0 0 (0 : Int32)) (fun m1 =>
  x_lt (f_X12_isFold m1 x0) (fun y2 =>
  if y2 = (0 : Int32) then
  (some ((-1 : Int32), m1))
  else (if x1 = (0 : Int32) then
  (x_ck ((6 : Int32) + x0) 353 (
  some (x_ga m1 2 ((6 : Int32) + x0), m1)))
  else (if x1 = (1 : Int32) then
  (x_ck ((18 : Int32) + x0) 353 (
  some (x_ga m1 2 ((18 : Int32) + x0), m1)))
  else (if x1 = (2 : Int32) then
  (x_bo (f_X12_depthOf m1 x0) (fun y4 =>
  some (y4, m1)))
  else (if x1 = (3 : Int32) then
  (x_ck ((42 : Int32) + x0) 353 (
  some (x_ga m1 2 ((42 : Int32) + x0), m1)))
  else (if x1 = (4 : Int32) then
  (x_ck ((99 : Int32) + x0) 353 (
  some (x_ga m1 2 ((99 : Int32) + x0), m1)))
  else (if x1 = (5 : Int32) then
  (x_bo (f_X12_goers m1 x0) (fun y5 =>
  some (y5, m1)))
  else (some ((-1 : Int32), m1))))))))))
set_option maxRecDepth 100000 in
set_option maxHeartbeats 4000000 in
theorem c_X12_fold {l : Launch}  {ad0 : Nat → Nat} {v0 : XM} {x0 : Int32} {x1 : Int32}  {o : Int32 × XM} (h : f_X12_fold v0 x0 x1 = some o) : CT l yX12_fold cX12_fold 3 (some .int) 3 [(shModel, ad0)] [v0] (fun aK => [.ref (ad0 0), .int x0, .int x1]) (some (.int o.1)) True [o.2] := by
  refine CT_of (by decide) (fun _ => Nat.le_of_ble_eq_true rfl) ?_
  intro p e s m args below meth c D tc aK aV A X
  have X : Cx p s m args meth c cX12_fold 3 (some .int) RX12 D tc aK aV A [(shModel, ad0)] := X
  show aW p l e (x_Rm 3) s m args below meth c D tc A 3 [(shModel, ad0)] (some (.int o.1)) True [o.2] 0 [(0, .ref (ad0 0)), (1, .int x0), (2, .int x1)] [] [v0]
  unfold f_X12_fold at h
  refine a_aload_n (pc := 0) X 0 dX12_fold_0 rfl rfl ?_
  refine a_iconst (pc := 1) X dX12_fold_1 q_ic_0 ?_
  refine a_putI (pc := 2) X 0 fl_RX12_1 rfl rfl rfl rfl dX12_fold_2 ?_
  obtain ⟨m1, e_m1, h⟩ := x_lt_elim h
  refine a_nm (vs2 := [m1]) (congrArg (fun q : XM => [q]) e_m1) ?_
  refine a_aload_n (pc := 5) X 0 dX12_fold_5 rfl rfl ?_
  refine a_iload_n (pc := 6) X 1 dX12_fold_6 rfl rfl ?_
  obtain ⟨y2, e_y2, h⟩ := x_lt_elim h
  refine a_callV (pc := 7) (st2 := [.int y2]) (vs2 := [m1]) X [(0, 0, 20)] [none] 0 0 12 [.int x0] [] cv_RX12_280 (c_X12_isFold (ad0 := ad0)  e_y2) rfl rfl rfl rfl rfl rfl rfl rfl rfl rfl rfl rfl rfl rfl rfl (Nat.le_of_ble_eq_true rfl) ⟨Nat.le_of_ble_eq_true rfl, Nat.le_of_ble_eq_true rfl⟩ dX12_fold_7 (fun z_7 => ?_)
  refine a_if_ne (pc := 10) X 15 dX12_fold_10 rfl (fun c_10 => ?_) (fun c_10 => ?_)
  · have h := x_ifn c_10 h
    refine a_iload_n (pc := 15) X 2 dX12_fold_15 rfl rfl ?_
    by_cases c_16_0 : x1 = (0 : Int32)
    · have h := x_ifp c_16_0 h
      refine a_tin (pc := 16) X 56 dX12_fold_16 c_16_0 (by decide) (by decide) rfl rfl ?_
      refine a_aload_n (pc := 56) X 0 dX12_fold_56 rfl rfl ?_
      refine a_getR (pc := 57) X 0 2 2 fl_RX12_98 rfl rfl rfl rfl rfl dX12_fold_57 ?_
      refine a_bipush (pc := 60) X dX12_fold_60 q_bp_6 ?_
      refine a_iload_n (pc := 62) X 1 dX12_fold_62 rfl rfl ?_
      refine a_iadd (pc := 63) X dX12_fold_63 ?_
      obtain ⟨c_64, h⟩ := x_ck_elim h
      refine a_iald (pc := 64) X 0 rfl rfl rfl c_64 dX12_fold_64 ?_
      have h := Option.some.inj h; subst h
      exact a_iret (pc := 65) X trivial dX12_fold_65
    · have h := x_ifn c_16_0 h
      by_cases c_16_1 : x1 = (1 : Int32)
      · have h := x_ifp c_16_1 h
        refine a_tin (pc := 16) X 66 dX12_fold_16 c_16_1 (by decide) (by decide) rfl rfl ?_
        refine a_aload_n (pc := 66) X 0 dX12_fold_66 rfl rfl ?_
        refine a_getR (pc := 67) X 0 2 2 fl_RX12_98 rfl rfl rfl rfl rfl dX12_fold_67 ?_
        refine a_bipush (pc := 70) X dX12_fold_70 q_bp_18 ?_
        refine a_iload_n (pc := 72) X 1 dX12_fold_72 rfl rfl ?_
        refine a_iadd (pc := 73) X dX12_fold_73 ?_
        obtain ⟨c_74, h⟩ := x_ck_elim h
        refine a_iald (pc := 74) X 0 rfl rfl rfl c_74 dX12_fold_74 ?_
        have h := Option.some.inj h; subst h
        exact a_iret (pc := 75) X trivial dX12_fold_75
      · have h := x_ifn c_16_1 h
        by_cases c_16_2 : x1 = (2 : Int32)
        · have h := x_ifp c_16_2 h
          refine a_tin (pc := 16) X 76 dX12_fold_16 c_16_2 (by decide) (by decide) rfl rfl ?_
          refine a_aload_n (pc := 76) X 0 dX12_fold_76 rfl rfl ?_
          refine a_iload_n (pc := 77) X 1 dX12_fold_77 rfl rfl ?_
          obtain ⟨y4, e_y4, h⟩ := x_bo_elim h
          refine a_callV (pc := 78) (st2 := [.int y4]) (vs2 := [m1]) X [(0, 0, 20)] [none] 0 0 12 [.int x0] [] cv_RX12_249 (c_X12_depthOf (ad0 := ad0)  e_y4) rfl rfl rfl rfl rfl rfl rfl rfl rfl rfl rfl rfl rfl rfl rfl (Nat.le_of_ble_eq_true rfl) ⟨Nat.le_of_ble_eq_true rfl, Nat.le_of_ble_eq_true rfl⟩ dX12_fold_78 (fun _ => ?_)
          have h := Option.some.inj h; subst h
          exact a_iret (pc := 81) X trivial dX12_fold_81
        · have h := x_ifn c_16_2 h
          by_cases c_16_3 : x1 = (3 : Int32)
          · have h := x_ifp c_16_3 h
            refine a_tin (pc := 16) X 82 dX12_fold_16 c_16_3 (by decide) (by decide) rfl rfl ?_
            refine a_aload_n (pc := 82) X 0 dX12_fold_82 rfl rfl ?_
            refine a_getR (pc := 83) X 0 2 2 fl_RX12_98 rfl rfl rfl rfl rfl dX12_fold_83 ?_
            refine a_bipush (pc := 86) X dX12_fold_86 q_bp_42 ?_
            refine a_iload_n (pc := 88) X 1 dX12_fold_88 rfl rfl ?_
            refine a_iadd (pc := 89) X dX12_fold_89 ?_
            obtain ⟨c_90, h⟩ := x_ck_elim h
            refine a_iald (pc := 90) X 0 rfl rfl rfl c_90 dX12_fold_90 ?_
            have h := Option.some.inj h; subst h
            exact a_iret (pc := 91) X trivial dX12_fold_91
          · have h := x_ifn c_16_3 h
            by_cases c_16_4 : x1 = (4 : Int32)
            · have h := x_ifp c_16_4 h
              refine a_tin (pc := 16) X 92 dX12_fold_16 c_16_4 (by decide) (by decide) rfl rfl ?_
              refine a_aload_n (pc := 92) X 0 dX12_fold_92 rfl rfl ?_
              refine a_getR (pc := 93) X 0 2 2 fl_RX12_98 rfl rfl rfl rfl rfl dX12_fold_93 ?_
              refine a_bipush (pc := 96) X dX12_fold_96 q_bp_99 ?_
              refine a_iload_n (pc := 98) X 1 dX12_fold_98 rfl rfl ?_
              refine a_iadd (pc := 99) X dX12_fold_99 ?_
              obtain ⟨c_100, h⟩ := x_ck_elim h
              refine a_iald (pc := 100) X 0 rfl rfl rfl c_100 dX12_fold_100 ?_
              have h := Option.some.inj h; subst h
              exact a_iret (pc := 101) X trivial dX12_fold_101
            · have h := x_ifn c_16_4 h
              by_cases c_16_5 : x1 = (5 : Int32)
              · have h := x_ifp c_16_5 h
                refine a_tin (pc := 16) X 102 dX12_fold_16 c_16_5 (by decide) (by decide) rfl rfl ?_
                refine a_aload_n (pc := 102) X 0 dX12_fold_102 rfl rfl ?_
                refine a_iload_n (pc := 103) X 1 dX12_fold_103 rfl rfl ?_
                obtain ⟨y5, e_y5, h⟩ := x_bo_elim h
                refine a_callV (pc := 104) (st2 := [.int y5]) (vs2 := [m1]) X [(0, 0, 20)] [none] 0 0 12 [.int x0] [] cv_RX12_283 (c_X12_goers (ad0 := ad0)  e_y5) rfl rfl rfl rfl rfl rfl rfl rfl rfl rfl rfl rfl rfl rfl rfl (Nat.le_of_ble_eq_true rfl) ⟨Nat.le_of_ble_eq_true rfl, Nat.le_of_ble_eq_true rfl⟩ dX12_fold_104 (fun _ => ?_)
                have h := Option.some.inj h; subst h
                exact a_iret (pc := 107) X trivial dX12_fold_107
              · have h := x_ifn c_16_5 h
                refine a_tout (pc := 16) X 108 dX12_fold_16 (by have q0 := x_ne c_16_0; have q1 := x_ne c_16_1; have q2 := x_ne c_16_2; have q3 := x_ne c_16_3; have q4 := x_ne c_16_4; have q5 := x_ne c_16_5; have q0 : (x1 : Int32).toInt ≠ 0 := q0; have q1 : (x1 : Int32).toInt ≠ 1 := q1; have q2 : (x1 : Int32).toInt ≠ 2 := q2; have q3 : (x1 : Int32).toInt ≠ 3 := q3; have q4 : (x1 : Int32).toInt ≠ 4 := q4; have q5 : (x1 : Int32).toInt ≠ 5 := q5; omega) rfl ?_
                refine a_iconst (pc := 108) X dX12_fold_108 q_ic_m1 ?_
                have h := Option.some.inj h; subst h
                exact a_iret (pc := 109) X trivial dX12_fold_109
  · have h := x_ifp c_10 h
    refine a_iconst (pc := 13) X dX12_fold_13 q_ic_m1 ?_
    have h := Option.some.inj h; subst h
    exact a_iret (pc := 14) X trivial dX12_fold_14
theorem dX12_spot_0 : decode cX12_spot 0 = .ok (.aload_n 0, 1) := by decide +kernel
theorem dX12_spot_1 : decode cX12_spot 1 = .ok (.iconst 0, 1) := by decide +kernel
theorem dX12_spot_2 : decode cX12_spot 2 = .ok (.putfield 1, 3) := by decide +kernel
theorem dX12_spot_5 : decode cX12_spot 5 = .ok (.aload_n 0, 1) := by decide +kernel
theorem dX12_spot_6 : decode cX12_spot 6 = .ok (.iload_n 1, 1) := by decide +kernel
theorem dX12_spot_7 : decode cX12_spot 7 = .ok (.invokevirtual 286, 3) := by decide +kernel
theorem dX12_spot_10 : decode cX12_spot 10 = .ok (.ifCond .ne 5, 3) := by decide +kernel
theorem dX12_spot_13 : decode cX12_spot 13 = .ok (.iconst (-1), 1) := by decide +kernel
theorem dX12_spot_14 : decode cX12_spot 14 = .ok (.ireturn, 1) := by decide +kernel
theorem dX12_spot_15 : decode cX12_spot 15 = .ok (.iconst 0, 1) := by decide +kernel
theorem dX12_spot_16 : decode cX12_spot 16 = .ok (.istore_n 3, 1) := by decide +kernel
theorem dX12_spot_17 : decode cX12_spot 17 = .ok (.iload_n 2, 1) := by decide +kernel
theorem dX12_spot_18 : decode cX12_spot 18 = .ok (.tableswitch 184 0 3 #[30, 49, 92, 132], 30) := by decide +kernel
theorem dX12_spot_48 : decode cX12_spot 48 = .ok (.aload_n 0, 1) := by decide +kernel
theorem dX12_spot_49 : decode cX12_spot 49 = .ok (.getfield 98, 3) := by decide +kernel
theorem dX12_spot_52 : decode cX12_spot 52 = .ok (.iconst 5, 1) := by decide +kernel
theorem dX12_spot_53 : decode cX12_spot 53 = .ok (.iaload, 1) := by decide +kernel
theorem dX12_spot_54 : decode cX12_spot 54 = .ok (.iload_n 1, 1) := by decide +kernel
theorem dX12_spot_55 : decode cX12_spot 55 = .ok (.invokestatic 243, 3) := by decide +kernel
theorem dX12_spot_58 : decode cX12_spot 58 = .ok (.ifCond .eq 7, 3) := by decide +kernel
theorem dX12_spot_61 : decode cX12_spot 61 = .ok (.iconst 1, 1) := by decide +kernel
theorem dX12_spot_62 : decode cX12_spot 62 = .ok (.goto 4, 3) := by decide +kernel
theorem dX12_spot_65 : decode cX12_spot 65 = .ok (.iconst 0, 1) := by decide +kernel
theorem dX12_spot_66 : decode cX12_spot 66 = .ok (.ireturn, 1) := by decide +kernel
theorem dX12_spot_67 : decode cX12_spot 67 = .ok (.iconst 0, 1) := by decide +kernel
theorem dX12_spot_68 : decode cX12_spot 68 = .ok (.istore 4, 2) := by decide +kernel
theorem dX12_spot_70 : decode cX12_spot 70 = .ok (.iload 4, 2) := by decide +kernel
theorem dX12_spot_72 : decode cX12_spot 72 = .ok (.aload_n 0, 1) := by decide +kernel
theorem dX12_spot_73 : decode cX12_spot 73 = .ok (.getfield 98, 3) := by decide +kernel
theorem dX12_spot_76 : decode cX12_spot 76 = .ok (.iconst 2, 1) := by decide +kernel
theorem dX12_spot_77 : decode cX12_spot 77 = .ok (.iaload, 1) := by decide +kernel
theorem dX12_spot_78 : decode cX12_spot 78 = .ok (.if_icmp .ge 30, 3) := by decide +kernel
theorem dX12_spot_81 : decode cX12_spot 81 = .ok (.aload_n 0, 1) := by decide +kernel
theorem dX12_spot_82 : decode cX12_spot 82 = .ok (.getfield 98, 3) := by decide +kernel
theorem dX12_spot_85 : decode cX12_spot 85 = .ok (.bipush 54, 2) := by decide +kernel
theorem dX12_spot_87 : decode cX12_spot 87 = .ok (.iload 4, 2) := by decide +kernel
theorem dX12_spot_89 : decode cX12_spot 89 = .ok (.iadd, 1) := by decide +kernel
theorem dX12_spot_90 : decode cX12_spot 90 = .ok (.iaload, 1) := by decide +kernel
theorem dX12_spot_91 : decode cX12_spot 91 = .ok (.iload_n 1, 1) := by decide +kernel
theorem dX12_spot_92 : decode cX12_spot 92 = .ok (.if_icmp .ne 10, 3) := by decide +kernel
theorem dX12_spot_95 : decode cX12_spot 95 = .ok (.iload_n 3, 1) := by decide +kernel
theorem dX12_spot_96 : decode cX12_spot 96 = .ok (.iconst 1, 1) := by decide +kernel
theorem dX12_spot_97 : decode cX12_spot 97 = .ok (.iload 4, 2) := by decide +kernel
theorem dX12_spot_99 : decode cX12_spot 99 = .ok (.ishl, 1) := by decide +kernel
theorem dX12_spot_100 : decode cX12_spot 100 = .ok (.ior, 1) := by decide +kernel
theorem dX12_spot_101 : decode cX12_spot 101 = .ok (.istore_n 3, 1) := by decide +kernel
theorem dX12_spot_102 : decode cX12_spot 102 = .ok (.iinc 4 1, 3) := by decide +kernel
theorem dX12_spot_105 : decode cX12_spot 105 = .ok (.goto (-35), 3) := by decide +kernel
theorem dX12_spot_108 : decode cX12_spot 108 = .ok (.iload_n 3, 1) := by decide +kernel
theorem dX12_spot_109 : decode cX12_spot 109 = .ok (.ireturn, 1) := by decide +kernel
theorem dX12_spot_110 : decode cX12_spot 110 = .ok (.iconst 0, 1) := by decide +kernel
theorem dX12_spot_111 : decode cX12_spot 111 = .ok (.istore 4, 2) := by decide +kernel
theorem dX12_spot_113 : decode cX12_spot 113 = .ok (.iload 4, 2) := by decide +kernel
theorem dX12_spot_115 : decode cX12_spot 115 = .ok (.aload_n 0, 1) := by decide +kernel
theorem dX12_spot_116 : decode cX12_spot 116 = .ok (.getfield 98, 3) := by decide +kernel
theorem dX12_spot_119 : decode cX12_spot 119 = .ok (.iconst 1, 1) := by decide +kernel
theorem dX12_spot_120 : decode cX12_spot 120 = .ok (.iaload, 1) := by decide +kernel
theorem dX12_spot_121 : decode cX12_spot 121 = .ok (.if_icmp .ge 27, 3) := by decide +kernel
theorem dX12_spot_124 : decode cX12_spot 124 = .ok (.aload_n 0, 1) := by decide +kernel
theorem dX12_spot_125 : decode cX12_spot 125 = .ok (.iload 4, 2) := by decide +kernel
theorem dX12_spot_127 : decode cX12_spot 127 = .ok (.iload_n 1, 1) := by decide +kernel
theorem dX12_spot_128 : decode cX12_spot 128 = .ok (.invokevirtual 252, 3) := by decide +kernel
theorem dX12_spot_131 : decode cX12_spot 131 = .ok (.iconst (-1), 1) := by decide +kernel
theorem dX12_spot_132 : decode cX12_spot 132 = .ok (.if_icmp .eq 10, 3) := by decide +kernel
theorem dX12_spot_135 : decode cX12_spot 135 = .ok (.iload_n 3, 1) := by decide +kernel
theorem dX12_spot_136 : decode cX12_spot 136 = .ok (.iconst 1, 1) := by decide +kernel
theorem dX12_spot_137 : decode cX12_spot 137 = .ok (.iload 4, 2) := by decide +kernel
theorem dX12_spot_139 : decode cX12_spot 139 = .ok (.ishl, 1) := by decide +kernel
theorem dX12_spot_140 : decode cX12_spot 140 = .ok (.ior, 1) := by decide +kernel
theorem dX12_spot_141 : decode cX12_spot 141 = .ok (.istore_n 3, 1) := by decide +kernel
theorem dX12_spot_142 : decode cX12_spot 142 = .ok (.iinc 4 1, 3) := by decide +kernel
theorem dX12_spot_145 : decode cX12_spot 145 = .ok (.goto (-32), 3) := by decide +kernel
theorem dX12_spot_148 : decode cX12_spot 148 = .ok (.iload_n 3, 1) := by decide +kernel
theorem dX12_spot_149 : decode cX12_spot 149 = .ok (.ireturn, 1) := by decide +kernel
theorem dX12_spot_150 : decode cX12_spot 150 = .ok (.iconst 0, 1) := by decide +kernel
theorem dX12_spot_151 : decode cX12_spot 151 = .ok (.istore 4, 2) := by decide +kernel
theorem dX12_spot_153 : decode cX12_spot 153 = .ok (.iload 4, 2) := by decide +kernel
theorem dX12_spot_155 : decode cX12_spot 155 = .ok (.aload_n 0, 1) := by decide +kernel
theorem dX12_spot_156 : decode cX12_spot 156 = .ok (.getfield 98, 3) := by decide +kernel
theorem dX12_spot_159 : decode cX12_spot 159 = .ok (.iconst 3, 1) := by decide +kernel
theorem dX12_spot_160 : decode cX12_spot 160 = .ok (.iaload, 1) := by decide +kernel
theorem dX12_spot_161 : decode cX12_spot 161 = .ok (.if_icmp .ge 39, 3) := by decide +kernel
theorem dX12_spot_164 : decode cX12_spot 164 = .ok (.aload_n 0, 1) := by decide +kernel
theorem dX12_spot_165 : decode cX12_spot 165 = .ok (.iload 4, 2) := by decide +kernel
theorem dX12_spot_167 : decode cX12_spot 167 = .ok (.invokevirtual 240, 3) := by decide +kernel
theorem dX12_spot_170 : decode cX12_spot 170 = .ok (.ifCond .ne 24, 3) := by decide +kernel
theorem dX12_spot_173 : decode cX12_spot 173 = .ok (.aload_n 0, 1) := by decide +kernel
theorem dX12_spot_174 : decode cX12_spot 174 = .ok (.getfield 98, 3) := by decide +kernel
theorem dX12_spot_177 : decode cX12_spot 177 = .ok (.bipush 74, 2) := by decide +kernel
theorem dX12_spot_179 : decode cX12_spot 179 = .ok (.iload 4, 2) := by decide +kernel
theorem dX12_spot_181 : decode cX12_spot 181 = .ok (.iadd, 1) := by decide +kernel
theorem dX12_spot_182 : decode cX12_spot 182 = .ok (.iaload, 1) := by decide +kernel
theorem dX12_spot_183 : decode cX12_spot 183 = .ok (.iload_n 1, 1) := by decide +kernel
theorem dX12_spot_184 : decode cX12_spot 184 = .ok (.if_icmp .ne 10, 3) := by decide +kernel
theorem dX12_spot_187 : decode cX12_spot 187 = .ok (.iload_n 3, 1) := by decide +kernel
theorem dX12_spot_188 : decode cX12_spot 188 = .ok (.iconst 1, 1) := by decide +kernel
theorem dX12_spot_189 : decode cX12_spot 189 = .ok (.iload 4, 2) := by decide +kernel
theorem dX12_spot_191 : decode cX12_spot 191 = .ok (.ishl, 1) := by decide +kernel
theorem dX12_spot_192 : decode cX12_spot 192 = .ok (.ior, 1) := by decide +kernel
theorem dX12_spot_193 : decode cX12_spot 193 = .ok (.istore_n 3, 1) := by decide +kernel
theorem dX12_spot_194 : decode cX12_spot 194 = .ok (.iinc 4 1, 3) := by decide +kernel
theorem dX12_spot_197 : decode cX12_spot 197 = .ok (.goto (-44), 3) := by decide +kernel
theorem dX12_spot_200 : decode cX12_spot 200 = .ok (.iload_n 3, 1) := by decide +kernel
theorem dX12_spot_201 : decode cX12_spot 201 = .ok (.ireturn, 1) := by decide +kernel
theorem dX12_spot_202 : decode cX12_spot 202 = .ok (.iconst (-1), 1) := by decide +kernel
theorem dX12_spot_203 : decode cX12_spot 203 = .ok (.ireturn, 1) := by decide +kernel
def f_X12_spot_102 (k70 : XM → Int32 → Int32 → Int32 → Option (Int32 × XM)) (w0 : XM) (l1 : Int32) (l3 : Int32) (l4 : Int32) : Option (Int32 × XM) :=
  k70 w0 l1 l3 (l4 + 1)
def f_X12_spot_70 (k70 : XM → Int32 → Int32 → Int32 → Option (Int32 × XM)) (w0 : XM) (l1 : Int32) (l3 : Int32) (l4 : Int32) : Option (Int32 × XM) :=
  if ((x_ga w0 2 (2 : Int32)) : Int32) ≤ l4 then
  (some (l3, w0))
  else (x_ck ((54 : Int32) + l4) 353 (
  if ((x_ga w0 2 ((54 : Int32) + l4)) : Int32) = l1 then
  (x_lt (l3 ||| ((1 : Int32) <<< (l4 &&& 31))) (fun y1 =>
  f_X12_spot_102  k70 w0 l1 y1 l4))
  else (f_X12_spot_102  k70 w0 l1 l3 l4)))
def f_X12_spot_142 (k113 : XM → Int32 → Int32 → Int32 → Option (Int32 × XM)) (w0 : XM) (l1 : Int32) (l3 : Int32) (l4 : Int32) : Option (Int32 × XM) :=
  k113 w0 l1 l3 (l4 + 1)
def f_X12_spot_113 (k113 : XM → Int32 → Int32 → Int32 → Option (Int32 × XM)) (w0 : XM) (l1 : Int32) (l3 : Int32) (l4 : Int32) : Option (Int32 × XM) :=
  if ((x_ga w0 2 (1 : Int32)) : Int32) ≤ l4 then
  (some (l3, w0))
  else (x_bo (f_X12_otherEnd w0 l4 l1) (fun y2 =>
  if (y2 : Int32) = (-1 : Int32) then
  (f_X12_spot_142  k113 w0 l1 l3 l4)
  else (x_lt (l3 ||| ((1 : Int32) <<< (l4 &&& 31))) (fun y3 =>
  f_X12_spot_142  k113 w0 l1 y3 l4))))
def f_X12_spot_194 (k153 : XM → Int32 → Int32 → Int32 → Option (Int32 × XM)) (w0 : XM) (l1 : Int32) (l3 : Int32) (l4 : Int32) : Option (Int32 × XM) :=
  k153 w0 l1 l3 (l4 + 1)
def f_X12_spot_153 (k153 : XM → Int32 → Int32 → Int32 → Option (Int32 × XM)) (w0 : XM) (l1 : Int32) (l3 : Int32) (l4 : Int32) : Option (Int32 × XM) :=
  if ((x_ga w0 2 (3 : Int32)) : Int32) ≤ l4 then
  (some (l3, w0))
  else (x_bo (f_X12_isGoing w0 l4) (fun y4 =>
  if y4 = (0 : Int32) then
  (x_ck ((74 : Int32) + l4) 353 (
  if ((x_ga w0 2 ((74 : Int32) + l4)) : Int32) = l1 then
  (x_lt (l3 ||| ((1 : Int32) <<< (l4 &&& 31))) (fun y5 =>
  f_X12_spot_194  k153 w0 l1 y5 l4))
  else (f_X12_spot_194  k153 w0 l1 l3 l4)))
  else (f_X12_spot_194  k153 w0 l1 l3 l4)))
def f_X12_spot (v0 : XM) (x0 : Int32) (x1 : Int32) : Option (Int32 × XM) :=
  x_lt (x_si v0 0 0 (0 : Int32)) (fun m6 =>
  x_lt (f_X12_isSpot m6 x0) (fun y7 =>
  if y7 = (0 : Int32) then
  (some ((-1 : Int32), m6))
  else (if x1 = (0 : Int32) then
  (x_lt (f_X12_has (x_ga m6 2 (5 : Int32)) x0) (fun y9 =>
  if y9 = (0 : Int32) then
  (some ((0 : Int32), m6))
  else (some ((1 : Int32), m6))))
  else (if x1 = (1 : Int32) then
  (x_lp (φ := XM → Int32 → Int32 → Int32 → Option (Int32 × XM)) (fun _ _ _ _ => none) (f_X12_spot_70  ) x_NN m6 x0 (0 : Int32) (0 : Int32))
  else (if x1 = (2 : Int32) then
  (x_lp (φ := XM → Int32 → Int32 → Int32 → Option (Int32 × XM)) (fun _ _ _ _ => none) (f_X12_spot_113  ) x_NN m6 x0 (0 : Int32) (0 : Int32))
  else (if x1 = (3 : Int32) then
  (x_lp (φ := XM → Int32 → Int32 → Int32 → Option (Int32 × XM)) (fun _ _ _ _ => none) (f_X12_spot_153  ) x_NN m6 x0 (0 : Int32) (0 : Int32))
  else (some ((-1 : Int32), m6))))))))
set_option maxRecDepth 100000 in
set_option maxHeartbeats 4000000 in
theorem w_X12_spot_102 {p : Program} {l : Launch} {e : Env} {s : State} {m : MethodId} {args : Array Value} {below : List Frame} {meth : Method} {c : Code} {D : va_G} {tc : Nat → ClassId} {aK aV : Nat → Nat} {A : Nat → Prop} {ad0 : Nat → Nat}  (X : Cx p s m args meth c cX12_spot 5 (some .int) RX12 D tc aK aV A [(shModel, ad0)])  {o : Int32 × XM} {k70 : XM → Int32 → Int32 → Int32 → Option (Int32 × XM)} (hk70 : ∀ (w0 : XM) (l1 : Int32) (l3 : Int32) (l4 : Int32), k70 w0 l1 l3 l4 = some o → aW p l e (x_Rm 2) s m args below meth c D tc A 5 [(shModel, ad0)] (some (.int o.1)) True [o.2] 70 [(0, .ref (ad0 0)), (1, .int l1), (3, .int l3), (4, .int l4)] [] [w0]) {w0 : XM} {l1 : Int32} {l3 : Int32} {l4 : Int32}  (h : f_X12_spot_102  k70 w0 l1 l3 l4 = some o) : aW p l e (x_Rm 2) s m args below meth c D tc A 5 [(shModel, ad0)] (some (.int o.1)) True [o.2] 102 [(0, .ref (ad0 0)), (1, .int l1), (3, .int l3), (4, .int l4)] [] [w0] := by
  unfold f_X12_spot_102 at h
  refine a_iinc (pc := 102) X 3 [(4, .int (l4 + 1)), (0, .ref (ad0 0)), (1, .int l1), (3, .int l3)] dX12_spot_102 rfl (congrArg (HAdd.hAdd l4) q_ic_1) (by decide) rfl ?_
  refine a_goto (pc := 105) X 70 dX12_spot_105 rfl ?_
  refine a_sub [1, 2, 3, 0] rfl ?_
  exact hk70 _ _ _ _ h
set_option maxRecDepth 100000 in
set_option maxHeartbeats 4000000 in
theorem w_X12_spot_70 {p : Program} {l : Launch} {e : Env} {s : State} {m : MethodId} {args : Array Value} {below : List Frame} {meth : Method} {c : Code} {D : va_G} {tc : Nat → ClassId} {aK aV : Nat → Nat} {A : Nat → Prop} {ad0 : Nat → Nat}  (X : Cx p s m args meth c cX12_spot 5 (some .int) RX12 D tc aK aV A [(shModel, ad0)])  {o : Int32 × XM}  : ∀ (n : Nat), ∀ (w0 : XM) (l1 : Int32) (l3 : Int32) (l4 : Int32), x_lp (φ := XM → Int32 → Int32 → Int32 → Option (Int32 × XM)) (fun _ _ _ _ => none) (f_X12_spot_70  ) n w0 l1 l3 l4 = some o → aW p l e (x_Rm 2) s m args below meth c D tc A 5 [(shModel, ad0)] (some (.int o.1)) True [o.2] 70 [(0, .ref (ad0 0)), (1, .int l1), (3, .int l3), (4, .int l4)] [] [w0] := by
  intro n
  induction n with
  | zero => intro w0 l1 l3 l4 h; exact absurd h (fun q => by cases q)
  | succ n ih =>
    intro w0 l1 l3 l4 h
    have h : f_X12_spot_70   (x_lp (φ := XM → Int32 → Int32 → Int32 → Option (Int32 × XM)) (fun _ _ _ _ => none) (f_X12_spot_70  ) n) w0 l1 l3 l4 = some o := h
    generalize x_lp (φ := XM → Int32 → Int32 → Int32 → Option (Int32 × XM)) (fun _ _ _ _ => none) (f_X12_spot_70  ) n = k70 at h ih
    have hk70 := ih
    unfold f_X12_spot_70 at h
    refine a_iload (pc := 70) X 3 dX12_spot_70 rfl ?_
    refine a_aload_n (pc := 72) X 0 dX12_spot_72 rfl rfl ?_
    refine a_getR (pc := 73) X 0 2 2 fl_RX12_98 rfl rfl rfl rfl rfl dX12_spot_73 ?_
    refine a_iconst (pc := 76) X dX12_spot_76 q_ic_2 ?_
    refine a_iald (pc := 77) X 0 rfl rfl rfl (x_inl (by decide)) dX12_spot_77 ?_
    refine a_icmp_ge (pc := 78) X 108 dX12_spot_78 rfl (fun c_78 => ?_) (fun c_78 => ?_)
    · have h := x_ifp c_78 h
      refine a_iload_n (pc := 108) X 2 dX12_spot_108 rfl rfl ?_
      have h := Option.some.inj h; subst h
      exact a_iret (pc := 109) X trivial dX12_spot_109
    · have h := x_ifn c_78 h
      refine a_aload_n (pc := 81) X 0 dX12_spot_81 rfl rfl ?_
      refine a_getR (pc := 82) X 0 2 2 fl_RX12_98 rfl rfl rfl rfl rfl dX12_spot_82 ?_
      refine a_bipush (pc := 85) X dX12_spot_85 q_bp_54 ?_
      refine a_iload (pc := 87) X 3 dX12_spot_87 rfl ?_
      refine a_iadd (pc := 89) X dX12_spot_89 ?_
      obtain ⟨c_90, h⟩ := x_ck_elim h
      refine a_iald (pc := 90) X 0 rfl rfl rfl c_90 dX12_spot_90 ?_
      refine a_iload_n (pc := 91) X 1 dX12_spot_91 rfl rfl ?_
      refine a_icmp_ne (pc := 92) X 102 dX12_spot_92 rfl (fun c_92 => ?_) (fun c_92 => ?_)
      · have h := x_ifn c_92 h
        exact w_X12_spot_102 X   hk70  h
      · have h := x_ifp c_92 h
        refine a_iload_n (pc := 95) X 2 dX12_spot_95 rfl rfl ?_
        refine a_iconst (pc := 96) X dX12_spot_96 q_ic_1 ?_
        refine a_iload (pc := 97) X 3 dX12_spot_97 rfl ?_
        refine a_ishl (pc := 99) X dX12_spot_99 ?_
        refine a_ior (pc := 100) X dX12_spot_100 ?_
        obtain ⟨y1, e_y1, h⟩ := x_lt_elim h
        refine a_ni e_y1 ?_
        refine a_istore_n (pc := 101) X [(3, .int y1), (0, .ref (ad0 0)), (1, .int l1), (4, .int l4)] dX12_spot_101 rfl (by decide) rfl ?_
        refine a_sub [1, 2, 0, 3] rfl ?_
        exact w_X12_spot_102 X   hk70  h
set_option maxRecDepth 100000 in
set_option maxHeartbeats 4000000 in
theorem w_X12_spot_142 {p : Program} {l : Launch} {e : Env} {s : State} {m : MethodId} {args : Array Value} {below : List Frame} {meth : Method} {c : Code} {D : va_G} {tc : Nat → ClassId} {aK aV : Nat → Nat} {A : Nat → Prop} {ad0 : Nat → Nat}  (X : Cx p s m args meth c cX12_spot 5 (some .int) RX12 D tc aK aV A [(shModel, ad0)])  {o : Int32 × XM} {k113 : XM → Int32 → Int32 → Int32 → Option (Int32 × XM)} (hk113 : ∀ (w0 : XM) (l1 : Int32) (l3 : Int32) (l4 : Int32), k113 w0 l1 l3 l4 = some o → aW p l e (x_Rm 2) s m args below meth c D tc A 5 [(shModel, ad0)] (some (.int o.1)) True [o.2] 113 [(0, .ref (ad0 0)), (1, .int l1), (3, .int l3), (4, .int l4)] [] [w0]) {w0 : XM} {l1 : Int32} {l3 : Int32} {l4 : Int32}  (h : f_X12_spot_142  k113 w0 l1 l3 l4 = some o) : aW p l e (x_Rm 2) s m args below meth c D tc A 5 [(shModel, ad0)] (some (.int o.1)) True [o.2] 142 [(0, .ref (ad0 0)), (1, .int l1), (3, .int l3), (4, .int l4)] [] [w0] := by
  unfold f_X12_spot_142 at h
  refine a_iinc (pc := 142) X 3 [(4, .int (l4 + 1)), (0, .ref (ad0 0)), (1, .int l1), (3, .int l3)] dX12_spot_142 rfl (congrArg (HAdd.hAdd l4) q_ic_1) (by decide) rfl ?_
  refine a_goto (pc := 145) X 113 dX12_spot_145 rfl ?_
  refine a_sub [1, 2, 3, 0] rfl ?_
  exact hk113 _ _ _ _ h
set_option maxRecDepth 100000 in
set_option maxHeartbeats 4000000 in
theorem w_X12_spot_113 {p : Program} {l : Launch} {e : Env} {s : State} {m : MethodId} {args : Array Value} {below : List Frame} {meth : Method} {c : Code} {D : va_G} {tc : Nat → ClassId} {aK aV : Nat → Nat} {A : Nat → Prop} {ad0 : Nat → Nat}  (X : Cx p s m args meth c cX12_spot 5 (some .int) RX12 D tc aK aV A [(shModel, ad0)])  {o : Int32 × XM}  : ∀ (n : Nat), ∀ (w0 : XM) (l1 : Int32) (l3 : Int32) (l4 : Int32), x_lp (φ := XM → Int32 → Int32 → Int32 → Option (Int32 × XM)) (fun _ _ _ _ => none) (f_X12_spot_113  ) n w0 l1 l3 l4 = some o → aW p l e (x_Rm 2) s m args below meth c D tc A 5 [(shModel, ad0)] (some (.int o.1)) True [o.2] 113 [(0, .ref (ad0 0)), (1, .int l1), (3, .int l3), (4, .int l4)] [] [w0] := by
  intro n
  induction n with
  | zero => intro w0 l1 l3 l4 h; exact absurd h (fun q => by cases q)
  | succ n ih =>
    intro w0 l1 l3 l4 h
    have h : f_X12_spot_113   (x_lp (φ := XM → Int32 → Int32 → Int32 → Option (Int32 × XM)) (fun _ _ _ _ => none) (f_X12_spot_113  ) n) w0 l1 l3 l4 = some o := h
    generalize x_lp (φ := XM → Int32 → Int32 → Int32 → Option (Int32 × XM)) (fun _ _ _ _ => none) (f_X12_spot_113  ) n = k113 at h ih
    have hk113 := ih
    unfold f_X12_spot_113 at h
    refine a_iload (pc := 113) X 3 dX12_spot_113 rfl ?_
    refine a_aload_n (pc := 115) X 0 dX12_spot_115 rfl rfl ?_
    refine a_getR (pc := 116) X 0 2 2 fl_RX12_98 rfl rfl rfl rfl rfl dX12_spot_116 ?_
    refine a_iconst (pc := 119) X dX12_spot_119 q_ic_1 ?_
    refine a_iald (pc := 120) X 0 rfl rfl rfl (x_inl (by decide)) dX12_spot_120 ?_
    refine a_icmp_ge (pc := 121) X 148 dX12_spot_121 rfl (fun c_121 => ?_) (fun c_121 => ?_)
    · have h := x_ifp c_121 h
      refine a_iload_n (pc := 148) X 2 dX12_spot_148 rfl rfl ?_
      have h := Option.some.inj h; subst h
      exact a_iret (pc := 149) X trivial dX12_spot_149
    · have h := x_ifn c_121 h
      refine a_aload_n (pc := 124) X 0 dX12_spot_124 rfl rfl ?_
      refine a_iload (pc := 125) X 3 dX12_spot_125 rfl ?_
      refine a_iload_n (pc := 127) X 1 dX12_spot_127 rfl rfl ?_
      obtain ⟨y2, e_y2, h⟩ := x_bo_elim h
      refine a_callV (pc := 128) (st2 := [.int y2]) (vs2 := [w0]) X [(0, 0, 20)] [none] 0 0 12 [.int l4, .int l1] [] cv_RX12_252 (c_X12_otherEnd (ad0 := ad0)  e_y2) rfl rfl rfl rfl rfl rfl rfl rfl rfl rfl rfl rfl rfl rfl rfl (Nat.le_of_ble_eq_true rfl) ⟨Nat.le_of_ble_eq_true rfl, Nat.le_of_ble_eq_true rfl⟩ dX12_spot_128 (fun _ => ?_)
      refine a_iconst (pc := 131) X dX12_spot_131 q_ic_m1 ?_
      refine a_icmp_eq (pc := 132) X 142 dX12_spot_132 rfl (fun c_132 => ?_) (fun c_132 => ?_)
      · have h := x_ifp c_132 h
        exact w_X12_spot_142 X   hk113  h
      · have h := x_ifn c_132 h
        refine a_iload_n (pc := 135) X 2 dX12_spot_135 rfl rfl ?_
        refine a_iconst (pc := 136) X dX12_spot_136 q_ic_1 ?_
        refine a_iload (pc := 137) X 3 dX12_spot_137 rfl ?_
        refine a_ishl (pc := 139) X dX12_spot_139 ?_
        refine a_ior (pc := 140) X dX12_spot_140 ?_
        obtain ⟨y3, e_y3, h⟩ := x_lt_elim h
        refine a_ni e_y3 ?_
        refine a_istore_n (pc := 141) X [(3, .int y3), (0, .ref (ad0 0)), (1, .int l1), (4, .int l4)] dX12_spot_141 rfl (by decide) rfl ?_
        refine a_sub [1, 2, 0, 3] rfl ?_
        exact w_X12_spot_142 X   hk113  h
set_option maxRecDepth 100000 in
set_option maxHeartbeats 4000000 in
theorem w_X12_spot_194 {p : Program} {l : Launch} {e : Env} {s : State} {m : MethodId} {args : Array Value} {below : List Frame} {meth : Method} {c : Code} {D : va_G} {tc : Nat → ClassId} {aK aV : Nat → Nat} {A : Nat → Prop} {ad0 : Nat → Nat}  (X : Cx p s m args meth c cX12_spot 5 (some .int) RX12 D tc aK aV A [(shModel, ad0)])  {o : Int32 × XM} {k153 : XM → Int32 → Int32 → Int32 → Option (Int32 × XM)} (hk153 : ∀ (w0 : XM) (l1 : Int32) (l3 : Int32) (l4 : Int32), k153 w0 l1 l3 l4 = some o → aW p l e (x_Rm 2) s m args below meth c D tc A 5 [(shModel, ad0)] (some (.int o.1)) True [o.2] 153 [(0, .ref (ad0 0)), (1, .int l1), (3, .int l3), (4, .int l4)] [] [w0]) {w0 : XM} {l1 : Int32} {l3 : Int32} {l4 : Int32}  (h : f_X12_spot_194  k153 w0 l1 l3 l4 = some o) : aW p l e (x_Rm 2) s m args below meth c D tc A 5 [(shModel, ad0)] (some (.int o.1)) True [o.2] 194 [(0, .ref (ad0 0)), (1, .int l1), (3, .int l3), (4, .int l4)] [] [w0] := by
  unfold f_X12_spot_194 at h
  refine a_iinc (pc := 194) X 3 [(4, .int (l4 + 1)), (0, .ref (ad0 0)), (1, .int l1), (3, .int l3)] dX12_spot_194 rfl (congrArg (HAdd.hAdd l4) q_ic_1) (by decide) rfl ?_
  refine a_goto (pc := 197) X 153 dX12_spot_197 rfl ?_
  refine a_sub [1, 2, 3, 0] rfl ?_
  exact hk153 _ _ _ _ h
set_option maxRecDepth 100000 in
set_option maxHeartbeats 4000000 in
theorem w_X12_spot_153 {p : Program} {l : Launch} {e : Env} {s : State} {m : MethodId} {args : Array Value} {below : List Frame} {meth : Method} {c : Code} {D : va_G} {tc : Nat → ClassId} {aK aV : Nat → Nat} {A : Nat → Prop} {ad0 : Nat → Nat}  (X : Cx p s m args meth c cX12_spot 5 (some .int) RX12 D tc aK aV A [(shModel, ad0)])  {o : Int32 × XM}  : ∀ (n : Nat), ∀ (w0 : XM) (l1 : Int32) (l3 : Int32) (l4 : Int32), x_lp (φ := XM → Int32 → Int32 → Int32 → Option (Int32 × XM)) (fun _ _ _ _ => none) (f_X12_spot_153  ) n w0 l1 l3 l4 = some o → aW p l e (x_Rm 2) s m args below meth c D tc A 5 [(shModel, ad0)] (some (.int o.1)) True [o.2] 153 [(0, .ref (ad0 0)), (1, .int l1), (3, .int l3), (4, .int l4)] [] [w0] := by
  intro n
  induction n with
  | zero => intro w0 l1 l3 l4 h; exact absurd h (fun q => by cases q)
  | succ n ih =>
    intro w0 l1 l3 l4 h
    have h : f_X12_spot_153   (x_lp (φ := XM → Int32 → Int32 → Int32 → Option (Int32 × XM)) (fun _ _ _ _ => none) (f_X12_spot_153  ) n) w0 l1 l3 l4 = some o := h
    generalize x_lp (φ := XM → Int32 → Int32 → Int32 → Option (Int32 × XM)) (fun _ _ _ _ => none) (f_X12_spot_153  ) n = k153 at h ih
    have hk153 := ih
    unfold f_X12_spot_153 at h
    refine a_iload (pc := 153) X 3 dX12_spot_153 rfl ?_
    refine a_aload_n (pc := 155) X 0 dX12_spot_155 rfl rfl ?_
    refine a_getR (pc := 156) X 0 2 2 fl_RX12_98 rfl rfl rfl rfl rfl dX12_spot_156 ?_
    refine a_iconst (pc := 159) X dX12_spot_159 q_ic_3 ?_
    refine a_iald (pc := 160) X 0 rfl rfl rfl (x_inl (by decide)) dX12_spot_160 ?_
    refine a_icmp_ge (pc := 161) X 200 dX12_spot_161 rfl (fun c_161 => ?_) (fun c_161 => ?_)
    · have h := x_ifp c_161 h
      refine a_iload_n (pc := 200) X 2 dX12_spot_200 rfl rfl ?_
      have h := Option.some.inj h; subst h
      exact a_iret (pc := 201) X trivial dX12_spot_201
    · have h := x_ifn c_161 h
      refine a_aload_n (pc := 164) X 0 dX12_spot_164 rfl rfl ?_
      refine a_iload (pc := 165) X 3 dX12_spot_165 rfl ?_
      obtain ⟨y4, e_y4, h⟩ := x_bo_elim h
      refine a_callV (pc := 167) (st2 := [.int y4]) (vs2 := [w0]) X [(0, 0, 20)] [none] 0 0 12 [.int l4] [] cv_RX12_240 (c_X12_isGoing (ad0 := ad0)  e_y4) rfl rfl rfl rfl rfl rfl rfl rfl rfl rfl rfl rfl rfl rfl rfl (Nat.le_of_ble_eq_true rfl) ⟨Nat.le_of_ble_eq_true rfl, Nat.le_of_ble_eq_true rfl⟩ dX12_spot_167 (fun z_167 => ?_)
      refine a_if_ne (pc := 170) X 194 dX12_spot_170 rfl (fun c_170 => ?_) (fun c_170 => ?_)
      · have h := x_ifn c_170 h
        exact w_X12_spot_194 X   hk153  h
      · have h := x_ifp c_170 h
        refine a_aload_n (pc := 173) X 0 dX12_spot_173 rfl rfl ?_
        refine a_getR (pc := 174) X 0 2 2 fl_RX12_98 rfl rfl rfl rfl rfl dX12_spot_174 ?_
        refine a_bipush (pc := 177) X dX12_spot_177 q_bp_74 ?_
        refine a_iload (pc := 179) X 3 dX12_spot_179 rfl ?_
        refine a_iadd (pc := 181) X dX12_spot_181 ?_
        obtain ⟨c_182, h⟩ := x_ck_elim h
        refine a_iald (pc := 182) X 0 rfl rfl rfl c_182 dX12_spot_182 ?_
        refine a_iload_n (pc := 183) X 1 dX12_spot_183 rfl rfl ?_
        refine a_icmp_ne (pc := 184) X 194 dX12_spot_184 rfl (fun c_184 => ?_) (fun c_184 => ?_)
        · have h := x_ifn c_184 h
          exact w_X12_spot_194 X   hk153  h
        · have h := x_ifp c_184 h
          refine a_iload_n (pc := 187) X 2 dX12_spot_187 rfl rfl ?_
          refine a_iconst (pc := 188) X dX12_spot_188 q_ic_1 ?_
          refine a_iload (pc := 189) X 3 dX12_spot_189 rfl ?_
          refine a_ishl (pc := 191) X dX12_spot_191 ?_
          refine a_ior (pc := 192) X dX12_spot_192 ?_
          obtain ⟨y5, e_y5, h⟩ := x_lt_elim h
          refine a_ni e_y5 ?_
          refine a_istore_n (pc := 193) X [(3, .int y5), (0, .ref (ad0 0)), (1, .int l1), (4, .int l4)] dX12_spot_193 rfl (by decide) rfl ?_
          refine a_sub [1, 2, 0, 3] rfl ?_
          exact w_X12_spot_194 X   hk153  h
set_option maxRecDepth 100000 in
set_option maxHeartbeats 4000000 in
theorem c_X12_spot {l : Launch}  {ad0 : Nat → Nat} {v0 : XM} {x0 : Int32} {x1 : Int32}  {o : Int32 × XM} (h : f_X12_spot v0 x0 x1 = some o) : CT l yX12_spot cX12_spot 5 (some .int) 2 [(shModel, ad0)] [v0] (fun aK => [.ref (ad0 0), .int x0, .int x1]) (some (.int o.1)) True [o.2] := by
  refine CT_of (by decide) (fun _ => Nat.le_of_ble_eq_true rfl) ?_
  intro p e s m args below meth c D tc aK aV A X
  have X : Cx p s m args meth c cX12_spot 5 (some .int) RX12 D tc aK aV A [(shModel, ad0)] := X
  show aW p l e (x_Rm 2) s m args below meth c D tc A 5 [(shModel, ad0)] (some (.int o.1)) True [o.2] 0 [(0, .ref (ad0 0)), (1, .int x0), (2, .int x1)] [] [v0]
  unfold f_X12_spot at h
  refine a_aload_n (pc := 0) X 0 dX12_spot_0 rfl rfl ?_
  refine a_iconst (pc := 1) X dX12_spot_1 q_ic_0 ?_
  refine a_putI (pc := 2) X 0 fl_RX12_1 rfl rfl rfl rfl dX12_spot_2 ?_
  obtain ⟨m6, e_m6, h⟩ := x_lt_elim h
  refine a_nm (vs2 := [m6]) (congrArg (fun q : XM => [q]) e_m6) ?_
  refine a_aload_n (pc := 5) X 0 dX12_spot_5 rfl rfl ?_
  refine a_iload_n (pc := 6) X 1 dX12_spot_6 rfl rfl ?_
  obtain ⟨y7, e_y7, h⟩ := x_lt_elim h
  refine a_callV (pc := 7) (st2 := [.int y7]) (vs2 := [m6]) X [(0, 0, 20)] [none] 0 0 12 [.int x0] [] cv_RX12_286 (c_X12_isSpot (ad0 := ad0)  e_y7) rfl rfl rfl rfl rfl rfl rfl rfl rfl rfl rfl rfl rfl rfl rfl (Nat.le_of_ble_eq_true rfl) ⟨Nat.le_of_ble_eq_true rfl, Nat.le_of_ble_eq_true rfl⟩ dX12_spot_7 (fun z_7 => ?_)
  refine a_if_ne (pc := 10) X 15 dX12_spot_10 rfl (fun c_10 => ?_) (fun c_10 => ?_)
  · have h := x_ifn c_10 h
    refine a_iconst (pc := 15) X dX12_spot_15 q_ic_0 ?_
    refine a_istore_n (pc := 16) X [(3, .int (0 : Int32)), (0, .ref (ad0 0)), (1, .int x0), (2, .int x1)] dX12_spot_16 rfl (by decide) rfl ?_
    refine a_iload_n (pc := 17) X 3 dX12_spot_17 rfl rfl ?_
    by_cases c_18_0 : x1 = (0 : Int32)
    · have h := x_ifp c_18_0 h
      refine a_tin (pc := 18) X 48 dX12_spot_18 c_18_0 (by decide) (by decide) rfl rfl ?_
      refine a_aload_n (pc := 48) X 1 dX12_spot_48 rfl rfl ?_
      refine a_getR (pc := 49) X 0 2 2 fl_RX12_98 rfl rfl rfl rfl rfl dX12_spot_49 ?_
      refine a_iconst (pc := 52) X dX12_spot_52 q_ic_5 ?_
      refine a_iald (pc := 53) X 0 rfl rfl rfl (x_inl (by decide)) dX12_spot_53 ?_
      refine a_iload_n (pc := 54) X 2 dX12_spot_54 rfl rfl ?_
      obtain ⟨y9, e_y9, h⟩ := x_lt_elim h
      refine a_callS (pc := 55) (st2 := [.int y9]) (vs2 := [m6]) X [] [] [.int (x_ga m6 2 (5 : Int32)), .int x0] [] cv_RX12_243 (c_X12_has   e_y9) rfl rfl rfl rfl rfl rfl rfl rfl rfl rfl rfl (Nat.le_of_ble_eq_true rfl) ⟨Nat.le_of_ble_eq_true rfl, Nat.le_of_ble_eq_true rfl⟩ dX12_spot_55 (fun z_55 => ?_)
      refine a_if_eq (pc := 58) X 65 dX12_spot_58 rfl (fun c_58 => ?_) (fun c_58 => ?_)
      · have h := x_ifp c_58 h
        refine a_iconst (pc := 65) X dX12_spot_65 q_ic_0 ?_
        have h := Option.some.inj h; subst h
        exact a_iret (pc := 66) X trivial dX12_spot_66
      · have h := x_ifn c_58 h
        refine a_iconst (pc := 61) X dX12_spot_61 q_ic_1 ?_
        refine a_goto (pc := 62) X 66 dX12_spot_62 rfl ?_
        have h := Option.some.inj h; subst h
        exact a_iret (pc := 66) X trivial dX12_spot_66
    · have h := x_ifn c_18_0 h
      by_cases c_18_1 : x1 = (1 : Int32)
      · have h := x_ifp c_18_1 h
        refine a_tin (pc := 18) X 67 dX12_spot_18 c_18_1 (by decide) (by decide) rfl rfl ?_
        refine a_iconst (pc := 67) X dX12_spot_67 q_ic_0 ?_
        refine a_istore (pc := 68) X [(4, .int (0 : Int32)), (3, .int (0 : Int32)), (0, .ref (ad0 0)), (1, .int x0), (2, .int x1)] dX12_spot_68 (by decide) rfl ?_
        refine a_sub [2, 3, 1, 0] rfl ?_
        exact w_X12_spot_70 X    x_NN _ _ _ _ h
      · have h := x_ifn c_18_1 h
        by_cases c_18_2 : x1 = (2 : Int32)
        · have h := x_ifp c_18_2 h
          refine a_tin (pc := 18) X 110 dX12_spot_18 c_18_2 (by decide) (by decide) rfl rfl ?_
          refine a_iconst (pc := 110) X dX12_spot_110 q_ic_0 ?_
          refine a_istore (pc := 111) X [(4, .int (0 : Int32)), (3, .int (0 : Int32)), (0, .ref (ad0 0)), (1, .int x0), (2, .int x1)] dX12_spot_111 (by decide) rfl ?_
          refine a_sub [2, 3, 1, 0] rfl ?_
          exact w_X12_spot_113 X    x_NN _ _ _ _ h
        · have h := x_ifn c_18_2 h
          by_cases c_18_3 : x1 = (3 : Int32)
          · have h := x_ifp c_18_3 h
            refine a_tin (pc := 18) X 150 dX12_spot_18 c_18_3 (by decide) (by decide) rfl rfl ?_
            refine a_iconst (pc := 150) X dX12_spot_150 q_ic_0 ?_
            refine a_istore (pc := 151) X [(4, .int (0 : Int32)), (3, .int (0 : Int32)), (0, .ref (ad0 0)), (1, .int x0), (2, .int x1)] dX12_spot_151 (by decide) rfl ?_
            refine a_sub [2, 3, 1, 0] rfl ?_
            exact w_X12_spot_153 X    x_NN _ _ _ _ h
          · have h := x_ifn c_18_3 h
            refine a_tout (pc := 18) X 202 dX12_spot_18 (by have q0 := x_ne c_18_0; have q1 := x_ne c_18_1; have q2 := x_ne c_18_2; have q3 := x_ne c_18_3; have q0 : (x1 : Int32).toInt ≠ 0 := q0; have q1 : (x1 : Int32).toInt ≠ 1 := q1; have q2 : (x1 : Int32).toInt ≠ 2 := q2; have q3 : (x1 : Int32).toInt ≠ 3 := q3; omega) rfl ?_
            refine a_iconst (pc := 202) X dX12_spot_202 q_ic_m1 ?_
            have h := Option.some.inj h; subst h
            exact a_iret (pc := 203) X trivial dX12_spot_203
  · have h := x_ifp c_10 h
    refine a_iconst (pc := 13) X dX12_spot_13 q_ic_m1 ?_
    have h := Option.some.inj h; subst h
    exact a_iret (pc := 14) X trivial dX12_spot_14
theorem dX12_known_0 : decode cX12_known 0 = .ok (.iconst 0, 1) := by decide +kernel
theorem dX12_known_1 : decode cX12_known 1 = .ok (.istore_n 1, 1) := by decide +kernel
theorem dX12_known_2 : decode cX12_known 2 = .ok (.iconst 0, 1) := by decide +kernel
theorem dX12_known_3 : decode cX12_known 3 = .ok (.istore_n 2, 1) := by decide +kernel
theorem dX12_known_4 : decode cX12_known 4 = .ok (.iload_n 2, 1) := by decide +kernel
theorem dX12_known_5 : decode cX12_known 5 = .ok (.iconst 5, 1) := by decide +kernel
theorem dX12_known_6 : decode cX12_known 6 = .ok (.if_icmp .ge 21, 3) := by decide +kernel
theorem dX12_known_9 : decode cX12_known 9 = .ok (.iload_n 1, 1) := by decide +kernel
theorem dX12_known_10 : decode cX12_known 10 = .ok (.aload_n 0, 1) := by decide +kernel
theorem dX12_known_11 : decode cX12_known 11 = .ok (.getfield 98, 3) := by decide +kernel
theorem dX12_known_14 : decode cX12_known 14 = .ok (.bipush 94, 2) := by decide +kernel
theorem dX12_known_16 : decode cX12_known 16 = .ok (.iload_n 2, 1) := by decide +kernel
theorem dX12_known_17 : decode cX12_known 17 = .ok (.iadd, 1) := by decide +kernel
theorem dX12_known_18 : decode cX12_known 18 = .ok (.iaload, 1) := by decide +kernel
theorem dX12_known_19 : decode cX12_known 19 = .ok (.ior, 1) := by decide +kernel
theorem dX12_known_20 : decode cX12_known 20 = .ok (.istore_n 1, 1) := by decide +kernel
theorem dX12_known_21 : decode cX12_known 21 = .ok (.iinc 2 1, 3) := by decide +kernel
theorem dX12_known_24 : decode cX12_known 24 = .ok (.goto (-20), 3) := by decide +kernel
theorem dX12_known_27 : decode cX12_known 27 = .ok (.iload_n 1, 1) := by decide +kernel
theorem dX12_known_28 : decode cX12_known 28 = .ok (.ireturn, 1) := by decide +kernel
def f_X12_known_4 (v0 : XM) (k4 : Int32 → Int32 → Option (Int32)) (l1 : Int32) (l2 : Int32) : Option (Int32) :=
  if ((5 : Int32) : Int32) ≤ l2 then
  (some (l1 : Int32))
  else (x_ck ((94 : Int32) + l2) 353 (
  x_lt (l1 ||| (x_ga v0 2 ((94 : Int32) + l2))) (fun y1 =>
  k4 y1 (l2 + 1))))
def f_X12_known (v0 : XM) : Option (Int32) :=
  x_lp (φ := Int32 → Int32 → Option (Int32)) (fun _ _ => none) (f_X12_known_4 v0 ) x_NN (0 : Int32) (0 : Int32)
set_option maxRecDepth 100000 in
set_option maxHeartbeats 4000000 in
theorem w_X12_known_4 {p : Program} {l : Launch} {e : Env} {s : State} {m : MethodId} {args : Array Value} {below : List Frame} {meth : Method} {c : Code} {D : va_G} {tc : Nat → ClassId} {aK aV : Nat → Nat} {A : Nat → Prop} {ad0 : Nat → Nat} {v0 : XM} (X : Cx p s m args meth c cX12_known 3 (some .int) RX12 D tc aK aV A [(shModel, ad0)])  {o : Int32}  : ∀ (n : Nat), ∀ (l1 : Int32) (l2 : Int32), x_lp (φ := Int32 → Int32 → Option (Int32)) (fun _ _ => none) (f_X12_known_4 v0 ) n l1 l2 = some o → aW p l e (x_Rm 0) s m args below meth c D tc A 3 [(shModel, ad0)] (some (.int o)) True [v0] 4 [(0, .ref (ad0 0)), (1, .int l1), (2, .int l2)] [] [v0] := by
  intro n
  induction n with
  | zero => intro l1 l2 h; exact absurd h (fun q => by cases q)
  | succ n ih =>
    intro l1 l2 h
    have h : f_X12_known_4 v0  (x_lp (φ := Int32 → Int32 → Option (Int32)) (fun _ _ => none) (f_X12_known_4 v0 ) n) l1 l2 = some o := h
    generalize x_lp (φ := Int32 → Int32 → Option (Int32)) (fun _ _ => none) (f_X12_known_4 v0 ) n = k4 at h ih
    have hk4 := ih
    unfold f_X12_known_4 at h
    refine a_iload_n (pc := 4) X 2 dX12_known_4 rfl rfl ?_
    refine a_iconst (pc := 5) X dX12_known_5 q_ic_5 ?_
    refine a_icmp_ge (pc := 6) X 27 dX12_known_6 rfl (fun c_6 => ?_) (fun c_6 => ?_)
    · have h := x_ifp c_6 h
      refine a_iload_n (pc := 27) X 1 dX12_known_27 rfl rfl ?_
      have h := Option.some.inj h; subst h
      exact a_iret (pc := 28) X trivial dX12_known_28
    · have h := x_ifn c_6 h
      refine a_iload_n (pc := 9) X 1 dX12_known_9 rfl rfl ?_
      refine a_aload_n (pc := 10) X 0 dX12_known_10 rfl rfl ?_
      refine a_getR (pc := 11) X 0 2 2 fl_RX12_98 rfl rfl rfl rfl rfl dX12_known_11 ?_
      refine a_bipush (pc := 14) X dX12_known_14 q_bp_94 ?_
      refine a_iload_n (pc := 16) X 2 dX12_known_16 rfl rfl ?_
      refine a_iadd (pc := 17) X dX12_known_17 ?_
      obtain ⟨c_18, h⟩ := x_ck_elim h
      refine a_iald (pc := 18) X 0 rfl rfl rfl c_18 dX12_known_18 ?_
      refine a_ior (pc := 19) X dX12_known_19 ?_
      obtain ⟨y1, e_y1, h⟩ := x_lt_elim h
      refine a_ni e_y1 ?_
      refine a_istore_n (pc := 20) X [(1, .int y1), (0, .ref (ad0 0)), (2, .int l2)] dX12_known_20 rfl (by decide) rfl ?_
      refine a_iinc (pc := 21) X 2 [(2, .int (l2 + 1)), (1, .int y1), (0, .ref (ad0 0))] dX12_known_21 rfl (congrArg (HAdd.hAdd l2) q_ic_1) (by decide) rfl ?_
      refine a_goto (pc := 24) X 4 dX12_known_24 rfl ?_
      refine a_sub [2, 1, 0] rfl ?_
      exact hk4 _ _ h
set_option maxRecDepth 100000 in
set_option maxHeartbeats 4000000 in
theorem c_X12_known {l : Launch}  {ad0 : Nat → Nat} {v0 : XM}   {o : Int32} (h : f_X12_known v0 = some o) : CT l yX12_known cX12_known 3 (some .int) 0 [(shModel, ad0)] [v0] (fun aK => [.ref (ad0 0)]) (some (.int o)) True [v0] := by
  refine CT_of (by decide) (fun _ => Nat.le_of_ble_eq_true rfl) ?_
  intro p e s m args below meth c D tc aK aV A X
  have X : Cx p s m args meth c cX12_known 3 (some .int) RX12 D tc aK aV A [(shModel, ad0)] := X
  show aW p l e (x_Rm 0) s m args below meth c D tc A 3 [(shModel, ad0)] (some (.int o)) True [v0] 0 [(0, .ref (ad0 0))] [] [v0]
  unfold f_X12_known at h
  refine a_iconst (pc := 0) X dX12_known_0 q_ic_0 ?_
  refine a_istore_n (pc := 1) X [(1, .int (0 : Int32)), (0, .ref (ad0 0))] dX12_known_1 rfl (by decide) rfl ?_
  refine a_iconst (pc := 2) X dX12_known_2 q_ic_0 ?_
  refine a_istore_n (pc := 3) X [(2, .int (0 : Int32)), (1, .int (0 : Int32)), (0, .ref (ad0 0))] dX12_known_3 rfl (by decide) rfl ?_
  refine a_sub [2, 1, 0] rfl ?_
  exact w_X12_known_4 X    x_NN _ _ h
theorem dX12_now_0 : decode cX12_now 0 = .ok (.aload_n 0, 1) := by decide +kernel
theorem dX12_now_1 : decode cX12_now 1 = .ok (.iconst 0, 1) := by decide +kernel
theorem dX12_now_2 : decode cX12_now 2 = .ok (.putfield 1, 3) := by decide +kernel
theorem dX12_now_5 : decode cX12_now 5 = .ok (.iconst 0, 1) := by decide +kernel
theorem dX12_now_6 : decode cX12_now 6 = .ok (.istore_n 2, 1) := by decide +kernel
theorem dX12_now_7 : decode cX12_now 7 = .ok (.iload_n 1, 1) := by decide +kernel
theorem dX12_now_8 : decode cX12_now 8 = .ok (.tableswitch 206 0 7 #[48, 56, 64, 98, 132, 137, 171, 198], 48) := by decide +kernel
theorem dX12_now_56 : decode cX12_now 56 = .ok (.aload_n 0, 1) := by decide +kernel
theorem dX12_now_57 : decode cX12_now 57 = .ok (.getfield 98, 3) := by decide +kernel
theorem dX12_now_60 : decode cX12_now 60 = .ok (.bipush 70, 2) := by decide +kernel
theorem dX12_now_62 : decode cX12_now 62 = .ok (.iaload, 1) := by decide +kernel
theorem dX12_now_63 : decode cX12_now 63 = .ok (.ireturn, 1) := by decide +kernel
theorem dX12_now_64 : decode cX12_now 64 = .ok (.aload_n 0, 1) := by decide +kernel
theorem dX12_now_65 : decode cX12_now 65 = .ok (.getfield 98, 3) := by decide +kernel
theorem dX12_now_68 : decode cX12_now 68 = .ok (.bipush 71, 2) := by decide +kernel
theorem dX12_now_70 : decode cX12_now 70 = .ok (.iaload, 1) := by decide +kernel
theorem dX12_now_71 : decode cX12_now 71 = .ok (.ireturn, 1) := by decide +kernel
theorem dX12_now_72 : decode cX12_now 72 = .ok (.iconst 0, 1) := by decide +kernel
theorem dX12_now_73 : decode cX12_now 73 = .ok (.istore_n 3, 1) := by decide +kernel
theorem dX12_now_74 : decode cX12_now 74 = .ok (.iload_n 3, 1) := by decide +kernel
theorem dX12_now_75 : decode cX12_now 75 = .ok (.aload_n 0, 1) := by decide +kernel
theorem dX12_now_76 : decode cX12_now 76 = .ok (.getfield 98, 3) := by decide +kernel
theorem dX12_now_79 : decode cX12_now 79 = .ok (.iconst 3, 1) := by decide +kernel
theorem dX12_now_80 : decode cX12_now 80 = .ok (.iaload, 1) := by decide +kernel
theorem dX12_now_81 : decode cX12_now 81 = .ok (.if_icmp .ge 23, 3) := by decide +kernel
theorem dX12_now_84 : decode cX12_now 84 = .ok (.aload_n 0, 1) := by decide +kernel
theorem dX12_now_85 : decode cX12_now 85 = .ok (.iload_n 3, 1) := by decide +kernel
theorem dX12_now_86 : decode cX12_now 86 = .ok (.invokevirtual 240, 3) := by decide +kernel
theorem dX12_now_89 : decode cX12_now 89 = .ok (.ifCond .eq 9, 3) := by decide +kernel
theorem dX12_now_92 : decode cX12_now 92 = .ok (.iload_n 2, 1) := by decide +kernel
theorem dX12_now_93 : decode cX12_now 93 = .ok (.iconst 1, 1) := by decide +kernel
theorem dX12_now_94 : decode cX12_now 94 = .ok (.iload_n 3, 1) := by decide +kernel
theorem dX12_now_95 : decode cX12_now 95 = .ok (.ishl, 1) := by decide +kernel
theorem dX12_now_96 : decode cX12_now 96 = .ok (.ior, 1) := by decide +kernel
theorem dX12_now_97 : decode cX12_now 97 = .ok (.istore_n 2, 1) := by decide +kernel
theorem dX12_now_98 : decode cX12_now 98 = .ok (.iinc 3 1, 3) := by decide +kernel
theorem dX12_now_101 : decode cX12_now 101 = .ok (.goto (-27), 3) := by decide +kernel
theorem dX12_now_104 : decode cX12_now 104 = .ok (.iload_n 2, 1) := by decide +kernel
theorem dX12_now_105 : decode cX12_now 105 = .ok (.ireturn, 1) := by decide +kernel
theorem dX12_now_106 : decode cX12_now 106 = .ok (.iconst 0, 1) := by decide +kernel
theorem dX12_now_107 : decode cX12_now 107 = .ok (.istore_n 3, 1) := by decide +kernel
theorem dX12_now_108 : decode cX12_now 108 = .ok (.iload_n 3, 1) := by decide +kernel
theorem dX12_now_109 : decode cX12_now 109 = .ok (.bipush 12, 2) := by decide +kernel
theorem dX12_now_111 : decode cX12_now 111 = .ok (.if_icmp .ge 27, 3) := by decide +kernel
theorem dX12_now_114 : decode cX12_now 114 = .ok (.aload_n 0, 1) := by decide +kernel
theorem dX12_now_115 : decode cX12_now 115 = .ok (.getfield 98, 3) := by decide +kernel
theorem dX12_now_118 : decode cX12_now 118 = .ok (.bipush 99, 2) := by decide +kernel
theorem dX12_now_120 : decode cX12_now 120 = .ok (.iload_n 3, 1) := by decide +kernel
theorem dX12_now_121 : decode cX12_now 121 = .ok (.iadd, 1) := by decide +kernel
theorem dX12_now_122 : decode cX12_now 122 = .ok (.iaload, 1) := by decide +kernel
theorem dX12_now_123 : decode cX12_now 123 = .ok (.ifCond .le 9, 3) := by decide +kernel
theorem dX12_now_126 : decode cX12_now 126 = .ok (.iload_n 2, 1) := by decide +kernel
theorem dX12_now_127 : decode cX12_now 127 = .ok (.iconst 1, 1) := by decide +kernel
theorem dX12_now_128 : decode cX12_now 128 = .ok (.iload_n 3, 1) := by decide +kernel
theorem dX12_now_129 : decode cX12_now 129 = .ok (.ishl, 1) := by decide +kernel
theorem dX12_now_130 : decode cX12_now 130 = .ok (.ior, 1) := by decide +kernel
theorem dX12_now_131 : decode cX12_now 131 = .ok (.istore_n 2, 1) := by decide +kernel
theorem dX12_now_132 : decode cX12_now 132 = .ok (.iinc 3 1, 3) := by decide +kernel
theorem dX12_now_135 : decode cX12_now 135 = .ok (.goto (-27), 3) := by decide +kernel
theorem dX12_now_138 : decode cX12_now 138 = .ok (.iload_n 2, 1) := by decide +kernel
theorem dX12_now_139 : decode cX12_now 139 = .ok (.ireturn, 1) := by decide +kernel
theorem dX12_now_140 : decode cX12_now 140 = .ok (.aload_n 0, 1) := by decide +kernel
theorem dX12_now_141 : decode cX12_now 141 = .ok (.invokevirtual 289, 3) := by decide +kernel
theorem dX12_now_144 : decode cX12_now 144 = .ok (.ireturn, 1) := by decide +kernel
theorem dX12_now_145 : decode cX12_now 145 = .ok (.iconst 0, 1) := by decide +kernel
theorem dX12_now_146 : decode cX12_now 146 = .ok (.istore_n 3, 1) := by decide +kernel
theorem dX12_now_147 : decode cX12_now 147 = .ok (.iload_n 3, 1) := by decide +kernel
theorem dX12_now_148 : decode cX12_now 148 = .ok (.aload_n 0, 1) := by decide +kernel
theorem dX12_now_149 : decode cX12_now 149 = .ok (.getfield 98, 3) := by decide +kernel
theorem dX12_now_152 : decode cX12_now 152 = .ok (.iconst 3, 1) := by decide +kernel
theorem dX12_now_153 : decode cX12_now 153 = .ok (.iaload, 1) := by decide +kernel
theorem dX12_now_154 : decode cX12_now 154 = .ok (.if_icmp .ge 23, 3) := by decide +kernel
theorem dX12_now_157 : decode cX12_now 157 = .ok (.aload_n 0, 1) := by decide +kernel
theorem dX12_now_158 : decode cX12_now 158 = .ok (.iload_n 3, 1) := by decide +kernel
theorem dX12_now_159 : decode cX12_now 159 = .ok (.invokevirtual 277, 3) := by decide +kernel
theorem dX12_now_162 : decode cX12_now 162 = .ok (.ifCond .eq 9, 3) := by decide +kernel
theorem dX12_now_165 : decode cX12_now 165 = .ok (.iload_n 2, 1) := by decide +kernel
theorem dX12_now_166 : decode cX12_now 166 = .ok (.iconst 1, 1) := by decide +kernel
theorem dX12_now_167 : decode cX12_now 167 = .ok (.iload_n 3, 1) := by decide +kernel
theorem dX12_now_168 : decode cX12_now 168 = .ok (.ishl, 1) := by decide +kernel
theorem dX12_now_169 : decode cX12_now 169 = .ok (.ior, 1) := by decide +kernel
theorem dX12_now_170 : decode cX12_now 170 = .ok (.istore_n 2, 1) := by decide +kernel
theorem dX12_now_171 : decode cX12_now 171 = .ok (.iinc 3 1, 3) := by decide +kernel
theorem dX12_now_174 : decode cX12_now 174 = .ok (.goto (-27), 3) := by decide +kernel
theorem dX12_now_177 : decode cX12_now 177 = .ok (.iload_n 2, 1) := by decide +kernel
theorem dX12_now_178 : decode cX12_now 178 = .ok (.ireturn, 1) := by decide +kernel
theorem dX12_now_179 : decode cX12_now 179 = .ok (.iconst 0, 1) := by decide +kernel
theorem dX12_now_180 : decode cX12_now 180 = .ok (.istore_n 3, 1) := by decide +kernel
theorem dX12_now_181 : decode cX12_now 181 = .ok (.iload_n 3, 1) := by decide +kernel
theorem dX12_now_182 : decode cX12_now 182 = .ok (.iconst 5, 1) := by decide +kernel
theorem dX12_now_183 : decode cX12_now 183 = .ok (.if_icmp .ge 21, 3) := by decide +kernel
theorem dX12_now_186 : decode cX12_now 186 = .ok (.iload_n 2, 1) := by decide +kernel
theorem dX12_now_187 : decode cX12_now 187 = .ok (.aload_n 0, 1) := by decide +kernel
theorem dX12_now_188 : decode cX12_now 188 = .ok (.getfield 98, 3) := by decide +kernel
theorem dX12_now_191 : decode cX12_now 191 = .ok (.bipush 89, 2) := by decide +kernel
theorem dX12_now_193 : decode cX12_now 193 = .ok (.iload_n 3, 1) := by decide +kernel
theorem dX12_now_194 : decode cX12_now 194 = .ok (.iadd, 1) := by decide +kernel
theorem dX12_now_195 : decode cX12_now 195 = .ok (.iaload, 1) := by decide +kernel
theorem dX12_now_196 : decode cX12_now 196 = .ok (.iadd, 1) := by decide +kernel
theorem dX12_now_197 : decode cX12_now 197 = .ok (.istore_n 2, 1) := by decide +kernel
theorem dX12_now_198 : decode cX12_now 198 = .ok (.iinc 3 1, 3) := by decide +kernel
theorem dX12_now_201 : decode cX12_now 201 = .ok (.goto (-20), 3) := by decide +kernel
theorem dX12_now_204 : decode cX12_now 204 = .ok (.iload_n 2, 1) := by decide +kernel
theorem dX12_now_205 : decode cX12_now 205 = .ok (.ireturn, 1) := by decide +kernel
theorem dX12_now_206 : decode cX12_now 206 = .ok (.aload_n 0, 1) := by decide +kernel
theorem dX12_now_207 : decode cX12_now 207 = .ok (.getfield 98, 3) := by decide +kernel
theorem dX12_now_210 : decode cX12_now 210 = .ok (.bipush 73, 2) := by decide +kernel
theorem dX12_now_212 : decode cX12_now 212 = .ok (.iaload, 1) := by decide +kernel
theorem dX12_now_213 : decode cX12_now 213 = .ok (.ireturn, 1) := by decide +kernel
theorem dX12_now_214 : decode cX12_now 214 = .ok (.iconst (-1), 1) := by decide +kernel
theorem dX12_now_215 : decode cX12_now 215 = .ok (.ireturn, 1) := by decide +kernel
def f_X12_now_98 (k74 : XM → Int32 → Int32 → Option (Int32 × XM)) (w0 : XM) (l2 : Int32) (l3 : Int32) : Option (Int32 × XM) :=
  k74 w0 l2 (l3 + 1)
def f_X12_now_74 (k74 : XM → Int32 → Int32 → Option (Int32 × XM)) (w0 : XM) (l2 : Int32) (l3 : Int32) : Option (Int32 × XM) :=
  if ((x_ga w0 2 (3 : Int32)) : Int32) ≤ l3 then
  (some (l2, w0))
  else (x_bo (f_X12_isGoing w0 l3) (fun y1 =>
  if y1 = (0 : Int32) then
  (f_X12_now_98  k74 w0 l2 l3)
  else (x_lt (l2 ||| ((1 : Int32) <<< (l3 &&& 31))) (fun y2 =>
  f_X12_now_98  k74 w0 y2 l3))))
def f_X12_now_132 (k108 : XM → Int32 → Int32 → Option (Int32 × XM)) (w0 : XM) (l2 : Int32) (l3 : Int32) : Option (Int32 × XM) :=
  k108 w0 l2 (l3 + 1)
def f_X12_now_108 (k108 : XM → Int32 → Int32 → Option (Int32 × XM)) (w0 : XM) (l2 : Int32) (l3 : Int32) : Option (Int32 × XM) :=
  if ((12 : Int32) : Int32) ≤ l3 then
  (some (l2, w0))
  else (x_ck ((99 : Int32) + l3) 353 (
  if (x_ga w0 2 ((99 : Int32) + l3)) ≤ (0 : Int32) then
  (f_X12_now_132  k108 w0 l2 l3)
  else (x_lt (l2 ||| ((1 : Int32) <<< (l3 &&& 31))) (fun y3 =>
  f_X12_now_132  k108 w0 y3 l3))))
def f_X12_now_171 (k147 : XM → Int32 → Int32 → Option (Int32 × XM)) (w0 : XM) (l2 : Int32) (l3 : Int32) : Option (Int32 × XM) :=
  k147 w0 l2 (l3 + 1)
def f_X12_now_147 (k147 : XM → Int32 → Int32 → Option (Int32 × XM)) (w0 : XM) (l2 : Int32) (l3 : Int32) : Option (Int32 × XM) :=
  if ((x_ga w0 2 (3 : Int32)) : Int32) ≤ l3 then
  (some (l2, w0))
  else (x_bo (f_X12_isLost w0 l3) (fun y4 =>
  if y4.1 = (0 : Int32) then
  (f_X12_now_171  k147 y4.2 l2 l3)
  else (x_lt (l2 ||| ((1 : Int32) <<< (l3 &&& 31))) (fun y5 =>
  f_X12_now_171  k147 y4.2 y5 l3))))
def f_X12_now_181 (k181 : XM → Int32 → Int32 → Option (Int32 × XM)) (w0 : XM) (l2 : Int32) (l3 : Int32) : Option (Int32 × XM) :=
  if ((5 : Int32) : Int32) ≤ l3 then
  (some (l2, w0))
  else (x_ck ((89 : Int32) + l3) 353 (
  x_lt (l2 + (x_ga w0 2 ((89 : Int32) + l3))) (fun y6 =>
  k181 w0 y6 (l3 + 1))))
def f_X12_now (v0 : XM) (x0 : Int32) : Option (Int32 × XM) :=
  x_lt (x_si v0 0 0 (0 : Int32)) (fun m7 =>
  if x0 = (0 : Int32) then
  (some (x_ga m7 2 (70 : Int32), m7))
  else (if x0 = (1 : Int32) then
  (some (x_ga m7 2 (71 : Int32), m7))
  else (if x0 = (2 : Int32) then
  (x_lp (φ := XM → Int32 → Int32 → Option (Int32 × XM)) (fun _ _ _ => none) (f_X12_now_74  ) x_NN m7 (0 : Int32) (0 : Int32))
  else (if x0 = (3 : Int32) then
  (x_lp (φ := XM → Int32 → Int32 → Option (Int32 × XM)) (fun _ _ _ => none) (f_X12_now_108  ) x_NN m7 (0 : Int32) (0 : Int32))
  else (if x0 = (4 : Int32) then
  (x_bo (f_X12_known m7) (fun y9 =>
  some (y9, m7)))
  else (if x0 = (5 : Int32) then
  (x_lp (φ := XM → Int32 → Int32 → Option (Int32 × XM)) (fun _ _ _ => none) (f_X12_now_147  ) x_NN m7 (0 : Int32) (0 : Int32))
  else (if x0 = (6 : Int32) then
  (x_lp (φ := XM → Int32 → Int32 → Option (Int32 × XM)) (fun _ _ _ => none) (f_X12_now_181  ) x_NN m7 (0 : Int32) (0 : Int32))
  else (if x0 = (7 : Int32) then
  (some (x_ga m7 2 (73 : Int32), m7))
  else (some ((-1 : Int32), m7))))))))))
set_option maxRecDepth 100000 in
set_option maxHeartbeats 4000000 in
theorem w_X12_now_98 {p : Program} {l : Launch} {e : Env} {s : State} {m : MethodId} {args : Array Value} {below : List Frame} {meth : Method} {c : Code} {D : va_G} {tc : Nat → ClassId} {aK aV : Nat → Nat} {A : Nat → Prop} {ad0 : Nat → Nat}  (X : Cx p s m args meth c cX12_now 4 (some .int) RX12 D tc aK aV A [(shModel, ad0)])  {o : Int32 × XM} {k74 : XM → Int32 → Int32 → Option (Int32 × XM)} (hk74 : ∀ (w0 : XM) (l2 : Int32) (l3 : Int32), k74 w0 l2 l3 = some o → aW p l e (x_Rm 8) s m args below meth c D tc A 4 [(shModel, ad0)] (some (.int o.1)) True [o.2] 74 [(0, .ref (ad0 0)), (2, .int l2), (3, .int l3)] [] [w0]) {w0 : XM} {l2 : Int32} {l3 : Int32}  (h : f_X12_now_98  k74 w0 l2 l3 = some o) : aW p l e (x_Rm 8) s m args below meth c D tc A 4 [(shModel, ad0)] (some (.int o.1)) True [o.2] 98 [(0, .ref (ad0 0)), (2, .int l2), (3, .int l3)] [] [w0] := by
  unfold f_X12_now_98 at h
  refine a_iinc (pc := 98) X 2 [(3, .int (l3 + 1)), (0, .ref (ad0 0)), (2, .int l2)] dX12_now_98 rfl (congrArg (HAdd.hAdd l3) q_ic_1) (by decide) rfl ?_
  refine a_goto (pc := 101) X 74 dX12_now_101 rfl ?_
  refine a_sub [1, 2, 0] rfl ?_
  exact hk74 _ _ _ h
set_option maxRecDepth 100000 in
set_option maxHeartbeats 4000000 in
theorem w_X12_now_74 {p : Program} {l : Launch} {e : Env} {s : State} {m : MethodId} {args : Array Value} {below : List Frame} {meth : Method} {c : Code} {D : va_G} {tc : Nat → ClassId} {aK aV : Nat → Nat} {A : Nat → Prop} {ad0 : Nat → Nat}  (X : Cx p s m args meth c cX12_now 4 (some .int) RX12 D tc aK aV A [(shModel, ad0)])  {o : Int32 × XM}  : ∀ (n : Nat), ∀ (w0 : XM) (l2 : Int32) (l3 : Int32), x_lp (φ := XM → Int32 → Int32 → Option (Int32 × XM)) (fun _ _ _ => none) (f_X12_now_74  ) n w0 l2 l3 = some o → aW p l e (x_Rm 8) s m args below meth c D tc A 4 [(shModel, ad0)] (some (.int o.1)) True [o.2] 74 [(0, .ref (ad0 0)), (2, .int l2), (3, .int l3)] [] [w0] := by
  intro n
  induction n with
  | zero => intro w0 l2 l3 h; exact absurd h (fun q => by cases q)
  | succ n ih =>
    intro w0 l2 l3 h
    have h : f_X12_now_74   (x_lp (φ := XM → Int32 → Int32 → Option (Int32 × XM)) (fun _ _ _ => none) (f_X12_now_74  ) n) w0 l2 l3 = some o := h
    generalize x_lp (φ := XM → Int32 → Int32 → Option (Int32 × XM)) (fun _ _ _ => none) (f_X12_now_74  ) n = k74 at h ih
    have hk74 := ih
    unfold f_X12_now_74 at h
    refine a_iload_n (pc := 74) X 2 dX12_now_74 rfl rfl ?_
    refine a_aload_n (pc := 75) X 0 dX12_now_75 rfl rfl ?_
    refine a_getR (pc := 76) X 0 2 2 fl_RX12_98 rfl rfl rfl rfl rfl dX12_now_76 ?_
    refine a_iconst (pc := 79) X dX12_now_79 q_ic_3 ?_
    refine a_iald (pc := 80) X 0 rfl rfl rfl (x_inl (by decide)) dX12_now_80 ?_
    refine a_icmp_ge (pc := 81) X 104 dX12_now_81 rfl (fun c_81 => ?_) (fun c_81 => ?_)
    · have h := x_ifp c_81 h
      refine a_iload_n (pc := 104) X 1 dX12_now_104 rfl rfl ?_
      have h := Option.some.inj h; subst h
      exact a_iret (pc := 105) X trivial dX12_now_105
    · have h := x_ifn c_81 h
      refine a_aload_n (pc := 84) X 0 dX12_now_84 rfl rfl ?_
      refine a_iload_n (pc := 85) X 2 dX12_now_85 rfl rfl ?_
      obtain ⟨y1, e_y1, h⟩ := x_bo_elim h
      refine a_callV (pc := 86) (st2 := [.int y1]) (vs2 := [w0]) X [(0, 0, 20)] [none] 0 0 12 [.int l3] [] cv_RX12_240 (c_X12_isGoing (ad0 := ad0)  e_y1) rfl rfl rfl rfl rfl rfl rfl rfl rfl rfl rfl rfl rfl rfl rfl (Nat.le_of_ble_eq_true rfl) ⟨Nat.le_of_ble_eq_true rfl, Nat.le_of_ble_eq_true rfl⟩ dX12_now_86 (fun z_86 => ?_)
      refine a_if_eq (pc := 89) X 98 dX12_now_89 rfl (fun c_89 => ?_) (fun c_89 => ?_)
      · have h := x_ifp c_89 h
        exact w_X12_now_98 X   hk74  h
      · have h := x_ifn c_89 h
        refine a_iload_n (pc := 92) X 1 dX12_now_92 rfl rfl ?_
        refine a_iconst (pc := 93) X dX12_now_93 q_ic_1 ?_
        refine a_iload_n (pc := 94) X 2 dX12_now_94 rfl rfl ?_
        refine a_ishl (pc := 95) X dX12_now_95 ?_
        refine a_ior (pc := 96) X dX12_now_96 ?_
        obtain ⟨y2, e_y2, h⟩ := x_lt_elim h
        refine a_ni e_y2 ?_
        refine a_istore_n (pc := 97) X [(2, .int y2), (0, .ref (ad0 0)), (3, .int l3)] dX12_now_97 rfl (by decide) rfl ?_
        refine a_sub [1, 0, 2] rfl ?_
        exact w_X12_now_98 X   hk74  h
set_option maxRecDepth 100000 in
set_option maxHeartbeats 4000000 in
theorem w_X12_now_132 {p : Program} {l : Launch} {e : Env} {s : State} {m : MethodId} {args : Array Value} {below : List Frame} {meth : Method} {c : Code} {D : va_G} {tc : Nat → ClassId} {aK aV : Nat → Nat} {A : Nat → Prop} {ad0 : Nat → Nat}  (X : Cx p s m args meth c cX12_now 4 (some .int) RX12 D tc aK aV A [(shModel, ad0)])  {o : Int32 × XM} {k108 : XM → Int32 → Int32 → Option (Int32 × XM)} (hk108 : ∀ (w0 : XM) (l2 : Int32) (l3 : Int32), k108 w0 l2 l3 = some o → aW p l e (x_Rm 8) s m args below meth c D tc A 4 [(shModel, ad0)] (some (.int o.1)) True [o.2] 108 [(0, .ref (ad0 0)), (2, .int l2), (3, .int l3)] [] [w0]) {w0 : XM} {l2 : Int32} {l3 : Int32}  (h : f_X12_now_132  k108 w0 l2 l3 = some o) : aW p l e (x_Rm 8) s m args below meth c D tc A 4 [(shModel, ad0)] (some (.int o.1)) True [o.2] 132 [(0, .ref (ad0 0)), (2, .int l2), (3, .int l3)] [] [w0] := by
  unfold f_X12_now_132 at h
  refine a_iinc (pc := 132) X 2 [(3, .int (l3 + 1)), (0, .ref (ad0 0)), (2, .int l2)] dX12_now_132 rfl (congrArg (HAdd.hAdd l3) q_ic_1) (by decide) rfl ?_
  refine a_goto (pc := 135) X 108 dX12_now_135 rfl ?_
  refine a_sub [1, 2, 0] rfl ?_
  exact hk108 _ _ _ h
set_option maxRecDepth 100000 in
set_option maxHeartbeats 4000000 in
theorem w_X12_now_108 {p : Program} {l : Launch} {e : Env} {s : State} {m : MethodId} {args : Array Value} {below : List Frame} {meth : Method} {c : Code} {D : va_G} {tc : Nat → ClassId} {aK aV : Nat → Nat} {A : Nat → Prop} {ad0 : Nat → Nat}  (X : Cx p s m args meth c cX12_now 4 (some .int) RX12 D tc aK aV A [(shModel, ad0)])  {o : Int32 × XM}  : ∀ (n : Nat), ∀ (w0 : XM) (l2 : Int32) (l3 : Int32), x_lp (φ := XM → Int32 → Int32 → Option (Int32 × XM)) (fun _ _ _ => none) (f_X12_now_108  ) n w0 l2 l3 = some o → aW p l e (x_Rm 8) s m args below meth c D tc A 4 [(shModel, ad0)] (some (.int o.1)) True [o.2] 108 [(0, .ref (ad0 0)), (2, .int l2), (3, .int l3)] [] [w0] := by
  intro n
  induction n with
  | zero => intro w0 l2 l3 h; exact absurd h (fun q => by cases q)
  | succ n ih =>
    intro w0 l2 l3 h
    have h : f_X12_now_108   (x_lp (φ := XM → Int32 → Int32 → Option (Int32 × XM)) (fun _ _ _ => none) (f_X12_now_108  ) n) w0 l2 l3 = some o := h
    generalize x_lp (φ := XM → Int32 → Int32 → Option (Int32 × XM)) (fun _ _ _ => none) (f_X12_now_108  ) n = k108 at h ih
    have hk108 := ih
    unfold f_X12_now_108 at h
    refine a_iload_n (pc := 108) X 2 dX12_now_108 rfl rfl ?_
    refine a_bipush (pc := 109) X dX12_now_109 q_bp_12 ?_
    refine a_icmp_ge (pc := 111) X 138 dX12_now_111 rfl (fun c_111 => ?_) (fun c_111 => ?_)
    · have h := x_ifp c_111 h
      refine a_iload_n (pc := 138) X 1 dX12_now_138 rfl rfl ?_
      have h := Option.some.inj h; subst h
      exact a_iret (pc := 139) X trivial dX12_now_139
    · have h := x_ifn c_111 h
      refine a_aload_n (pc := 114) X 0 dX12_now_114 rfl rfl ?_
      refine a_getR (pc := 115) X 0 2 2 fl_RX12_98 rfl rfl rfl rfl rfl dX12_now_115 ?_
      refine a_bipush (pc := 118) X dX12_now_118 q_bp_99 ?_
      refine a_iload_n (pc := 120) X 2 dX12_now_120 rfl rfl ?_
      refine a_iadd (pc := 121) X dX12_now_121 ?_
      obtain ⟨c_122, h⟩ := x_ck_elim h
      refine a_iald (pc := 122) X 0 rfl rfl rfl c_122 dX12_now_122 ?_
      refine a_if_le (pc := 123) X 132 dX12_now_123 rfl (fun c_123 => ?_) (fun c_123 => ?_)
      · have h := x_ifp c_123 h
        exact w_X12_now_132 X   hk108  h
      · have h := x_ifn c_123 h
        refine a_iload_n (pc := 126) X 1 dX12_now_126 rfl rfl ?_
        refine a_iconst (pc := 127) X dX12_now_127 q_ic_1 ?_
        refine a_iload_n (pc := 128) X 2 dX12_now_128 rfl rfl ?_
        refine a_ishl (pc := 129) X dX12_now_129 ?_
        refine a_ior (pc := 130) X dX12_now_130 ?_
        obtain ⟨y3, e_y3, h⟩ := x_lt_elim h
        refine a_ni e_y3 ?_
        refine a_istore_n (pc := 131) X [(2, .int y3), (0, .ref (ad0 0)), (3, .int l3)] dX12_now_131 rfl (by decide) rfl ?_
        refine a_sub [1, 0, 2] rfl ?_
        exact w_X12_now_132 X   hk108  h
set_option maxRecDepth 100000 in
set_option maxHeartbeats 4000000 in
theorem w_X12_now_171 {p : Program} {l : Launch} {e : Env} {s : State} {m : MethodId} {args : Array Value} {below : List Frame} {meth : Method} {c : Code} {D : va_G} {tc : Nat → ClassId} {aK aV : Nat → Nat} {A : Nat → Prop} {ad0 : Nat → Nat}  (X : Cx p s m args meth c cX12_now 4 (some .int) RX12 D tc aK aV A [(shModel, ad0)])  {o : Int32 × XM} {k147 : XM → Int32 → Int32 → Option (Int32 × XM)} (hk147 : ∀ (w0 : XM) (l2 : Int32) (l3 : Int32), k147 w0 l2 l3 = some o → aW p l e (x_Rm 8) s m args below meth c D tc A 4 [(shModel, ad0)] (some (.int o.1)) True [o.2] 147 [(0, .ref (ad0 0)), (2, .int l2), (3, .int l3)] [] [w0]) {w0 : XM} {l2 : Int32} {l3 : Int32}  (h : f_X12_now_171  k147 w0 l2 l3 = some o) : aW p l e (x_Rm 8) s m args below meth c D tc A 4 [(shModel, ad0)] (some (.int o.1)) True [o.2] 171 [(0, .ref (ad0 0)), (2, .int l2), (3, .int l3)] [] [w0] := by
  unfold f_X12_now_171 at h
  refine a_iinc (pc := 171) X 2 [(3, .int (l3 + 1)), (0, .ref (ad0 0)), (2, .int l2)] dX12_now_171 rfl (congrArg (HAdd.hAdd l3) q_ic_1) (by decide) rfl ?_
  refine a_goto (pc := 174) X 147 dX12_now_174 rfl ?_
  refine a_sub [1, 2, 0] rfl ?_
  exact hk147 _ _ _ h
set_option maxRecDepth 100000 in
set_option maxHeartbeats 4000000 in
theorem w_X12_now_147 {p : Program} {l : Launch} {e : Env} {s : State} {m : MethodId} {args : Array Value} {below : List Frame} {meth : Method} {c : Code} {D : va_G} {tc : Nat → ClassId} {aK aV : Nat → Nat} {A : Nat → Prop} {ad0 : Nat → Nat}  (X : Cx p s m args meth c cX12_now 4 (some .int) RX12 D tc aK aV A [(shModel, ad0)])  {o : Int32 × XM}  : ∀ (n : Nat), ∀ (w0 : XM) (l2 : Int32) (l3 : Int32), x_lp (φ := XM → Int32 → Int32 → Option (Int32 × XM)) (fun _ _ _ => none) (f_X12_now_147  ) n w0 l2 l3 = some o → aW p l e (x_Rm 8) s m args below meth c D tc A 4 [(shModel, ad0)] (some (.int o.1)) True [o.2] 147 [(0, .ref (ad0 0)), (2, .int l2), (3, .int l3)] [] [w0] := by
  intro n
  induction n with
  | zero => intro w0 l2 l3 h; exact absurd h (fun q => by cases q)
  | succ n ih =>
    intro w0 l2 l3 h
    have h : f_X12_now_147   (x_lp (φ := XM → Int32 → Int32 → Option (Int32 × XM)) (fun _ _ _ => none) (f_X12_now_147  ) n) w0 l2 l3 = some o := h
    generalize x_lp (φ := XM → Int32 → Int32 → Option (Int32 × XM)) (fun _ _ _ => none) (f_X12_now_147  ) n = k147 at h ih
    have hk147 := ih
    unfold f_X12_now_147 at h
    refine a_iload_n (pc := 147) X 2 dX12_now_147 rfl rfl ?_
    refine a_aload_n (pc := 148) X 0 dX12_now_148 rfl rfl ?_
    refine a_getR (pc := 149) X 0 2 2 fl_RX12_98 rfl rfl rfl rfl rfl dX12_now_149 ?_
    refine a_iconst (pc := 152) X dX12_now_152 q_ic_3 ?_
    refine a_iald (pc := 153) X 0 rfl rfl rfl (x_inl (by decide)) dX12_now_153 ?_
    refine a_icmp_ge (pc := 154) X 177 dX12_now_154 rfl (fun c_154 => ?_) (fun c_154 => ?_)
    · have h := x_ifp c_154 h
      refine a_iload_n (pc := 177) X 1 dX12_now_177 rfl rfl ?_
      have h := Option.some.inj h; subst h
      exact a_iret (pc := 178) X trivial dX12_now_178
    · have h := x_ifn c_154 h
      refine a_aload_n (pc := 157) X 0 dX12_now_157 rfl rfl ?_
      refine a_iload_n (pc := 158) X 2 dX12_now_158 rfl rfl ?_
      obtain ⟨y4, e_y4, h⟩ := x_bo_elim h
      refine a_callV (pc := 159) (st2 := [.int y4.1]) (vs2 := [y4.2]) X [(0, 0, 20)] [some y4.2] 0 0 12 [.int l3] [] cv_RX12_277 (c_X12_isLost (ad0 := ad0)  e_y4) rfl rfl rfl rfl rfl rfl rfl rfl rfl rfl rfl rfl rfl rfl rfl (Nat.le_of_ble_eq_true rfl) ⟨Nat.le_of_ble_eq_true rfl, Nat.le_of_ble_eq_true rfl⟩ dX12_now_159 (fun z_159 => ?_)
      refine a_if_eq (pc := 162) X 171 dX12_now_162 rfl (fun c_162 => ?_) (fun c_162 => ?_)
      · have h := x_ifp c_162 h
        exact w_X12_now_171 X   hk147  h
      · have h := x_ifn c_162 h
        refine a_iload_n (pc := 165) X 1 dX12_now_165 rfl rfl ?_
        refine a_iconst (pc := 166) X dX12_now_166 q_ic_1 ?_
        refine a_iload_n (pc := 167) X 2 dX12_now_167 rfl rfl ?_
        refine a_ishl (pc := 168) X dX12_now_168 ?_
        refine a_ior (pc := 169) X dX12_now_169 ?_
        obtain ⟨y5, e_y5, h⟩ := x_lt_elim h
        refine a_ni e_y5 ?_
        refine a_istore_n (pc := 170) X [(2, .int y5), (0, .ref (ad0 0)), (3, .int l3)] dX12_now_170 rfl (by decide) rfl ?_
        refine a_sub [1, 0, 2] rfl ?_
        exact w_X12_now_171 X   hk147  h
set_option maxRecDepth 100000 in
set_option maxHeartbeats 4000000 in
theorem w_X12_now_181 {p : Program} {l : Launch} {e : Env} {s : State} {m : MethodId} {args : Array Value} {below : List Frame} {meth : Method} {c : Code} {D : va_G} {tc : Nat → ClassId} {aK aV : Nat → Nat} {A : Nat → Prop} {ad0 : Nat → Nat}  (X : Cx p s m args meth c cX12_now 4 (some .int) RX12 D tc aK aV A [(shModel, ad0)])  {o : Int32 × XM}  : ∀ (n : Nat), ∀ (w0 : XM) (l2 : Int32) (l3 : Int32), x_lp (φ := XM → Int32 → Int32 → Option (Int32 × XM)) (fun _ _ _ => none) (f_X12_now_181  ) n w0 l2 l3 = some o → aW p l e (x_Rm 8) s m args below meth c D tc A 4 [(shModel, ad0)] (some (.int o.1)) True [o.2] 181 [(0, .ref (ad0 0)), (2, .int l2), (3, .int l3)] [] [w0] := by
  intro n
  induction n with
  | zero => intro w0 l2 l3 h; exact absurd h (fun q => by cases q)
  | succ n ih =>
    intro w0 l2 l3 h
    have h : f_X12_now_181   (x_lp (φ := XM → Int32 → Int32 → Option (Int32 × XM)) (fun _ _ _ => none) (f_X12_now_181  ) n) w0 l2 l3 = some o := h
    generalize x_lp (φ := XM → Int32 → Int32 → Option (Int32 × XM)) (fun _ _ _ => none) (f_X12_now_181  ) n = k181 at h ih
    have hk181 := ih
    unfold f_X12_now_181 at h
    refine a_iload_n (pc := 181) X 2 dX12_now_181 rfl rfl ?_
    refine a_iconst (pc := 182) X dX12_now_182 q_ic_5 ?_
    refine a_icmp_ge (pc := 183) X 204 dX12_now_183 rfl (fun c_183 => ?_) (fun c_183 => ?_)
    · have h := x_ifp c_183 h
      refine a_iload_n (pc := 204) X 1 dX12_now_204 rfl rfl ?_
      have h := Option.some.inj h; subst h
      exact a_iret (pc := 205) X trivial dX12_now_205
    · have h := x_ifn c_183 h
      refine a_iload_n (pc := 186) X 1 dX12_now_186 rfl rfl ?_
      refine a_aload_n (pc := 187) X 0 dX12_now_187 rfl rfl ?_
      refine a_getR (pc := 188) X 0 2 2 fl_RX12_98 rfl rfl rfl rfl rfl dX12_now_188 ?_
      refine a_bipush (pc := 191) X dX12_now_191 q_bp_89 ?_
      refine a_iload_n (pc := 193) X 2 dX12_now_193 rfl rfl ?_
      refine a_iadd (pc := 194) X dX12_now_194 ?_
      obtain ⟨c_195, h⟩ := x_ck_elim h
      refine a_iald (pc := 195) X 0 rfl rfl rfl c_195 dX12_now_195 ?_
      refine a_iadd (pc := 196) X dX12_now_196 ?_
      obtain ⟨y6, e_y6, h⟩ := x_lt_elim h
      refine a_ni e_y6 ?_
      refine a_istore_n (pc := 197) X [(2, .int y6), (0, .ref (ad0 0)), (3, .int l3)] dX12_now_197 rfl (by decide) rfl ?_
      refine a_iinc (pc := 198) X 2 [(3, .int (l3 + 1)), (2, .int y6), (0, .ref (ad0 0))] dX12_now_198 rfl (congrArg (HAdd.hAdd l3) q_ic_1) (by decide) rfl ?_
      refine a_goto (pc := 201) X 181 dX12_now_201 rfl ?_
      refine a_sub [2, 1, 0] rfl ?_
      exact hk181 _ _ _ h
set_option maxRecDepth 100000 in
set_option maxHeartbeats 4000000 in
theorem c_X12_now {l : Launch}  {ad0 : Nat → Nat} {v0 : XM} {x0 : Int32}  {o : Int32 × XM} (h : f_X12_now v0 x0 = some o) : CT l yX12_now cX12_now 4 (some .int) 8 [(shModel, ad0)] [v0] (fun aK => [.ref (ad0 0), .int x0]) (some (.int o.1)) True [o.2] := by
  refine CT_of (by decide) (fun _ => Nat.le_of_ble_eq_true rfl) ?_
  intro p e s m args below meth c D tc aK aV A X
  have X : Cx p s m args meth c cX12_now 4 (some .int) RX12 D tc aK aV A [(shModel, ad0)] := X
  show aW p l e (x_Rm 8) s m args below meth c D tc A 4 [(shModel, ad0)] (some (.int o.1)) True [o.2] 0 [(0, .ref (ad0 0)), (1, .int x0)] [] [v0]
  unfold f_X12_now at h
  refine a_aload_n (pc := 0) X 0 dX12_now_0 rfl rfl ?_
  refine a_iconst (pc := 1) X dX12_now_1 q_ic_0 ?_
  refine a_putI (pc := 2) X 0 fl_RX12_1 rfl rfl rfl rfl dX12_now_2 ?_
  obtain ⟨m7, e_m7, h⟩ := x_lt_elim h
  refine a_nm (vs2 := [m7]) (congrArg (fun q : XM => [q]) e_m7) ?_
  refine a_iconst (pc := 5) X dX12_now_5 q_ic_0 ?_
  refine a_istore_n (pc := 6) X [(2, .int (0 : Int32)), (0, .ref (ad0 0)), (1, .int x0)] dX12_now_6 rfl (by decide) rfl ?_
  refine a_iload_n (pc := 7) X 2 dX12_now_7 rfl rfl ?_
  by_cases c_8_0 : x0 = (0 : Int32)
  · have h := x_ifp c_8_0 h
    refine a_tin (pc := 8) X 56 dX12_now_8 c_8_0 (by decide) (by decide) rfl rfl ?_
    refine a_aload_n (pc := 56) X 1 dX12_now_56 rfl rfl ?_
    refine a_getR (pc := 57) X 0 2 2 fl_RX12_98 rfl rfl rfl rfl rfl dX12_now_57 ?_
    refine a_bipush (pc := 60) X dX12_now_60 q_bp_70 ?_
    refine a_iald (pc := 62) X 0 rfl rfl rfl (x_inl (by decide)) dX12_now_62 ?_
    have h := Option.some.inj h; subst h
    exact a_iret (pc := 63) X trivial dX12_now_63
  · have h := x_ifn c_8_0 h
    by_cases c_8_1 : x0 = (1 : Int32)
    · have h := x_ifp c_8_1 h
      refine a_tin (pc := 8) X 64 dX12_now_8 c_8_1 (by decide) (by decide) rfl rfl ?_
      refine a_aload_n (pc := 64) X 1 dX12_now_64 rfl rfl ?_
      refine a_getR (pc := 65) X 0 2 2 fl_RX12_98 rfl rfl rfl rfl rfl dX12_now_65 ?_
      refine a_bipush (pc := 68) X dX12_now_68 q_bp_71 ?_
      refine a_iald (pc := 70) X 0 rfl rfl rfl (x_inl (by decide)) dX12_now_70 ?_
      have h := Option.some.inj h; subst h
      exact a_iret (pc := 71) X trivial dX12_now_71
    · have h := x_ifn c_8_1 h
      by_cases c_8_2 : x0 = (2 : Int32)
      · have h := x_ifp c_8_2 h
        refine a_tin (pc := 8) X 72 dX12_now_8 c_8_2 (by decide) (by decide) rfl rfl ?_
        refine a_iconst (pc := 72) X dX12_now_72 q_ic_0 ?_
        refine a_istore_n (pc := 73) X [(3, .int (0 : Int32)), (2, .int (0 : Int32)), (0, .ref (ad0 0)), (1, .int x0)] dX12_now_73 rfl (by decide) rfl ?_
        refine a_sub [2, 1, 0] rfl ?_
        exact w_X12_now_74 X    x_NN _ _ _ h
      · have h := x_ifn c_8_2 h
        by_cases c_8_3 : x0 = (3 : Int32)
        · have h := x_ifp c_8_3 h
          refine a_tin (pc := 8) X 106 dX12_now_8 c_8_3 (by decide) (by decide) rfl rfl ?_
          refine a_iconst (pc := 106) X dX12_now_106 q_ic_0 ?_
          refine a_istore_n (pc := 107) X [(3, .int (0 : Int32)), (2, .int (0 : Int32)), (0, .ref (ad0 0)), (1, .int x0)] dX12_now_107 rfl (by decide) rfl ?_
          refine a_sub [2, 1, 0] rfl ?_
          exact w_X12_now_108 X    x_NN _ _ _ h
        · have h := x_ifn c_8_3 h
          by_cases c_8_4 : x0 = (4 : Int32)
          · have h := x_ifp c_8_4 h
            refine a_tin (pc := 8) X 140 dX12_now_8 c_8_4 (by decide) (by decide) rfl rfl ?_
            refine a_aload_n (pc := 140) X 1 dX12_now_140 rfl rfl ?_
            obtain ⟨y9, e_y9, h⟩ := x_bo_elim h
            refine a_callV (pc := 141) (st2 := [.int y9]) (vs2 := [m7]) X [(0, 0, 20)] [none] 0 0 12 [] [] cv_RX12_289 (c_X12_known (ad0 := ad0)  e_y9) rfl rfl rfl rfl rfl rfl rfl rfl rfl rfl rfl rfl rfl rfl rfl (Nat.le_of_ble_eq_true rfl) ⟨Nat.le_of_ble_eq_true rfl, Nat.le_of_ble_eq_true rfl⟩ dX12_now_141 (fun _ => ?_)
            have h := Option.some.inj h; subst h
            exact a_iret (pc := 144) X trivial dX12_now_144
          · have h := x_ifn c_8_4 h
            by_cases c_8_5 : x0 = (5 : Int32)
            · have h := x_ifp c_8_5 h
              refine a_tin (pc := 8) X 145 dX12_now_8 c_8_5 (by decide) (by decide) rfl rfl ?_
              refine a_iconst (pc := 145) X dX12_now_145 q_ic_0 ?_
              refine a_istore_n (pc := 146) X [(3, .int (0 : Int32)), (2, .int (0 : Int32)), (0, .ref (ad0 0)), (1, .int x0)] dX12_now_146 rfl (by decide) rfl ?_
              refine a_sub [2, 1, 0] rfl ?_
              exact w_X12_now_147 X    x_NN _ _ _ h
            · have h := x_ifn c_8_5 h
              by_cases c_8_6 : x0 = (6 : Int32)
              · have h := x_ifp c_8_6 h
                refine a_tin (pc := 8) X 179 dX12_now_8 c_8_6 (by decide) (by decide) rfl rfl ?_
                refine a_iconst (pc := 179) X dX12_now_179 q_ic_0 ?_
                refine a_istore_n (pc := 180) X [(3, .int (0 : Int32)), (2, .int (0 : Int32)), (0, .ref (ad0 0)), (1, .int x0)] dX12_now_180 rfl (by decide) rfl ?_
                refine a_sub [2, 1, 0] rfl ?_
                exact w_X12_now_181 X    x_NN _ _ _ h
              · have h := x_ifn c_8_6 h
                by_cases c_8_7 : x0 = (7 : Int32)
                · have h := x_ifp c_8_7 h
                  refine a_tin (pc := 8) X 206 dX12_now_8 c_8_7 (by decide) (by decide) rfl rfl ?_
                  refine a_aload_n (pc := 206) X 1 dX12_now_206 rfl rfl ?_
                  refine a_getR (pc := 207) X 0 2 2 fl_RX12_98 rfl rfl rfl rfl rfl dX12_now_207 ?_
                  refine a_bipush (pc := 210) X dX12_now_210 q_bp_73 ?_
                  refine a_iald (pc := 212) X 0 rfl rfl rfl (x_inl (by decide)) dX12_now_212 ?_
                  have h := Option.some.inj h; subst h
                  exact a_iret (pc := 213) X trivial dX12_now_213
                · have h := x_ifn c_8_7 h
                  refine a_tout (pc := 8) X 214 dX12_now_8 (by have q0 := x_ne c_8_0; have q1 := x_ne c_8_1; have q2 := x_ne c_8_2; have q3 := x_ne c_8_3; have q4 := x_ne c_8_4; have q5 := x_ne c_8_5; have q6 := x_ne c_8_6; have q7 := x_ne c_8_7; have q0 : (x0 : Int32).toInt ≠ 0 := q0; have q1 : (x0 : Int32).toInt ≠ 1 := q1; have q2 : (x0 : Int32).toInt ≠ 2 := q2; have q3 : (x0 : Int32).toInt ≠ 3 := q3; have q4 : (x0 : Int32).toInt ≠ 4 := q4; have q5 : (x0 : Int32).toInt ≠ 5 := q5; have q6 : (x0 : Int32).toInt ≠ 6 := q6; have q7 : (x0 : Int32).toInt ≠ 7 := q7; omega) rfl ?_
                  refine a_iconst (pc := 214) X dX12_now_214 q_ic_m1 ?_
                  have h := Option.some.inj h; subst h
                  exact a_iret (pc := 215) X trivial dX12_now_215
theorem dX12_snap_0 : decode cX12_snap 0 = .ok (.aload_n 0, 1) := by decide +kernel
theorem dX12_snap_1 : decode cX12_snap 1 = .ok (.getfield 234, 3) := by decide +kernel
theorem dX12_snap_4 : decode cX12_snap 4 = .ok (.bipush 8, 2) := by decide +kernel
theorem dX12_snap_6 : decode cX12_snap 6 = .ok (.if_icmp .ne 43, 3) := by decide +kernel
theorem dX12_snap_9 : decode cX12_snap 9 = .ok (.iconst 0, 1) := by decide +kernel
theorem dX12_snap_10 : decode cX12_snap 10 = .ok (.istore_n 1, 1) := by decide +kernel
theorem dX12_snap_11 : decode cX12_snap 11 = .ok (.iload_n 1, 1) := by decide +kernel
theorem dX12_snap_12 : decode cX12_snap 12 = .ok (.sipush 287, 3) := by decide +kernel
theorem dX12_snap_15 : decode cX12_snap 15 = .ok (.if_icmp .ge 24, 3) := by decide +kernel
theorem dX12_snap_18 : decode cX12_snap 18 = .ok (.aload_n 0, 1) := by decide +kernel
theorem dX12_snap_19 : decode cX12_snap 19 = .ok (.getfield 107, 3) := by decide +kernel
theorem dX12_snap_22 : decode cX12_snap 22 = .ok (.iload_n 1, 1) := by decide +kernel
theorem dX12_snap_23 : decode cX12_snap 23 = .ok (.aload_n 0, 1) := by decide +kernel
theorem dX12_snap_24 : decode cX12_snap 24 = .ok (.getfield 107, 3) := by decide +kernel
theorem dX12_snap_27 : decode cX12_snap 27 = .ok (.iload_n 1, 1) := by decide +kernel
theorem dX12_snap_28 : decode cX12_snap 28 = .ok (.bipush 41, 2) := by decide +kernel
theorem dX12_snap_30 : decode cX12_snap 30 = .ok (.iadd, 1) := by decide +kernel
theorem dX12_snap_31 : decode cX12_snap 31 = .ok (.iaload, 1) := by decide +kernel
theorem dX12_snap_32 : decode cX12_snap 32 = .ok (.iastore, 1) := by decide +kernel
theorem dX12_snap_33 : decode cX12_snap 33 = .ok (.iinc 1 1, 3) := by decide +kernel
theorem dX12_snap_36 : decode cX12_snap 36 = .ok (.goto (-25), 3) := by decide +kernel
theorem dX12_snap_39 : decode cX12_snap 39 = .ok (.aload_n 0, 1) := by decide +kernel
theorem dX12_snap_40 : decode cX12_snap 40 = .ok (.dup, 1) := by decide +kernel
theorem dX12_snap_41 : decode cX12_snap 41 = .ok (.getfield 234, 3) := by decide +kernel
theorem dX12_snap_44 : decode cX12_snap 44 = .ok (.iconst 1, 1) := by decide +kernel
theorem dX12_snap_45 : decode cX12_snap 45 = .ok (.isub, 1) := by decide +kernel
theorem dX12_snap_46 : decode cX12_snap 46 = .ok (.putfield 234, 3) := by decide +kernel
theorem dX12_snap_49 : decode cX12_snap 49 = .ok (.iconst 0, 1) := by decide +kernel
theorem dX12_snap_50 : decode cX12_snap 50 = .ok (.istore_n 1, 1) := by decide +kernel
theorem dX12_snap_51 : decode cX12_snap 51 = .ok (.iload_n 1, 1) := by decide +kernel
theorem dX12_snap_52 : decode cX12_snap 52 = .ok (.bipush 41, 2) := by decide +kernel
theorem dX12_snap_54 : decode cX12_snap 54 = .ok (.if_icmp .ge 32, 3) := by decide +kernel
theorem dX12_snap_57 : decode cX12_snap 57 = .ok (.aload_n 0, 1) := by decide +kernel
theorem dX12_snap_58 : decode cX12_snap 58 = .ok (.getfield 107, 3) := by decide +kernel
theorem dX12_snap_61 : decode cX12_snap 61 = .ok (.bipush 41, 2) := by decide +kernel
theorem dX12_snap_63 : decode cX12_snap 63 = .ok (.aload_n 0, 1) := by decide +kernel
theorem dX12_snap_64 : decode cX12_snap 64 = .ok (.getfield 234, 3) := by decide +kernel
theorem dX12_snap_67 : decode cX12_snap 67 = .ok (.imul, 1) := by decide +kernel
theorem dX12_snap_68 : decode cX12_snap 68 = .ok (.iload_n 1, 1) := by decide +kernel
theorem dX12_snap_69 : decode cX12_snap 69 = .ok (.iadd, 1) := by decide +kernel
theorem dX12_snap_70 : decode cX12_snap 70 = .ok (.aload_n 0, 1) := by decide +kernel
theorem dX12_snap_71 : decode cX12_snap 71 = .ok (.getfield 98, 3) := by decide +kernel
theorem dX12_snap_74 : decode cX12_snap 74 = .ok (.bipush 70, 2) := by decide +kernel
theorem dX12_snap_76 : decode cX12_snap 76 = .ok (.iload_n 1, 1) := by decide +kernel
theorem dX12_snap_77 : decode cX12_snap 77 = .ok (.iadd, 1) := by decide +kernel
theorem dX12_snap_78 : decode cX12_snap 78 = .ok (.iaload, 1) := by decide +kernel
theorem dX12_snap_79 : decode cX12_snap 79 = .ok (.iastore, 1) := by decide +kernel
theorem dX12_snap_80 : decode cX12_snap 80 = .ok (.iinc 1 1, 3) := by decide +kernel
theorem dX12_snap_83 : decode cX12_snap 83 = .ok (.goto (-32), 3) := by decide +kernel
theorem dX12_snap_86 : decode cX12_snap 86 = .ok (.aload_n 0, 1) := by decide +kernel
theorem dX12_snap_87 : decode cX12_snap 87 = .ok (.dup, 1) := by decide +kernel
theorem dX12_snap_88 : decode cX12_snap 88 = .ok (.getfield 234, 3) := by decide +kernel
theorem dX12_snap_91 : decode cX12_snap 91 = .ok (.iconst 1, 1) := by decide +kernel
theorem dX12_snap_92 : decode cX12_snap 92 = .ok (.iadd, 1) := by decide +kernel
theorem dX12_snap_93 : decode cX12_snap 93 = .ok (.putfield 234, 3) := by decide +kernel
theorem dX12_snap_96 : decode cX12_snap 96 = .ok (.return_, 1) := by decide +kernel
def f_X12_snap_51 (k51 : XM → Int32 → Option (XM)) (w0 : XM) (l1 : Int32) : Option (XM) :=
  if ((41 : Int32) : Int32) ≤ l1 then
  (x_lt (x_si w0 0 24 ((w0.1 0 24) + (1 : Int32))) (fun m1 =>
  some m1))
  else (x_ck ((70 : Int32) + l1) 353 (
  x_ck (((41 : Int32) * (w0.1 0 24)) + l1) 328 (
  x_lt (x_pa w0 5 (((41 : Int32) * (w0.1 0 24)) + l1) (x_ga w0 2 ((70 : Int32) + l1))) (fun m2 =>
  k51 m2 (l1 + 1)))))
def f_X12_snap_49 (w0 : XM) : Option (XM) :=
  x_lp (φ := XM → Int32 → Option (XM)) (fun _ _ => none) (f_X12_snap_51  ) x_NN w0 (0 : Int32)
def f_X12_snap_11 (k11 : XM → Int32 → Option (XM)) (w0 : XM) (l1 : Int32) : Option (XM) :=
  if ((287 : Int32) : Int32) ≤ l1 then
  (x_lt (x_si w0 0 24 ((w0.1 0 24) - (1 : Int32))) (fun m3 =>
  f_X12_snap_49   m3))
  else (x_ck (l1 + (41 : Int32)) 328 (
  x_ck l1 328 (
  x_lt (x_pa w0 5 l1 (x_ga w0 5 (l1 + (41 : Int32)))) (fun m4 =>
  k11 m4 (l1 + 1)))))
def f_X12_snap (v0 : XM) : Option (XM) :=
  if ((v0.1 0 24) : Int32) = (8 : Int32) then
  (x_lp (φ := XM → Int32 → Option (XM)) (fun _ _ => none) (f_X12_snap_11  ) x_NN v0 (0 : Int32))
  else (f_X12_snap_49   v0)
set_option maxRecDepth 100000 in
set_option maxHeartbeats 4000000 in
theorem w_X12_snap_51 {p : Program} {l : Launch} {e : Env} {s : State} {m : MethodId} {args : Array Value} {below : List Frame} {meth : Method} {c : Code} {D : va_G} {tc : Nat → ClassId} {aK aV : Nat → Nat} {A : Nat → Prop} {ad0 : Nat → Nat}  (X : Cx p s m args meth c cX12_snap 2 none RX12 D tc aK aV A [(shModel, ad0)])  {o : XM}  : ∀ (n : Nat), ∀ (w0 : XM) (l1 : Int32), x_lp (φ := XM → Int32 → Option (XM)) (fun _ _ => none) (f_X12_snap_51  ) n w0 l1 = some o → aW p l e (x_Rm 0) s m args below meth c D tc A 2 [(shModel, ad0)] none True [o] 51 [(0, .ref (ad0 0)), (1, .int l1)] [] [w0] := by
  intro n
  induction n with
  | zero => intro w0 l1 h; exact absurd h (fun q => by cases q)
  | succ n ih =>
    intro w0 l1 h
    have h : f_X12_snap_51   (x_lp (φ := XM → Int32 → Option (XM)) (fun _ _ => none) (f_X12_snap_51  ) n) w0 l1 = some o := h
    generalize x_lp (φ := XM → Int32 → Option (XM)) (fun _ _ => none) (f_X12_snap_51  ) n = k51 at h ih
    have hk51 := ih
    unfold f_X12_snap_51 at h
    refine a_iload_n (pc := 51) X 1 dX12_snap_51 rfl rfl ?_
    refine a_bipush (pc := 52) X dX12_snap_52 q_bp_41 ?_
    refine a_icmp_ge (pc := 54) X 86 dX12_snap_54 rfl (fun c_54 => ?_) (fun c_54 => ?_)
    · have h := x_ifp c_54 h
      refine a_aload_n (pc := 86) X 0 dX12_snap_86 rfl rfl ?_
      refine a_dup (pc := 87) X dX12_snap_87 rfl ?_
      refine a_getI (pc := 88) X 0 fl_RX12_234 rfl rfl rfl rfl dX12_snap_88 ?_
      refine a_iconst (pc := 91) X dX12_snap_91 q_ic_1 ?_
      refine a_iadd (pc := 92) X dX12_snap_92 ?_
      refine a_putI (pc := 93) X 0 fl_RX12_234 rfl rfl rfl rfl dX12_snap_93 ?_
      obtain ⟨m1, e_m1, h⟩ := x_lt_elim h
      refine a_nm (vs2 := [m1]) (congrArg (fun q : XM => [q]) e_m1) ?_
      have h := Option.some.inj h; subst h
      exact a_vret (pc := 96) X trivial dX12_snap_96
    · have h := x_ifn c_54 h
      refine a_aload_n (pc := 57) X 0 dX12_snap_57 rfl rfl ?_
      refine a_getR (pc := 58) X 0 5 5 fl_RX12_107 rfl rfl rfl rfl rfl dX12_snap_58 ?_
      refine a_bipush (pc := 61) X dX12_snap_61 q_bp_41 ?_
      refine a_aload_n (pc := 63) X 0 dX12_snap_63 rfl rfl ?_
      refine a_getI (pc := 64) X 0 fl_RX12_234 rfl rfl rfl rfl dX12_snap_64 ?_
      refine a_imul (pc := 67) X dX12_snap_67 ?_
      refine a_iload_n (pc := 68) X 1 dX12_snap_68 rfl rfl ?_
      refine a_iadd (pc := 69) X dX12_snap_69 ?_
      refine a_aload_n (pc := 70) X 0 dX12_snap_70 rfl rfl ?_
      refine a_getR (pc := 71) X 0 2 2 fl_RX12_98 rfl rfl rfl rfl rfl dX12_snap_71 ?_
      refine a_bipush (pc := 74) X dX12_snap_74 q_bp_70 ?_
      refine a_iload_n (pc := 76) X 1 dX12_snap_76 rfl rfl ?_
      refine a_iadd (pc := 77) X dX12_snap_77 ?_
      obtain ⟨c_78, h⟩ := x_ck_elim h
      refine a_iald (pc := 78) X 0 rfl rfl rfl c_78 dX12_snap_78 ?_
      obtain ⟨c_79, h⟩ := x_ck_elim h
      refine a_iast (pc := 79) X 0 rfl rfl rfl c_79 dX12_snap_79 ?_
      obtain ⟨m2, e_m2, h⟩ := x_lt_elim h
      refine a_nm (vs2 := [m2]) (congrArg (fun q : XM => [q]) e_m2) ?_
      refine a_iinc (pc := 80) X 1 [(1, .int (l1 + 1)), (0, .ref (ad0 0))] dX12_snap_80 rfl (congrArg (HAdd.hAdd l1) q_ic_1) (by decide) rfl ?_
      refine a_goto (pc := 83) X 51 dX12_snap_83 rfl ?_
      refine a_sub [1, 0] rfl ?_
      exact hk51 _ _ h
set_option maxRecDepth 100000 in
set_option maxHeartbeats 4000000 in
theorem w_X12_snap_49 {p : Program} {l : Launch} {e : Env} {s : State} {m : MethodId} {args : Array Value} {below : List Frame} {meth : Method} {c : Code} {D : va_G} {tc : Nat → ClassId} {aK aV : Nat → Nat} {A : Nat → Prop} {ad0 : Nat → Nat}  (X : Cx p s m args meth c cX12_snap 2 none RX12 D tc aK aV A [(shModel, ad0)])  {o : XM}  {w0 : XM}  (h : f_X12_snap_49   w0 = some o) : aW p l e (x_Rm 0) s m args below meth c D tc A 2 [(shModel, ad0)] none True [o] 49 [(0, .ref (ad0 0))] [] [w0] := by
  unfold f_X12_snap_49 at h
  refine a_iconst (pc := 49) X dX12_snap_49 q_ic_0 ?_
  refine a_istore_n (pc := 50) X [(1, .int (0 : Int32)), (0, .ref (ad0 0))] dX12_snap_50 rfl (by decide) rfl ?_
  refine a_sub [1, 0] rfl ?_
  exact w_X12_snap_51 X    x_NN _ _ h
set_option maxRecDepth 100000 in
set_option maxHeartbeats 4000000 in
theorem w_X12_snap_11 {p : Program} {l : Launch} {e : Env} {s : State} {m : MethodId} {args : Array Value} {below : List Frame} {meth : Method} {c : Code} {D : va_G} {tc : Nat → ClassId} {aK aV : Nat → Nat} {A : Nat → Prop} {ad0 : Nat → Nat}  (X : Cx p s m args meth c cX12_snap 2 none RX12 D tc aK aV A [(shModel, ad0)])  {o : XM}  : ∀ (n : Nat), ∀ (w0 : XM) (l1 : Int32), x_lp (φ := XM → Int32 → Option (XM)) (fun _ _ => none) (f_X12_snap_11  ) n w0 l1 = some o → aW p l e (x_Rm 0) s m args below meth c D tc A 2 [(shModel, ad0)] none True [o] 11 [(0, .ref (ad0 0)), (1, .int l1)] [] [w0] := by
  intro n
  induction n with
  | zero => intro w0 l1 h; exact absurd h (fun q => by cases q)
  | succ n ih =>
    intro w0 l1 h
    have h : f_X12_snap_11   (x_lp (φ := XM → Int32 → Option (XM)) (fun _ _ => none) (f_X12_snap_11  ) n) w0 l1 = some o := h
    generalize x_lp (φ := XM → Int32 → Option (XM)) (fun _ _ => none) (f_X12_snap_11  ) n = k11 at h ih
    have hk11 := ih
    unfold f_X12_snap_11 at h
    refine a_iload_n (pc := 11) X 1 dX12_snap_11 rfl rfl ?_
    refine a_sipush (pc := 12) X dX12_snap_12 q_sp_287 ?_
    refine a_icmp_ge (pc := 15) X 39 dX12_snap_15 rfl (fun c_15 => ?_) (fun c_15 => ?_)
    · have h := x_ifp c_15 h
      refine a_aload_n (pc := 39) X 0 dX12_snap_39 rfl rfl ?_
      refine a_dup (pc := 40) X dX12_snap_40 rfl ?_
      refine a_getI (pc := 41) X 0 fl_RX12_234 rfl rfl rfl rfl dX12_snap_41 ?_
      refine a_iconst (pc := 44) X dX12_snap_44 q_ic_1 ?_
      refine a_isub (pc := 45) X dX12_snap_45 ?_
      refine a_putI (pc := 46) X 0 fl_RX12_234 rfl rfl rfl rfl dX12_snap_46 ?_
      obtain ⟨m3, e_m3, h⟩ := x_lt_elim h
      refine a_nm (vs2 := [m3]) (congrArg (fun q : XM => [q]) e_m3) ?_
      refine a_sub [0] rfl ?_
      exact w_X12_snap_49 X     h
    · have h := x_ifn c_15 h
      refine a_aload_n (pc := 18) X 0 dX12_snap_18 rfl rfl ?_
      refine a_getR (pc := 19) X 0 5 5 fl_RX12_107 rfl rfl rfl rfl rfl dX12_snap_19 ?_
      refine a_iload_n (pc := 22) X 1 dX12_snap_22 rfl rfl ?_
      refine a_aload_n (pc := 23) X 0 dX12_snap_23 rfl rfl ?_
      refine a_getR (pc := 24) X 0 5 5 fl_RX12_107 rfl rfl rfl rfl rfl dX12_snap_24 ?_
      refine a_iload_n (pc := 27) X 1 dX12_snap_27 rfl rfl ?_
      refine a_bipush (pc := 28) X dX12_snap_28 q_bp_41 ?_
      refine a_iadd (pc := 30) X dX12_snap_30 ?_
      obtain ⟨c_31, h⟩ := x_ck_elim h
      refine a_iald (pc := 31) X 0 rfl rfl rfl c_31 dX12_snap_31 ?_
      obtain ⟨c_32, h⟩ := x_ck_elim h
      refine a_iast (pc := 32) X 0 rfl rfl rfl c_32 dX12_snap_32 ?_
      obtain ⟨m4, e_m4, h⟩ := x_lt_elim h
      refine a_nm (vs2 := [m4]) (congrArg (fun q : XM => [q]) e_m4) ?_
      refine a_iinc (pc := 33) X 1 [(1, .int (l1 + 1)), (0, .ref (ad0 0))] dX12_snap_33 rfl (congrArg (HAdd.hAdd l1) q_ic_1) (by decide) rfl ?_
      refine a_goto (pc := 36) X 11 dX12_snap_36 rfl ?_
      refine a_sub [1, 0] rfl ?_
      exact hk11 _ _ h
set_option maxRecDepth 100000 in
set_option maxHeartbeats 4000000 in
theorem c_X12_snap {l : Launch}  {ad0 : Nat → Nat} {v0 : XM}   {o : XM} (h : f_X12_snap v0 = some o) : CT l yX12_snap cX12_snap 2 none 0 [(shModel, ad0)] [v0] (fun aK => [.ref (ad0 0)]) none True [o] := by
  refine CT_of (by decide) (fun _ => Nat.le_of_ble_eq_true rfl) ?_
  intro p e s m args below meth c D tc aK aV A X
  have X : Cx p s m args meth c cX12_snap 2 none RX12 D tc aK aV A [(shModel, ad0)] := X
  show aW p l e (x_Rm 0) s m args below meth c D tc A 2 [(shModel, ad0)] none True [o] 0 [(0, .ref (ad0 0))] [] [v0]
  unfold f_X12_snap at h
  refine a_aload_n (pc := 0) X 0 dX12_snap_0 rfl rfl ?_
  refine a_getI (pc := 1) X 0 fl_RX12_234 rfl rfl rfl rfl dX12_snap_1 ?_
  refine a_bipush (pc := 4) X dX12_snap_4 q_bp_8 ?_
  refine a_icmp_ne (pc := 6) X 49 dX12_snap_6 rfl (fun c_6 => ?_) (fun c_6 => ?_)
  · have h := x_ifn c_6 h
    exact w_X12_snap_49 X     h
  · have h := x_ifp c_6 h
    refine a_iconst (pc := 9) X dX12_snap_9 q_ic_0 ?_
    refine a_istore_n (pc := 10) X [(1, .int (0 : Int32)), (0, .ref (ad0 0))] dX12_snap_10 rfl (by decide) rfl ?_
    refine a_sub [1, 0] rfl ?_
    exact w_X12_snap_11 X    x_NN _ _ h
theorem dX12_whyWalk_0 : decode cX12_whyWalk 0 = .ok (.aload_n 0, 1) := by decide +kernel
theorem dX12_whyWalk_1 : decode cX12_whyWalk 1 = .ok (.iload_n 1, 1) := by decide +kernel
theorem dX12_whyWalk_2 : decode cX12_whyWalk 2 = .ok (.invokevirtual 240, 3) := by decide +kernel
theorem dX12_whyWalk_5 : decode cX12_whyWalk 5 = .ok (.ifCond .eq 5, 3) := by decide +kernel
theorem dX12_whyWalk_8 : decode cX12_whyWalk 8 = .ok (.iconst 1, 1) := by decide +kernel
theorem dX12_whyWalk_9 : decode cX12_whyWalk 9 = .ok (.ireturn, 1) := by decide +kernel
theorem dX12_whyWalk_10 : decode cX12_whyWalk 10 = .ok (.aload_n 0, 1) := by decide +kernel
theorem dX12_whyWalk_11 : decode cX12_whyWalk 11 = .ok (.iload_n 2, 1) := by decide +kernel
theorem dX12_whyWalk_12 : decode cX12_whyWalk 12 = .ok (.aload_n 0, 1) := by decide +kernel
theorem dX12_whyWalk_13 : decode cX12_whyWalk 13 = .ok (.getfield 98, 3) := by decide +kernel
theorem dX12_whyWalk_16 : decode cX12_whyWalk 16 = .ok (.bipush 74, 2) := by decide +kernel
theorem dX12_whyWalk_18 : decode cX12_whyWalk 18 = .ok (.iload_n 1, 1) := by decide +kernel
theorem dX12_whyWalk_19 : decode cX12_whyWalk 19 = .ok (.iadd, 1) := by decide +kernel
theorem dX12_whyWalk_20 : decode cX12_whyWalk 20 = .ok (.iaload, 1) := by decide +kernel
theorem dX12_whyWalk_21 : decode cX12_whyWalk 21 = .ok (.invokevirtual 252, 3) := by decide +kernel
theorem dX12_whyWalk_24 : decode cX12_whyWalk 24 = .ok (.iconst (-1), 1) := by decide +kernel
theorem dX12_whyWalk_25 : decode cX12_whyWalk 25 = .ok (.if_icmp .ne 5, 3) := by decide +kernel
theorem dX12_whyWalk_28 : decode cX12_whyWalk 28 = .ok (.iconst 2, 1) := by decide +kernel
theorem dX12_whyWalk_29 : decode cX12_whyWalk 29 = .ok (.ireturn, 1) := by decide +kernel
theorem dX12_whyWalk_30 : decode cX12_whyWalk 30 = .ok (.aload_n 0, 1) := by decide +kernel
theorem dX12_whyWalk_31 : decode cX12_whyWalk 31 = .ok (.getfield 98, 3) := by decide +kernel
theorem dX12_whyWalk_34 : decode cX12_whyWalk 34 = .ok (.bipush 99, 2) := by decide +kernel
theorem dX12_whyWalk_36 : decode cX12_whyWalk 36 = .ok (.iload_n 2, 1) := by decide +kernel
theorem dX12_whyWalk_37 : decode cX12_whyWalk 37 = .ok (.iadd, 1) := by decide +kernel
theorem dX12_whyWalk_38 : decode cX12_whyWalk 38 = .ok (.iaload, 1) := by decide +kernel
theorem dX12_whyWalk_39 : decode cX12_whyWalk 39 = .ok (.ifCond .le 7, 3) := by decide +kernel
theorem dX12_whyWalk_42 : decode cX12_whyWalk 42 = .ok (.iconst 3, 1) := by decide +kernel
theorem dX12_whyWalk_43 : decode cX12_whyWalk 43 = .ok (.goto 41, 3) := by decide +kernel
theorem dX12_whyWalk_46 : decode cX12_whyWalk 46 = .ok (.aload_n 0, 1) := by decide +kernel
theorem dX12_whyWalk_47 : decode cX12_whyWalk 47 = .ok (.getfield 98, 3) := by decide +kernel
theorem dX12_whyWalk_50 : decode cX12_whyWalk 50 = .ok (.bipush 89, 2) := by decide +kernel
theorem dX12_whyWalk_52 : decode cX12_whyWalk 52 = .ok (.iload_n 1, 1) := by decide +kernel
theorem dX12_whyWalk_53 : decode cX12_whyWalk 53 = .ok (.iadd, 1) := by decide +kernel
theorem dX12_whyWalk_54 : decode cX12_whyWalk 54 = .ok (.iaload, 1) := by decide +kernel
theorem dX12_whyWalk_55 : decode cX12_whyWalk 55 = .ok (.aload_n 0, 1) := by decide +kernel
theorem dX12_whyWalk_56 : decode cX12_whyWalk 56 = .ok (.iload_n 2, 1) := by decide +kernel
theorem dX12_whyWalk_57 : decode cX12_whyWalk 57 = .ok (.aload_n 0, 1) := by decide +kernel
theorem dX12_whyWalk_58 : decode cX12_whyWalk 58 = .ok (.getfield 98, 3) := by decide +kernel
theorem dX12_whyWalk_61 : decode cX12_whyWalk 61 = .ok (.bipush 65, 2) := by decide +kernel
theorem dX12_whyWalk_63 : decode cX12_whyWalk 63 = .ok (.iload_n 1, 1) := by decide +kernel
theorem dX12_whyWalk_64 : decode cX12_whyWalk 64 = .ok (.iadd, 1) := by decide +kernel
theorem dX12_whyWalk_65 : decode cX12_whyWalk 65 = .ok (.iaload, 1) := by decide +kernel
theorem dX12_whyWalk_66 : decode cX12_whyWalk 66 = .ok (.invokevirtual 257, 3) := by decide +kernel
theorem dX12_whyWalk_69 : decode cX12_whyWalk 69 = .ok (.iadd, 1) := by decide +kernel
theorem dX12_whyWalk_70 : decode cX12_whyWalk 70 = .ok (.aload_n 0, 1) := by decide +kernel
theorem dX12_whyWalk_71 : decode cX12_whyWalk 71 = .ok (.getfield 98, 3) := by decide +kernel
theorem dX12_whyWalk_74 : decode cX12_whyWalk 74 = .ok (.iconst 4, 1) := by decide +kernel
theorem dX12_whyWalk_75 : decode cX12_whyWalk 75 = .ok (.iaload, 1) := by decide +kernel
theorem dX12_whyWalk_76 : decode cX12_whyWalk 76 = .ok (.if_icmp .le 7, 3) := by decide +kernel
theorem dX12_whyWalk_79 : decode cX12_whyWalk 79 = .ok (.iconst 4, 1) := by decide +kernel
theorem dX12_whyWalk_80 : decode cX12_whyWalk 80 = .ok (.goto 4, 3) := by decide +kernel
theorem dX12_whyWalk_83 : decode cX12_whyWalk 83 = .ok (.iconst 0, 1) := by decide +kernel
theorem dX12_whyWalk_84 : decode cX12_whyWalk 84 = .ok (.ireturn, 1) := by decide +kernel
def f_X12_whyWalk (v0 : XM) (x0 : Int32) (x1 : Int32) : Option (Int32) :=
  x_bo (f_X12_isGoing v0 x0) (fun y1 =>
  if y1 = (0 : Int32) then
  (x_ck ((74 : Int32) + x0) 353 (
  x_bo (f_X12_otherEnd v0 x1 (x_ga v0 2 ((74 : Int32) + x0))) (fun y2 =>
  if (y2 : Int32) = (-1 : Int32) then
  (some ((2 : Int32) : Int32))
  else (x_ck ((99 : Int32) + x1) 353 (
  if (x_ga v0 2 ((99 : Int32) + x1)) ≤ (0 : Int32) then
  (x_ck ((89 : Int32) + x0) 353 (
  x_ck ((65 : Int32) + x0) 353 (
  x_bo (f_X12_hoursOf v0 x1 (x_ga v0 2 ((65 : Int32) + x0))) (fun y3 =>
  if (((x_ga v0 2 ((89 : Int32) + x0)) + y3) : Int32) ≤ (x_ga v0 2 (4 : Int32)) then
  (some ((0 : Int32) : Int32))
  else (some ((4 : Int32) : Int32))))))
  else (some ((3 : Int32) : Int32)))))))
  else (some ((1 : Int32) : Int32)))
set_option maxRecDepth 100000 in
set_option maxHeartbeats 4000000 in
theorem c_X12_whyWalk {l : Launch}  {ad0 : Nat → Nat} {v0 : XM} {x0 : Int32} {x1 : Int32}  {o : Int32} (h : f_X12_whyWalk v0 x0 x1 = some o) : CT l yX12_whyWalk cX12_whyWalk 3 (some .int) 4 [(shModel, ad0)] [v0] (fun aK => [.ref (ad0 0), .int x0, .int x1]) (some (.int o)) True [v0] := by
  refine CT_of (by decide) (fun _ => Nat.le_of_ble_eq_true rfl) ?_
  intro p e s m args below meth c D tc aK aV A X
  have X : Cx p s m args meth c cX12_whyWalk 3 (some .int) RX12 D tc aK aV A [(shModel, ad0)] := X
  show aW p l e (x_Rm 4) s m args below meth c D tc A 3 [(shModel, ad0)] (some (.int o)) True [v0] 0 [(0, .ref (ad0 0)), (1, .int x0), (2, .int x1)] [] [v0]
  unfold f_X12_whyWalk at h
  refine a_aload_n (pc := 0) X 0 dX12_whyWalk_0 rfl rfl ?_
  refine a_iload_n (pc := 1) X 1 dX12_whyWalk_1 rfl rfl ?_
  obtain ⟨y1, e_y1, h⟩ := x_bo_elim h
  refine a_callV (pc := 2) (st2 := [.int y1]) (vs2 := [v0]) X [(0, 0, 20)] [none] 0 0 12 [.int x0] [] cv_RX12_240 (c_X12_isGoing (ad0 := ad0)  e_y1) rfl rfl rfl rfl rfl rfl rfl rfl rfl rfl rfl rfl rfl rfl rfl (Nat.le_of_ble_eq_true rfl) ⟨Nat.le_of_ble_eq_true rfl, Nat.le_of_ble_eq_true rfl⟩ dX12_whyWalk_2 (fun z_2 => ?_)
  refine a_if_eq (pc := 5) X 10 dX12_whyWalk_5 rfl (fun c_5 => ?_) (fun c_5 => ?_)
  · have h := x_ifp c_5 h
    refine a_aload_n (pc := 10) X 0 dX12_whyWalk_10 rfl rfl ?_
    refine a_iload_n (pc := 11) X 2 dX12_whyWalk_11 rfl rfl ?_
    refine a_aload_n (pc := 12) X 0 dX12_whyWalk_12 rfl rfl ?_
    refine a_getR (pc := 13) X 0 2 2 fl_RX12_98 rfl rfl rfl rfl rfl dX12_whyWalk_13 ?_
    refine a_bipush (pc := 16) X dX12_whyWalk_16 q_bp_74 ?_
    refine a_iload_n (pc := 18) X 1 dX12_whyWalk_18 rfl rfl ?_
    refine a_iadd (pc := 19) X dX12_whyWalk_19 ?_
    obtain ⟨c_20, h⟩ := x_ck_elim h
    refine a_iald (pc := 20) X 0 rfl rfl rfl c_20 dX12_whyWalk_20 ?_
    obtain ⟨y2, e_y2, h⟩ := x_bo_elim h
    refine a_callV (pc := 21) (st2 := [.int y2]) (vs2 := [v0]) X [(0, 0, 20)] [none] 0 0 12 [.int x1, .int (x_ga v0 2 ((74 : Int32) + x0))] [] cv_RX12_252 (c_X12_otherEnd (ad0 := ad0)  e_y2) rfl rfl rfl rfl rfl rfl rfl rfl rfl rfl rfl rfl rfl rfl rfl (Nat.le_of_ble_eq_true rfl) ⟨Nat.le_of_ble_eq_true rfl, Nat.le_of_ble_eq_true rfl⟩ dX12_whyWalk_21 (fun _ => ?_)
    refine a_iconst (pc := 24) X dX12_whyWalk_24 q_ic_m1 ?_
    refine a_icmp_ne (pc := 25) X 30 dX12_whyWalk_25 rfl (fun c_25 => ?_) (fun c_25 => ?_)
    · have h := x_ifn c_25 h
      refine a_aload_n (pc := 30) X 0 dX12_whyWalk_30 rfl rfl ?_
      refine a_getR (pc := 31) X 0 2 2 fl_RX12_98 rfl rfl rfl rfl rfl dX12_whyWalk_31 ?_
      refine a_bipush (pc := 34) X dX12_whyWalk_34 q_bp_99 ?_
      refine a_iload_n (pc := 36) X 2 dX12_whyWalk_36 rfl rfl ?_
      refine a_iadd (pc := 37) X dX12_whyWalk_37 ?_
      obtain ⟨c_38, h⟩ := x_ck_elim h
      refine a_iald (pc := 38) X 0 rfl rfl rfl c_38 dX12_whyWalk_38 ?_
      refine a_if_le (pc := 39) X 46 dX12_whyWalk_39 rfl (fun c_39 => ?_) (fun c_39 => ?_)
      · have h := x_ifp c_39 h
        refine a_aload_n (pc := 46) X 0 dX12_whyWalk_46 rfl rfl ?_
        refine a_getR (pc := 47) X 0 2 2 fl_RX12_98 rfl rfl rfl rfl rfl dX12_whyWalk_47 ?_
        refine a_bipush (pc := 50) X dX12_whyWalk_50 q_bp_89 ?_
        refine a_iload_n (pc := 52) X 1 dX12_whyWalk_52 rfl rfl ?_
        refine a_iadd (pc := 53) X dX12_whyWalk_53 ?_
        obtain ⟨c_54, h⟩ := x_ck_elim h
        refine a_iald (pc := 54) X 0 rfl rfl rfl c_54 dX12_whyWalk_54 ?_
        refine a_aload_n (pc := 55) X 0 dX12_whyWalk_55 rfl rfl ?_
        refine a_iload_n (pc := 56) X 2 dX12_whyWalk_56 rfl rfl ?_
        refine a_aload_n (pc := 57) X 0 dX12_whyWalk_57 rfl rfl ?_
        refine a_getR (pc := 58) X 0 2 2 fl_RX12_98 rfl rfl rfl rfl rfl dX12_whyWalk_58 ?_
        refine a_bipush (pc := 61) X dX12_whyWalk_61 q_bp_65 ?_
        refine a_iload_n (pc := 63) X 1 dX12_whyWalk_63 rfl rfl ?_
        refine a_iadd (pc := 64) X dX12_whyWalk_64 ?_
        obtain ⟨c_65, h⟩ := x_ck_elim h
        refine a_iald (pc := 65) X 0 rfl rfl rfl c_65 dX12_whyWalk_65 ?_
        obtain ⟨y3, e_y3, h⟩ := x_bo_elim h
        refine a_callV (pc := 66) (st2 := [.int y3, .int (x_ga v0 2 ((89 : Int32) + x0))]) (vs2 := [v0]) X [(0, 0, 20)] [none] 0 0 12 [.int x1, .int (x_ga v0 2 ((65 : Int32) + x0))] [.int (x_ga v0 2 ((89 : Int32) + x0))] cv_RX12_257 (c_X12_hoursOf (ad0 := ad0)  e_y3) rfl rfl rfl rfl rfl rfl rfl rfl rfl rfl rfl rfl rfl rfl rfl (Nat.le_of_ble_eq_true rfl) ⟨Nat.le_of_ble_eq_true rfl, Nat.le_of_ble_eq_true rfl⟩ dX12_whyWalk_66 (fun _ => ?_)
        refine a_iadd (pc := 69) X dX12_whyWalk_69 ?_
        refine a_aload_n (pc := 70) X 0 dX12_whyWalk_70 rfl rfl ?_
        refine a_getR (pc := 71) X 0 2 2 fl_RX12_98 rfl rfl rfl rfl rfl dX12_whyWalk_71 ?_
        refine a_iconst (pc := 74) X dX12_whyWalk_74 q_ic_4 ?_
        refine a_iald (pc := 75) X 0 rfl rfl rfl (x_inl (by decide)) dX12_whyWalk_75 ?_
        refine a_icmp_le (pc := 76) X 83 dX12_whyWalk_76 rfl (fun c_76 => ?_) (fun c_76 => ?_)
        · have h := x_ifp c_76 h
          refine a_iconst (pc := 83) X dX12_whyWalk_83 q_ic_0 ?_
          have h := Option.some.inj h; subst h
          exact a_iret (pc := 84) X trivial dX12_whyWalk_84
        · have h := x_ifn c_76 h
          refine a_iconst (pc := 79) X dX12_whyWalk_79 q_ic_4 ?_
          refine a_goto (pc := 80) X 84 dX12_whyWalk_80 rfl ?_
          have h := Option.some.inj h; subst h
          exact a_iret (pc := 84) X trivial dX12_whyWalk_84
      · have h := x_ifn c_39 h
        refine a_iconst (pc := 42) X dX12_whyWalk_42 q_ic_3 ?_
        refine a_goto (pc := 43) X 84 dX12_whyWalk_43 rfl ?_
        have h := Option.some.inj h; subst h
        exact a_iret (pc := 84) X trivial dX12_whyWalk_84
    · have h := x_ifp c_25 h
      refine a_iconst (pc := 28) X dX12_whyWalk_28 q_ic_2 ?_
      have h := Option.some.inj h; subst h
      exact a_iret (pc := 29) X trivial dX12_whyWalk_29
  · have h := x_ifn c_5 h
    refine a_iconst (pc := 8) X dX12_whyWalk_8 q_ic_1 ?_
    have h := Option.some.inj h; subst h
    exact a_iret (pc := 9) X trivial dX12_whyWalk_9
theorem dX12_whyTell_0 : decode cX12_whyTell 0 = .ok (.iload_n 1, 1) := by decide +kernel
theorem dX12_whyTell_1 : decode cX12_whyTell 1 = .ok (.iload_n 2, 1) := by decide +kernel
theorem dX12_whyTell_2 : decode cX12_whyTell 2 = .ok (.if_icmp .eq 40, 3) := by decide +kernel
theorem dX12_whyTell_5 : decode cX12_whyTell 5 = .ok (.aload_n 0, 1) := by decide +kernel
theorem dX12_whyTell_6 : decode cX12_whyTell 6 = .ok (.iload_n 1, 1) := by decide +kernel
theorem dX12_whyTell_7 : decode cX12_whyTell 7 = .ok (.invokevirtual 240, 3) := by decide +kernel
theorem dX12_whyTell_10 : decode cX12_whyTell 10 = .ok (.ifCond .ne 32, 3) := by decide +kernel
theorem dX12_whyTell_13 : decode cX12_whyTell 13 = .ok (.aload_n 0, 1) := by decide +kernel
theorem dX12_whyTell_14 : decode cX12_whyTell 14 = .ok (.iload_n 2, 1) := by decide +kernel
theorem dX12_whyTell_15 : decode cX12_whyTell 15 = .ok (.invokevirtual 240, 3) := by decide +kernel
theorem dX12_whyTell_18 : decode cX12_whyTell 18 = .ok (.ifCond .ne 24, 3) := by decide +kernel
theorem dX12_whyTell_21 : decode cX12_whyTell 21 = .ok (.aload_n 0, 1) := by decide +kernel
theorem dX12_whyTell_22 : decode cX12_whyTell 22 = .ok (.getfield 98, 3) := by decide +kernel
theorem dX12_whyTell_25 : decode cX12_whyTell 25 = .ok (.bipush 74, 2) := by decide +kernel
theorem dX12_whyTell_27 : decode cX12_whyTell 27 = .ok (.iload_n 1, 1) := by decide +kernel
theorem dX12_whyTell_28 : decode cX12_whyTell 28 = .ok (.iadd, 1) := by decide +kernel
theorem dX12_whyTell_29 : decode cX12_whyTell 29 = .ok (.iaload, 1) := by decide +kernel
theorem dX12_whyTell_30 : decode cX12_whyTell 30 = .ok (.aload_n 0, 1) := by decide +kernel
theorem dX12_whyTell_31 : decode cX12_whyTell 31 = .ok (.getfield 98, 3) := by decide +kernel
theorem dX12_whyTell_34 : decode cX12_whyTell 34 = .ok (.bipush 74, 2) := by decide +kernel
theorem dX12_whyTell_36 : decode cX12_whyTell 36 = .ok (.iload_n 2, 1) := by decide +kernel
theorem dX12_whyTell_37 : decode cX12_whyTell 37 = .ok (.iadd, 1) := by decide +kernel
theorem dX12_whyTell_38 : decode cX12_whyTell 38 = .ok (.iaload, 1) := by decide +kernel
theorem dX12_whyTell_39 : decode cX12_whyTell 39 = .ok (.if_icmp .eq 5, 3) := by decide +kernel
theorem dX12_whyTell_42 : decode cX12_whyTell 42 = .ok (.iconst 1, 1) := by decide +kernel
theorem dX12_whyTell_43 : decode cX12_whyTell 43 = .ok (.ireturn, 1) := by decide +kernel
theorem dX12_whyTell_44 : decode cX12_whyTell 44 = .ok (.aload_n 0, 1) := by decide +kernel
theorem dX12_whyTell_45 : decode cX12_whyTell 45 = .ok (.getfield 98, 3) := by decide +kernel
theorem dX12_whyTell_48 : decode cX12_whyTell 48 = .ok (.bipush 94, 2) := by decide +kernel
theorem dX12_whyTell_50 : decode cX12_whyTell 50 = .ok (.iload_n 1, 1) := by decide +kernel
theorem dX12_whyTell_51 : decode cX12_whyTell 51 = .ok (.iadd, 1) := by decide +kernel
theorem dX12_whyTell_52 : decode cX12_whyTell 52 = .ok (.iaload, 1) := by decide +kernel
theorem dX12_whyTell_53 : decode cX12_whyTell 53 = .ok (.aload_n 0, 1) := by decide +kernel
theorem dX12_whyTell_54 : decode cX12_whyTell 54 = .ok (.getfield 98, 3) := by decide +kernel
theorem dX12_whyTell_57 : decode cX12_whyTell 57 = .ok (.bipush 94, 2) := by decide +kernel
theorem dX12_whyTell_59 : decode cX12_whyTell 59 = .ok (.iload_n 2, 1) := by decide +kernel
theorem dX12_whyTell_60 : decode cX12_whyTell 60 = .ok (.iadd, 1) := by decide +kernel
theorem dX12_whyTell_61 : decode cX12_whyTell 61 = .ok (.iaload, 1) := by decide +kernel
theorem dX12_whyTell_62 : decode cX12_whyTell 62 = .ok (.iconst (-1), 1) := by decide +kernel
theorem dX12_whyTell_63 : decode cX12_whyTell 63 = .ok (.ixor, 1) := by decide +kernel
theorem dX12_whyTell_64 : decode cX12_whyTell 64 = .ok (.iand, 1) := by decide +kernel
theorem dX12_whyTell_65 : decode cX12_whyTell 65 = .ok (.ifCond .ne 7, 3) := by decide +kernel
theorem dX12_whyTell_68 : decode cX12_whyTell 68 = .ok (.iconst 2, 1) := by decide +kernel
theorem dX12_whyTell_69 : decode cX12_whyTell 69 = .ok (.goto 4, 3) := by decide +kernel
theorem dX12_whyTell_72 : decode cX12_whyTell 72 = .ok (.iconst 0, 1) := by decide +kernel
theorem dX12_whyTell_73 : decode cX12_whyTell 73 = .ok (.ireturn, 1) := by decide +kernel
def f_X12_whyTell (v0 : XM) (x0 : Int32) (x1 : Int32) : Option (Int32) :=
  if (x0 : Int32) = x1 then
  (some ((1 : Int32) : Int32))
  else (x_bo (f_X12_isGoing v0 x0) (fun y1 =>
  if y1 = (0 : Int32) then
  (x_bo (f_X12_isGoing v0 x1) (fun y2 =>
  if y2 = (0 : Int32) then
  (x_ck ((74 : Int32) + x0) 353 (
  x_ck ((74 : Int32) + x1) 353 (
  if ((x_ga v0 2 ((74 : Int32) + x0)) : Int32) = (x_ga v0 2 ((74 : Int32) + x1)) then
  (x_ck ((94 : Int32) + x0) 353 (
  x_ck ((94 : Int32) + x1) 353 (
  x_lt ((x_ga v0 2 ((94 : Int32) + x1)) ^^^ (-1 : Int32)) (fun y3 =>
  if ((x_ga v0 2 ((94 : Int32) + x0)) &&& y3) = (0 : Int32) then
  (some ((2 : Int32) : Int32))
  else (some ((0 : Int32) : Int32))))))
  else (some ((1 : Int32) : Int32)))))
  else (some ((1 : Int32) : Int32))))
  else (some ((1 : Int32) : Int32))))
set_option maxRecDepth 100000 in
set_option maxHeartbeats 4000000 in
theorem c_X12_whyTell {l : Launch}  {ad0 : Nat → Nat} {v0 : XM} {x0 : Int32} {x1 : Int32}  {o : Int32} (h : f_X12_whyTell v0 x0 x1 = some o) : CT l yX12_whyTell cX12_whyTell 3 (some .int) 1 [(shModel, ad0)] [v0] (fun aK => [.ref (ad0 0), .int x0, .int x1]) (some (.int o)) True [v0] := by
  refine CT_of (by decide) (fun _ => Nat.le_of_ble_eq_true rfl) ?_
  intro p e s m args below meth c D tc aK aV A X
  have X : Cx p s m args meth c cX12_whyTell 3 (some .int) RX12 D tc aK aV A [(shModel, ad0)] := X
  show aW p l e (x_Rm 1) s m args below meth c D tc A 3 [(shModel, ad0)] (some (.int o)) True [v0] 0 [(0, .ref (ad0 0)), (1, .int x0), (2, .int x1)] [] [v0]
  unfold f_X12_whyTell at h
  refine a_iload_n (pc := 0) X 1 dX12_whyTell_0 rfl rfl ?_
  refine a_iload_n (pc := 1) X 2 dX12_whyTell_1 rfl rfl ?_
  refine a_icmp_eq (pc := 2) X 42 dX12_whyTell_2 rfl (fun c_2 => ?_) (fun c_2 => ?_)
  · have h := x_ifp c_2 h
    refine a_iconst (pc := 42) X dX12_whyTell_42 q_ic_1 ?_
    have h := Option.some.inj h; subst h
    exact a_iret (pc := 43) X trivial dX12_whyTell_43
  · have h := x_ifn c_2 h
    refine a_aload_n (pc := 5) X 0 dX12_whyTell_5 rfl rfl ?_
    refine a_iload_n (pc := 6) X 1 dX12_whyTell_6 rfl rfl ?_
    obtain ⟨y1, e_y1, h⟩ := x_bo_elim h
    refine a_callV (pc := 7) (st2 := [.int y1]) (vs2 := [v0]) X [(0, 0, 20)] [none] 0 0 12 [.int x0] [] cv_RX12_240 (c_X12_isGoing (ad0 := ad0)  e_y1) rfl rfl rfl rfl rfl rfl rfl rfl rfl rfl rfl rfl rfl rfl rfl (Nat.le_of_ble_eq_true rfl) ⟨Nat.le_of_ble_eq_true rfl, Nat.le_of_ble_eq_true rfl⟩ dX12_whyTell_7 (fun z_7 => ?_)
    refine a_if_ne (pc := 10) X 42 dX12_whyTell_10 rfl (fun c_10 => ?_) (fun c_10 => ?_)
    · have h := x_ifn c_10 h
      refine a_iconst (pc := 42) X dX12_whyTell_42 q_ic_1 ?_
      have h := Option.some.inj h; subst h
      exact a_iret (pc := 43) X trivial dX12_whyTell_43
    · have h := x_ifp c_10 h
      refine a_aload_n (pc := 13) X 0 dX12_whyTell_13 rfl rfl ?_
      refine a_iload_n (pc := 14) X 2 dX12_whyTell_14 rfl rfl ?_
      obtain ⟨y2, e_y2, h⟩ := x_bo_elim h
      refine a_callV (pc := 15) (st2 := [.int y2]) (vs2 := [v0]) X [(0, 0, 20)] [none] 0 0 12 [.int x1] [] cv_RX12_240 (c_X12_isGoing (ad0 := ad0)  e_y2) rfl rfl rfl rfl rfl rfl rfl rfl rfl rfl rfl rfl rfl rfl rfl (Nat.le_of_ble_eq_true rfl) ⟨Nat.le_of_ble_eq_true rfl, Nat.le_of_ble_eq_true rfl⟩ dX12_whyTell_15 (fun z_15 => ?_)
      refine a_if_ne (pc := 18) X 42 dX12_whyTell_18 rfl (fun c_18 => ?_) (fun c_18 => ?_)
      · have h := x_ifn c_18 h
        refine a_iconst (pc := 42) X dX12_whyTell_42 q_ic_1 ?_
        have h := Option.some.inj h; subst h
        exact a_iret (pc := 43) X trivial dX12_whyTell_43
      · have h := x_ifp c_18 h
        refine a_aload_n (pc := 21) X 0 dX12_whyTell_21 rfl rfl ?_
        refine a_getR (pc := 22) X 0 2 2 fl_RX12_98 rfl rfl rfl rfl rfl dX12_whyTell_22 ?_
        refine a_bipush (pc := 25) X dX12_whyTell_25 q_bp_74 ?_
        refine a_iload_n (pc := 27) X 1 dX12_whyTell_27 rfl rfl ?_
        refine a_iadd (pc := 28) X dX12_whyTell_28 ?_
        obtain ⟨c_29, h⟩ := x_ck_elim h
        refine a_iald (pc := 29) X 0 rfl rfl rfl c_29 dX12_whyTell_29 ?_
        refine a_aload_n (pc := 30) X 0 dX12_whyTell_30 rfl rfl ?_
        refine a_getR (pc := 31) X 0 2 2 fl_RX12_98 rfl rfl rfl rfl rfl dX12_whyTell_31 ?_
        refine a_bipush (pc := 34) X dX12_whyTell_34 q_bp_74 ?_
        refine a_iload_n (pc := 36) X 2 dX12_whyTell_36 rfl rfl ?_
        refine a_iadd (pc := 37) X dX12_whyTell_37 ?_
        obtain ⟨c_38, h⟩ := x_ck_elim h
        refine a_iald (pc := 38) X 0 rfl rfl rfl c_38 dX12_whyTell_38 ?_
        refine a_icmp_eq (pc := 39) X 44 dX12_whyTell_39 rfl (fun c_39 => ?_) (fun c_39 => ?_)
        · have h := x_ifp c_39 h
          refine a_aload_n (pc := 44) X 0 dX12_whyTell_44 rfl rfl ?_
          refine a_getR (pc := 45) X 0 2 2 fl_RX12_98 rfl rfl rfl rfl rfl dX12_whyTell_45 ?_
          refine a_bipush (pc := 48) X dX12_whyTell_48 q_bp_94 ?_
          refine a_iload_n (pc := 50) X 1 dX12_whyTell_50 rfl rfl ?_
          refine a_iadd (pc := 51) X dX12_whyTell_51 ?_
          obtain ⟨c_52, h⟩ := x_ck_elim h
          refine a_iald (pc := 52) X 0 rfl rfl rfl c_52 dX12_whyTell_52 ?_
          refine a_aload_n (pc := 53) X 0 dX12_whyTell_53 rfl rfl ?_
          refine a_getR (pc := 54) X 0 2 2 fl_RX12_98 rfl rfl rfl rfl rfl dX12_whyTell_54 ?_
          refine a_bipush (pc := 57) X dX12_whyTell_57 q_bp_94 ?_
          refine a_iload_n (pc := 59) X 2 dX12_whyTell_59 rfl rfl ?_
          refine a_iadd (pc := 60) X dX12_whyTell_60 ?_
          obtain ⟨c_61, h⟩ := x_ck_elim h
          refine a_iald (pc := 61) X 0 rfl rfl rfl c_61 dX12_whyTell_61 ?_
          refine a_iconst (pc := 62) X dX12_whyTell_62 q_ic_m1 ?_
          refine a_ixor (pc := 63) X dX12_whyTell_63 ?_
          obtain ⟨y3, e_y3, h⟩ := x_lt_elim h
          refine a_ni e_y3 ?_
          refine a_iand (pc := 64) X dX12_whyTell_64 ?_
          refine a_if_ne (pc := 65) X 72 dX12_whyTell_65 rfl (fun c_65 => ?_) (fun c_65 => ?_)
          · have h := x_ifn c_65 h
            refine a_iconst (pc := 72) X dX12_whyTell_72 q_ic_0 ?_
            have h := Option.some.inj h; subst h
            exact a_iret (pc := 73) X trivial dX12_whyTell_73
          · have h := x_ifp c_65 h
            refine a_iconst (pc := 68) X dX12_whyTell_68 q_ic_2 ?_
            refine a_goto (pc := 69) X 73 dX12_whyTell_69 rfl ?_
            have h := Option.some.inj h; subst h
            exact a_iret (pc := 73) X trivial dX12_whyTell_73
        · have h := x_ifn c_39 h
          refine a_iconst (pc := 42) X dX12_whyTell_42 q_ic_1 ?_
          have h := Option.some.inj h; subst h
          exact a_iret (pc := 43) X trivial dX12_whyTell_43
theorem dX12_why_0 : decode cX12_why 0 = .ok (.iload_n 1, 1) := by decide +kernel
theorem dX12_why_1 : decode cX12_why 1 = .ok (.tableswitch 212 0 5 #[39, 46, 105, 112, 167, 182], 39) := by decide +kernel
theorem dX12_why_40 : decode cX12_why 40 = .ok (.aload_n 0, 1) := by decide +kernel
theorem dX12_why_41 : decode cX12_why 41 = .ok (.iload_n 2, 1) := by decide +kernel
theorem dX12_why_42 : decode cX12_why 42 = .ok (.iload_n 3, 1) := by decide +kernel
theorem dX12_why_43 : decode cX12_why 43 = .ok (.invokevirtual 292, 3) := by decide +kernel
theorem dX12_why_46 : decode cX12_why 46 = .ok (.ireturn, 1) := by decide +kernel
theorem dX12_why_47 : decode cX12_why 47 = .ok (.aload_n 0, 1) := by decide +kernel
theorem dX12_why_48 : decode cX12_why 48 = .ok (.iload_n 2, 1) := by decide +kernel
theorem dX12_why_49 : decode cX12_why 49 = .ok (.invokevirtual 240, 3) := by decide +kernel
theorem dX12_why_52 : decode cX12_why 52 = .ok (.ifCond .eq 7, 3) := by decide +kernel
theorem dX12_why_55 : decode cX12_why 55 = .ok (.iconst 1, 1) := by decide +kernel
theorem dX12_why_56 : decode cX12_why 56 = .ok (.goto 49, 3) := by decide +kernel
theorem dX12_why_59 : decode cX12_why 59 = .ok (.aload_n 0, 1) := by decide +kernel
theorem dX12_why_60 : decode cX12_why 60 = .ok (.getfield 98, 3) := by decide +kernel
theorem dX12_why_63 : decode cX12_why 63 = .ok (.bipush 54, 2) := by decide +kernel
theorem dX12_why_65 : decode cX12_why 65 = .ok (.iload_n 3, 1) := by decide +kernel
theorem dX12_why_66 : decode cX12_why 66 = .ok (.iadd, 1) := by decide +kernel
theorem dX12_why_67 : decode cX12_why 67 = .ok (.iaload, 1) := by decide +kernel
theorem dX12_why_68 : decode cX12_why 68 = .ok (.aload_n 0, 1) := by decide +kernel
theorem dX12_why_69 : decode cX12_why 69 = .ok (.getfield 98, 3) := by decide +kernel
theorem dX12_why_72 : decode cX12_why 72 = .ok (.bipush 74, 2) := by decide +kernel
theorem dX12_why_74 : decode cX12_why 74 = .ok (.iload_n 2, 1) := by decide +kernel
theorem dX12_why_75 : decode cX12_why 75 = .ok (.iadd, 1) := by decide +kernel
theorem dX12_why_76 : decode cX12_why 76 = .ok (.iaload, 1) := by decide +kernel
theorem dX12_why_77 : decode cX12_why 77 = .ok (.if_icmp .eq 7, 3) := by decide +kernel
theorem dX12_why_80 : decode cX12_why 80 = .ok (.iconst 2, 1) := by decide +kernel
theorem dX12_why_81 : decode cX12_why 81 = .ok (.goto 24, 3) := by decide +kernel
theorem dX12_why_84 : decode cX12_why 84 = .ok (.aload_n 0, 1) := by decide +kernel
theorem dX12_why_85 : decode cX12_why 85 = .ok (.getfield 98, 3) := by decide +kernel
theorem dX12_why_88 : decode cX12_why 88 = .ok (.bipush 94, 2) := by decide +kernel
theorem dX12_why_90 : decode cX12_why 90 = .ok (.iload_n 2, 1) := by decide +kernel
theorem dX12_why_91 : decode cX12_why 91 = .ok (.iadd, 1) := by decide +kernel
theorem dX12_why_92 : decode cX12_why 92 = .ok (.iaload, 1) := by decide +kernel
theorem dX12_why_93 : decode cX12_why 93 = .ok (.iload_n 3, 1) := by decide +kernel
theorem dX12_why_94 : decode cX12_why 94 = .ok (.invokestatic 243, 3) := by decide +kernel
theorem dX12_why_97 : decode cX12_why 97 = .ok (.ifCond .eq 7, 3) := by decide +kernel
theorem dX12_why_100 : decode cX12_why 100 = .ok (.iconst 3, 1) := by decide +kernel
theorem dX12_why_101 : decode cX12_why 101 = .ok (.goto 4, 3) := by decide +kernel
theorem dX12_why_104 : decode cX12_why 104 = .ok (.iconst 0, 1) := by decide +kernel
theorem dX12_why_105 : decode cX12_why 105 = .ok (.ireturn, 1) := by decide +kernel
theorem dX12_why_106 : decode cX12_why 106 = .ok (.aload_n 0, 1) := by decide +kernel
theorem dX12_why_107 : decode cX12_why 107 = .ok (.iload_n 2, 1) := by decide +kernel
theorem dX12_why_108 : decode cX12_why 108 = .ok (.iload_n 3, 1) := by decide +kernel
theorem dX12_why_109 : decode cX12_why 109 = .ok (.invokevirtual 295, 3) := by decide +kernel
theorem dX12_why_112 : decode cX12_why 112 = .ok (.ireturn, 1) := by decide +kernel
theorem dX12_why_113 : decode cX12_why 113 = .ok (.aload_n 0, 1) := by decide +kernel
theorem dX12_why_114 : decode cX12_why 114 = .ok (.iload_n 2, 1) := by decide +kernel
theorem dX12_why_115 : decode cX12_why 115 = .ok (.invokevirtual 240, 3) := by decide +kernel
theorem dX12_why_118 : decode cX12_why 118 = .ok (.ifCond .eq 7, 3) := by decide +kernel
theorem dX12_why_121 : decode cX12_why 121 = .ok (.iconst 1, 1) := by decide +kernel
theorem dX12_why_122 : decode cX12_why 122 = .ok (.goto 45, 3) := by decide +kernel
theorem dX12_why_125 : decode cX12_why 125 = .ok (.aload_n 0, 1) := by decide +kernel
theorem dX12_why_126 : decode cX12_why 126 = .ok (.getfield 98, 3) := by decide +kernel
theorem dX12_why_129 : decode cX12_why 129 = .ok (.iconst 5, 1) := by decide +kernel
theorem dX12_why_130 : decode cX12_why 130 = .ok (.iaload, 1) := by decide +kernel
theorem dX12_why_131 : decode cX12_why 131 = .ok (.aload_n 0, 1) := by decide +kernel
theorem dX12_why_132 : decode cX12_why 132 = .ok (.getfield 98, 3) := by decide +kernel
theorem dX12_why_135 : decode cX12_why 135 = .ok (.bipush 74, 2) := by decide +kernel
theorem dX12_why_137 : decode cX12_why 137 = .ok (.iload_n 2, 1) := by decide +kernel
theorem dX12_why_138 : decode cX12_why 138 = .ok (.iadd, 1) := by decide +kernel
theorem dX12_why_139 : decode cX12_why 139 = .ok (.iaload, 1) := by decide +kernel
theorem dX12_why_140 : decode cX12_why 140 = .ok (.invokestatic 243, 3) := by decide +kernel
theorem dX12_why_143 : decode cX12_why 143 = .ok (.ifCond .ne 7, 3) := by decide +kernel
theorem dX12_why_146 : decode cX12_why 146 = .ok (.iconst 2, 1) := by decide +kernel
theorem dX12_why_147 : decode cX12_why 147 = .ok (.goto 20, 3) := by decide +kernel
theorem dX12_why_150 : decode cX12_why 150 = .ok (.aload_n 0, 1) := by decide +kernel
theorem dX12_why_151 : decode cX12_why 151 = .ok (.getfield 98, 3) := by decide +kernel
theorem dX12_why_154 : decode cX12_why 154 = .ok (.bipush 89, 2) := by decide +kernel
theorem dX12_why_156 : decode cX12_why 156 = .ok (.iload_n 2, 1) := by decide +kernel
theorem dX12_why_157 : decode cX12_why 157 = .ok (.iadd, 1) := by decide +kernel
theorem dX12_why_158 : decode cX12_why 158 = .ok (.iaload, 1) := by decide +kernel
theorem dX12_why_159 : decode cX12_why 159 = .ok (.ifCond .ne 7, 3) := by decide +kernel
theorem dX12_why_162 : decode cX12_why 162 = .ok (.iconst 3, 1) := by decide +kernel
theorem dX12_why_163 : decode cX12_why 163 = .ok (.goto 4, 3) := by decide +kernel
theorem dX12_why_166 : decode cX12_why 166 = .ok (.iconst 0, 1) := by decide +kernel
theorem dX12_why_167 : decode cX12_why 167 = .ok (.ireturn, 1) := by decide +kernel
theorem dX12_why_168 : decode cX12_why 168 = .ok (.aload_n 0, 1) := by decide +kernel
theorem dX12_why_169 : decode cX12_why 169 = .ok (.iload_n 2, 1) := by decide +kernel
theorem dX12_why_170 : decode cX12_why 170 = .ok (.invokevirtual 246, 3) := by decide +kernel
theorem dX12_why_173 : decode cX12_why 173 = .ok (.iconst 1, 1) := by decide +kernel
theorem dX12_why_174 : decode cX12_why 174 = .ok (.if_icmp .ne 7, 3) := by decide +kernel
theorem dX12_why_177 : decode cX12_why 177 = .ok (.iconst 1, 1) := by decide +kernel
theorem dX12_why_178 : decode cX12_why 178 = .ok (.goto 4, 3) := by decide +kernel
theorem dX12_why_181 : decode cX12_why 181 = .ok (.iconst 0, 1) := by decide +kernel
theorem dX12_why_182 : decode cX12_why 182 = .ok (.ireturn, 1) := by decide +kernel
theorem dX12_why_183 : decode cX12_why 183 = .ok (.aload_n 0, 1) := by decide +kernel
theorem dX12_why_184 : decode cX12_why 184 = .ok (.getfield 98, 3) := by decide +kernel
theorem dX12_why_187 : decode cX12_why 187 = .ok (.bipush 99, 2) := by decide +kernel
theorem dX12_why_189 : decode cX12_why 189 = .ok (.iload_n 2, 1) := by decide +kernel
theorem dX12_why_190 : decode cX12_why 190 = .ok (.iadd, 1) := by decide +kernel
theorem dX12_why_191 : decode cX12_why 191 = .ok (.iaload, 1) := by decide +kernel
theorem dX12_why_192 : decode cX12_why 192 = .ok (.ifCond .le 7, 3) := by decide +kernel
theorem dX12_why_195 : decode cX12_why 195 = .ok (.iconst 1, 1) := by decide +kernel
theorem dX12_why_196 : decode cX12_why 196 = .ok (.goto 16, 3) := by decide +kernel
theorem dX12_why_199 : decode cX12_why 199 = .ok (.aload_n 0, 1) := by decide +kernel
theorem dX12_why_200 : decode cX12_why 200 = .ok (.iload_n 2, 1) := by decide +kernel
theorem dX12_why_201 : decode cX12_why 201 = .ok (.invokevirtual 283, 3) := by decide +kernel
theorem dX12_why_204 : decode cX12_why 204 = .ok (.ifCond .eq 7, 3) := by decide +kernel
theorem dX12_why_207 : decode cX12_why 207 = .ok (.iconst 2, 1) := by decide +kernel
theorem dX12_why_208 : decode cX12_why 208 = .ok (.goto 4, 3) := by decide +kernel
theorem dX12_why_211 : decode cX12_why 211 = .ok (.iconst 0, 1) := by decide +kernel
theorem dX12_why_212 : decode cX12_why 212 = .ok (.ireturn, 1) := by decide +kernel
theorem dX12_why_213 : decode cX12_why 213 = .ok (.aload_n 0, 1) := by decide +kernel
theorem dX12_why_214 : decode cX12_why 214 = .ok (.getfield 98, 3) := by decide +kernel
theorem dX12_why_217 : decode cX12_why 217 = .ok (.bipush 71, 2) := by decide +kernel
theorem dX12_why_219 : decode cX12_why 219 = .ok (.iaload, 1) := by decide +kernel
theorem dX12_why_220 : decode cX12_why 220 = .ok (.iload_n 2, 1) := by decide +kernel
theorem dX12_why_221 : decode cX12_why 221 = .ok (.if_icmp .ne 7, 3) := by decide +kernel
theorem dX12_why_224 : decode cX12_why 224 = .ok (.iconst 1, 1) := by decide +kernel
theorem dX12_why_225 : decode cX12_why 225 = .ok (.goto 4, 3) := by decide +kernel
theorem dX12_why_228 : decode cX12_why 228 = .ok (.iconst 0, 1) := by decide +kernel
theorem dX12_why_229 : decode cX12_why 229 = .ok (.ireturn, 1) := by decide +kernel
def f_X12_why (v0 : XM) (x0 : Int32) (x1 : Int32) (x2 : Int32) : Option (Int32) :=
  if x0 = (0 : Int32) then
  (x_bo (f_X12_whyWalk v0 x1 x2) (fun y2 =>
  some (y2 : Int32)))
  else (if x0 = (1 : Int32) then
  (x_bo (f_X12_isGoing v0 x1) (fun y3 =>
  if y3 = (0 : Int32) then
  (x_ck ((54 : Int32) + x2) 353 (
  x_ck ((74 : Int32) + x1) 353 (
  if ((x_ga v0 2 ((54 : Int32) + x2)) : Int32) = (x_ga v0 2 ((74 : Int32) + x1)) then
  (x_ck ((94 : Int32) + x1) 353 (
  x_lt (f_X12_has (x_ga v0 2 ((94 : Int32) + x1)) x2) (fun y4 =>
  if y4 = (0 : Int32) then
  (some ((0 : Int32) : Int32))
  else (some ((3 : Int32) : Int32)))))
  else (some ((2 : Int32) : Int32)))))
  else (some ((1 : Int32) : Int32))))
  else (if x0 = (2 : Int32) then
  (x_bo (f_X12_whyTell v0 x1 x2) (fun y5 =>
  some (y5 : Int32)))
  else (if x0 = (3 : Int32) then
  (x_bo (f_X12_isGoing v0 x1) (fun y6 =>
  if y6 = (0 : Int32) then
  (x_ck ((74 : Int32) + x1) 353 (
  x_lt (f_X12_has (x_ga v0 2 (5 : Int32)) (x_ga v0 2 ((74 : Int32) + x1))) (fun y7 =>
  if y7 = (0 : Int32) then
  (some ((2 : Int32) : Int32))
  else (x_ck ((89 : Int32) + x1) 353 (
  if (x_ga v0 2 ((89 : Int32) + x1)) = (0 : Int32) then
  (some ((3 : Int32) : Int32))
  else (some ((0 : Int32) : Int32)))))))
  else (some ((1 : Int32) : Int32))))
  else (if x0 = (4 : Int32) then
  (x_bo (f_X12_plainDepth v0 x1) (fun y8 =>
  if (y8 : Int32) = (1 : Int32) then
  (some ((1 : Int32) : Int32))
  else (some ((0 : Int32) : Int32))))
  else (if x0 = (5 : Int32) then
  (x_ck ((99 : Int32) + x1) 353 (
  if (x_ga v0 2 ((99 : Int32) + x1)) ≤ (0 : Int32) then
  (x_bo (f_X12_goers v0 x1) (fun y9 =>
  if y9 = (0 : Int32) then
  (some ((0 : Int32) : Int32))
  else (some ((2 : Int32) : Int32))))
  else (some ((1 : Int32) : Int32))))
  else (if ((x_ga v0 2 (71 : Int32)) : Int32) = x1 then
  (some ((1 : Int32) : Int32))
  else (some ((0 : Int32) : Int32))))))))
set_option maxRecDepth 100000 in
set_option maxHeartbeats 4000000 in
theorem c_X12_why {l : Launch}  {ad0 : Nat → Nat} {v0 : XM} {x0 : Int32} {x1 : Int32} {x2 : Int32}  {o : Int32} (h : f_X12_why v0 x0 x1 x2 = some o) : CT l yX12_why cX12_why 4 (some .int) 5 [(shModel, ad0)] [v0] (fun aK => [.ref (ad0 0), .int x0, .int x1, .int x2]) (some (.int o)) True [v0] := by
  refine CT_of (by decide) (fun _ => Nat.le_of_ble_eq_true rfl) ?_
  intro p e s m args below meth c D tc aK aV A X
  have X : Cx p s m args meth c cX12_why 4 (some .int) RX12 D tc aK aV A [(shModel, ad0)] := X
  show aW p l e (x_Rm 5) s m args below meth c D tc A 4 [(shModel, ad0)] (some (.int o)) True [v0] 0 [(0, .ref (ad0 0)), (1, .int x0), (2, .int x1), (3, .int x2)] [] [v0]
  unfold f_X12_why at h
  refine a_iload_n (pc := 0) X 1 dX12_why_0 rfl rfl ?_
  by_cases c_1_0 : x0 = (0 : Int32)
  · have h := x_ifp c_1_0 h
    refine a_tin (pc := 1) X 40 dX12_why_1 c_1_0 (by decide) (by decide) rfl rfl ?_
    refine a_aload_n (pc := 40) X 0 dX12_why_40 rfl rfl ?_
    refine a_iload_n (pc := 41) X 2 dX12_why_41 rfl rfl ?_
    refine a_iload_n (pc := 42) X 3 dX12_why_42 rfl rfl ?_
    obtain ⟨y2, e_y2, h⟩ := x_bo_elim h
    refine a_callV (pc := 43) (st2 := [.int y2]) (vs2 := [v0]) X [(0, 0, 20)] [none] 0 0 12 [.int x1, .int x2] [] cv_RX12_292 (c_X12_whyWalk (ad0 := ad0)  e_y2) rfl rfl rfl rfl rfl rfl rfl rfl rfl rfl rfl rfl rfl rfl rfl (Nat.le_of_ble_eq_true rfl) ⟨Nat.le_of_ble_eq_true rfl, Nat.le_of_ble_eq_true rfl⟩ dX12_why_43 (fun _ => ?_)
    have h := Option.some.inj h; subst h
    exact a_iret (pc := 46) X trivial dX12_why_46
  · have h := x_ifn c_1_0 h
    by_cases c_1_1 : x0 = (1 : Int32)
    · have h := x_ifp c_1_1 h
      refine a_tin (pc := 1) X 47 dX12_why_1 c_1_1 (by decide) (by decide) rfl rfl ?_
      refine a_aload_n (pc := 47) X 0 dX12_why_47 rfl rfl ?_
      refine a_iload_n (pc := 48) X 2 dX12_why_48 rfl rfl ?_
      obtain ⟨y3, e_y3, h⟩ := x_bo_elim h
      refine a_callV (pc := 49) (st2 := [.int y3]) (vs2 := [v0]) X [(0, 0, 20)] [none] 0 0 12 [.int x1] [] cv_RX12_240 (c_X12_isGoing (ad0 := ad0)  e_y3) rfl rfl rfl rfl rfl rfl rfl rfl rfl rfl rfl rfl rfl rfl rfl (Nat.le_of_ble_eq_true rfl) ⟨Nat.le_of_ble_eq_true rfl, Nat.le_of_ble_eq_true rfl⟩ dX12_why_49 (fun z_49 => ?_)
      refine a_if_eq (pc := 52) X 59 dX12_why_52 rfl (fun c_52 => ?_) (fun c_52 => ?_)
      · have h := x_ifp c_52 h
        refine a_aload_n (pc := 59) X 0 dX12_why_59 rfl rfl ?_
        refine a_getR (pc := 60) X 0 2 2 fl_RX12_98 rfl rfl rfl rfl rfl dX12_why_60 ?_
        refine a_bipush (pc := 63) X dX12_why_63 q_bp_54 ?_
        refine a_iload_n (pc := 65) X 3 dX12_why_65 rfl rfl ?_
        refine a_iadd (pc := 66) X dX12_why_66 ?_
        obtain ⟨c_67, h⟩ := x_ck_elim h
        refine a_iald (pc := 67) X 0 rfl rfl rfl c_67 dX12_why_67 ?_
        refine a_aload_n (pc := 68) X 0 dX12_why_68 rfl rfl ?_
        refine a_getR (pc := 69) X 0 2 2 fl_RX12_98 rfl rfl rfl rfl rfl dX12_why_69 ?_
        refine a_bipush (pc := 72) X dX12_why_72 q_bp_74 ?_
        refine a_iload_n (pc := 74) X 2 dX12_why_74 rfl rfl ?_
        refine a_iadd (pc := 75) X dX12_why_75 ?_
        obtain ⟨c_76, h⟩ := x_ck_elim h
        refine a_iald (pc := 76) X 0 rfl rfl rfl c_76 dX12_why_76 ?_
        refine a_icmp_eq (pc := 77) X 84 dX12_why_77 rfl (fun c_77 => ?_) (fun c_77 => ?_)
        · have h := x_ifp c_77 h
          refine a_aload_n (pc := 84) X 0 dX12_why_84 rfl rfl ?_
          refine a_getR (pc := 85) X 0 2 2 fl_RX12_98 rfl rfl rfl rfl rfl dX12_why_85 ?_
          refine a_bipush (pc := 88) X dX12_why_88 q_bp_94 ?_
          refine a_iload_n (pc := 90) X 2 dX12_why_90 rfl rfl ?_
          refine a_iadd (pc := 91) X dX12_why_91 ?_
          obtain ⟨c_92, h⟩ := x_ck_elim h
          refine a_iald (pc := 92) X 0 rfl rfl rfl c_92 dX12_why_92 ?_
          refine a_iload_n (pc := 93) X 3 dX12_why_93 rfl rfl ?_
          obtain ⟨y4, e_y4, h⟩ := x_lt_elim h
          refine a_callS (pc := 94) (st2 := [.int y4]) (vs2 := [v0]) X [] [] [.int (x_ga v0 2 ((94 : Int32) + x1)), .int x2] [] cv_RX12_243 (c_X12_has   e_y4) rfl rfl rfl rfl rfl rfl rfl rfl rfl rfl rfl (Nat.le_of_ble_eq_true rfl) ⟨Nat.le_of_ble_eq_true rfl, Nat.le_of_ble_eq_true rfl⟩ dX12_why_94 (fun z_94 => ?_)
          refine a_if_eq (pc := 97) X 104 dX12_why_97 rfl (fun c_97 => ?_) (fun c_97 => ?_)
          · have h := x_ifp c_97 h
            refine a_iconst (pc := 104) X dX12_why_104 q_ic_0 ?_
            have h := Option.some.inj h; subst h
            exact a_iret (pc := 105) X trivial dX12_why_105
          · have h := x_ifn c_97 h
            refine a_iconst (pc := 100) X dX12_why_100 q_ic_3 ?_
            refine a_goto (pc := 101) X 105 dX12_why_101 rfl ?_
            have h := Option.some.inj h; subst h
            exact a_iret (pc := 105) X trivial dX12_why_105
        · have h := x_ifn c_77 h
          refine a_iconst (pc := 80) X dX12_why_80 q_ic_2 ?_
          refine a_goto (pc := 81) X 105 dX12_why_81 rfl ?_
          have h := Option.some.inj h; subst h
          exact a_iret (pc := 105) X trivial dX12_why_105
      · have h := x_ifn c_52 h
        refine a_iconst (pc := 55) X dX12_why_55 q_ic_1 ?_
        refine a_goto (pc := 56) X 105 dX12_why_56 rfl ?_
        have h := Option.some.inj h; subst h
        exact a_iret (pc := 105) X trivial dX12_why_105
    · have h := x_ifn c_1_1 h
      by_cases c_1_2 : x0 = (2 : Int32)
      · have h := x_ifp c_1_2 h
        refine a_tin (pc := 1) X 106 dX12_why_1 c_1_2 (by decide) (by decide) rfl rfl ?_
        refine a_aload_n (pc := 106) X 0 dX12_why_106 rfl rfl ?_
        refine a_iload_n (pc := 107) X 2 dX12_why_107 rfl rfl ?_
        refine a_iload_n (pc := 108) X 3 dX12_why_108 rfl rfl ?_
        obtain ⟨y5, e_y5, h⟩ := x_bo_elim h
        refine a_callV (pc := 109) (st2 := [.int y5]) (vs2 := [v0]) X [(0, 0, 20)] [none] 0 0 12 [.int x1, .int x2] [] cv_RX12_295 (c_X12_whyTell (ad0 := ad0)  e_y5) rfl rfl rfl rfl rfl rfl rfl rfl rfl rfl rfl rfl rfl rfl rfl (Nat.le_of_ble_eq_true rfl) ⟨Nat.le_of_ble_eq_true rfl, Nat.le_of_ble_eq_true rfl⟩ dX12_why_109 (fun _ => ?_)
        have h := Option.some.inj h; subst h
        exact a_iret (pc := 112) X trivial dX12_why_112
      · have h := x_ifn c_1_2 h
        by_cases c_1_3 : x0 = (3 : Int32)
        · have h := x_ifp c_1_3 h
          refine a_tin (pc := 1) X 113 dX12_why_1 c_1_3 (by decide) (by decide) rfl rfl ?_
          refine a_aload_n (pc := 113) X 0 dX12_why_113 rfl rfl ?_
          refine a_iload_n (pc := 114) X 2 dX12_why_114 rfl rfl ?_
          obtain ⟨y6, e_y6, h⟩ := x_bo_elim h
          refine a_callV (pc := 115) (st2 := [.int y6]) (vs2 := [v0]) X [(0, 0, 20)] [none] 0 0 12 [.int x1] [] cv_RX12_240 (c_X12_isGoing (ad0 := ad0)  e_y6) rfl rfl rfl rfl rfl rfl rfl rfl rfl rfl rfl rfl rfl rfl rfl (Nat.le_of_ble_eq_true rfl) ⟨Nat.le_of_ble_eq_true rfl, Nat.le_of_ble_eq_true rfl⟩ dX12_why_115 (fun z_115 => ?_)
          refine a_if_eq (pc := 118) X 125 dX12_why_118 rfl (fun c_118 => ?_) (fun c_118 => ?_)
          · have h := x_ifp c_118 h
            refine a_aload_n (pc := 125) X 0 dX12_why_125 rfl rfl ?_
            refine a_getR (pc := 126) X 0 2 2 fl_RX12_98 rfl rfl rfl rfl rfl dX12_why_126 ?_
            refine a_iconst (pc := 129) X dX12_why_129 q_ic_5 ?_
            refine a_iald (pc := 130) X 0 rfl rfl rfl (x_inl (by decide)) dX12_why_130 ?_
            refine a_aload_n (pc := 131) X 0 dX12_why_131 rfl rfl ?_
            refine a_getR (pc := 132) X 0 2 2 fl_RX12_98 rfl rfl rfl rfl rfl dX12_why_132 ?_
            refine a_bipush (pc := 135) X dX12_why_135 q_bp_74 ?_
            refine a_iload_n (pc := 137) X 2 dX12_why_137 rfl rfl ?_
            refine a_iadd (pc := 138) X dX12_why_138 ?_
            obtain ⟨c_139, h⟩ := x_ck_elim h
            refine a_iald (pc := 139) X 0 rfl rfl rfl c_139 dX12_why_139 ?_
            obtain ⟨y7, e_y7, h⟩ := x_lt_elim h
            refine a_callS (pc := 140) (st2 := [.int y7]) (vs2 := [v0]) X [] [] [.int (x_ga v0 2 (5 : Int32)), .int (x_ga v0 2 ((74 : Int32) + x1))] [] cv_RX12_243 (c_X12_has   e_y7) rfl rfl rfl rfl rfl rfl rfl rfl rfl rfl rfl (Nat.le_of_ble_eq_true rfl) ⟨Nat.le_of_ble_eq_true rfl, Nat.le_of_ble_eq_true rfl⟩ dX12_why_140 (fun z_140 => ?_)
            refine a_if_ne (pc := 143) X 150 dX12_why_143 rfl (fun c_143 => ?_) (fun c_143 => ?_)
            · have h := x_ifn c_143 h
              refine a_aload_n (pc := 150) X 0 dX12_why_150 rfl rfl ?_
              refine a_getR (pc := 151) X 0 2 2 fl_RX12_98 rfl rfl rfl rfl rfl dX12_why_151 ?_
              refine a_bipush (pc := 154) X dX12_why_154 q_bp_89 ?_
              refine a_iload_n (pc := 156) X 2 dX12_why_156 rfl rfl ?_
              refine a_iadd (pc := 157) X dX12_why_157 ?_
              obtain ⟨c_158, h⟩ := x_ck_elim h
              refine a_iald (pc := 158) X 0 rfl rfl rfl c_158 dX12_why_158 ?_
              refine a_if_ne (pc := 159) X 166 dX12_why_159 rfl (fun c_159 => ?_) (fun c_159 => ?_)
              · have h := x_ifn c_159 h
                refine a_iconst (pc := 166) X dX12_why_166 q_ic_0 ?_
                have h := Option.some.inj h; subst h
                exact a_iret (pc := 167) X trivial dX12_why_167
              · have h := x_ifp c_159 h
                refine a_iconst (pc := 162) X dX12_why_162 q_ic_3 ?_
                refine a_goto (pc := 163) X 167 dX12_why_163 rfl ?_
                have h := Option.some.inj h; subst h
                exact a_iret (pc := 167) X trivial dX12_why_167
            · have h := x_ifp c_143 h
              refine a_iconst (pc := 146) X dX12_why_146 q_ic_2 ?_
              refine a_goto (pc := 147) X 167 dX12_why_147 rfl ?_
              have h := Option.some.inj h; subst h
              exact a_iret (pc := 167) X trivial dX12_why_167
          · have h := x_ifn c_118 h
            refine a_iconst (pc := 121) X dX12_why_121 q_ic_1 ?_
            refine a_goto (pc := 122) X 167 dX12_why_122 rfl ?_
            have h := Option.some.inj h; subst h
            exact a_iret (pc := 167) X trivial dX12_why_167
        · have h := x_ifn c_1_3 h
          by_cases c_1_4 : x0 = (4 : Int32)
          · have h := x_ifp c_1_4 h
            refine a_tin (pc := 1) X 168 dX12_why_1 c_1_4 (by decide) (by decide) rfl rfl ?_
            refine a_aload_n (pc := 168) X 0 dX12_why_168 rfl rfl ?_
            refine a_iload_n (pc := 169) X 2 dX12_why_169 rfl rfl ?_
            obtain ⟨y8, e_y8, h⟩ := x_bo_elim h
            refine a_callV (pc := 170) (st2 := [.int y8]) (vs2 := [v0]) X [(0, 0, 20)] [none] 0 0 12 [.int x1] [] cv_RX12_246 (c_X12_plainDepth (ad0 := ad0)  e_y8) rfl rfl rfl rfl rfl rfl rfl rfl rfl rfl rfl rfl rfl rfl rfl (Nat.le_of_ble_eq_true rfl) ⟨Nat.le_of_ble_eq_true rfl, Nat.le_of_ble_eq_true rfl⟩ dX12_why_170 (fun _ => ?_)
            refine a_iconst (pc := 173) X dX12_why_173 q_ic_1 ?_
            refine a_icmp_ne (pc := 174) X 181 dX12_why_174 rfl (fun c_174 => ?_) (fun c_174 => ?_)
            · have h := x_ifn c_174 h
              refine a_iconst (pc := 181) X dX12_why_181 q_ic_0 ?_
              have h := Option.some.inj h; subst h
              exact a_iret (pc := 182) X trivial dX12_why_182
            · have h := x_ifp c_174 h
              refine a_iconst (pc := 177) X dX12_why_177 q_ic_1 ?_
              refine a_goto (pc := 178) X 182 dX12_why_178 rfl ?_
              have h := Option.some.inj h; subst h
              exact a_iret (pc := 182) X trivial dX12_why_182
          · have h := x_ifn c_1_4 h
            by_cases c_1_5 : x0 = (5 : Int32)
            · have h := x_ifp c_1_5 h
              refine a_tin (pc := 1) X 183 dX12_why_1 c_1_5 (by decide) (by decide) rfl rfl ?_
              refine a_aload_n (pc := 183) X 0 dX12_why_183 rfl rfl ?_
              refine a_getR (pc := 184) X 0 2 2 fl_RX12_98 rfl rfl rfl rfl rfl dX12_why_184 ?_
              refine a_bipush (pc := 187) X dX12_why_187 q_bp_99 ?_
              refine a_iload_n (pc := 189) X 2 dX12_why_189 rfl rfl ?_
              refine a_iadd (pc := 190) X dX12_why_190 ?_
              obtain ⟨c_191, h⟩ := x_ck_elim h
              refine a_iald (pc := 191) X 0 rfl rfl rfl c_191 dX12_why_191 ?_
              refine a_if_le (pc := 192) X 199 dX12_why_192 rfl (fun c_192 => ?_) (fun c_192 => ?_)
              · have h := x_ifp c_192 h
                refine a_aload_n (pc := 199) X 0 dX12_why_199 rfl rfl ?_
                refine a_iload_n (pc := 200) X 2 dX12_why_200 rfl rfl ?_
                obtain ⟨y9, e_y9, h⟩ := x_bo_elim h
                refine a_callV (pc := 201) (st2 := [.int y9]) (vs2 := [v0]) X [(0, 0, 20)] [none] 0 0 12 [.int x1] [] cv_RX12_283 (c_X12_goers (ad0 := ad0)  e_y9) rfl rfl rfl rfl rfl rfl rfl rfl rfl rfl rfl rfl rfl rfl rfl (Nat.le_of_ble_eq_true rfl) ⟨Nat.le_of_ble_eq_true rfl, Nat.le_of_ble_eq_true rfl⟩ dX12_why_201 (fun _ => ?_)
                refine a_if_eq (pc := 204) X 211 dX12_why_204 rfl (fun c_204 => ?_) (fun c_204 => ?_)
                · have h := x_ifp c_204 h
                  refine a_iconst (pc := 211) X dX12_why_211 q_ic_0 ?_
                  have h := Option.some.inj h; subst h
                  exact a_iret (pc := 212) X trivial dX12_why_212
                · have h := x_ifn c_204 h
                  refine a_iconst (pc := 207) X dX12_why_207 q_ic_2 ?_
                  refine a_goto (pc := 208) X 212 dX12_why_208 rfl ?_
                  have h := Option.some.inj h; subst h
                  exact a_iret (pc := 212) X trivial dX12_why_212
              · have h := x_ifn c_192 h
                refine a_iconst (pc := 195) X dX12_why_195 q_ic_1 ?_
                refine a_goto (pc := 196) X 212 dX12_why_196 rfl ?_
                have h := Option.some.inj h; subst h
                exact a_iret (pc := 212) X trivial dX12_why_212
            · have h := x_ifn c_1_5 h
              refine a_tout (pc := 1) X 213 dX12_why_1 (by have q0 := x_ne c_1_0; have q1 := x_ne c_1_1; have q2 := x_ne c_1_2; have q3 := x_ne c_1_3; have q4 := x_ne c_1_4; have q5 := x_ne c_1_5; have q0 : (x0 : Int32).toInt ≠ 0 := q0; have q1 : (x0 : Int32).toInt ≠ 1 := q1; have q2 : (x0 : Int32).toInt ≠ 2 := q2; have q3 : (x0 : Int32).toInt ≠ 3 := q3; have q4 : (x0 : Int32).toInt ≠ 4 := q4; have q5 : (x0 : Int32).toInt ≠ 5 := q5; omega) rfl ?_
              refine a_aload_n (pc := 213) X 0 dX12_why_213 rfl rfl ?_
              refine a_getR (pc := 214) X 0 2 2 fl_RX12_98 rfl rfl rfl rfl rfl dX12_why_214 ?_
              refine a_bipush (pc := 217) X dX12_why_217 q_bp_71 ?_
              refine a_iald (pc := 219) X 0 rfl rfl rfl (x_inl (by decide)) dX12_why_219 ?_
              refine a_iload_n (pc := 220) X 2 dX12_why_220 rfl rfl ?_
              refine a_icmp_ne (pc := 221) X 228 dX12_why_221 rfl (fun c_221 => ?_) (fun c_221 => ?_)
              · have h := x_ifn c_221 h
                refine a_iconst (pc := 228) X dX12_why_228 q_ic_0 ?_
                have h := Option.some.inj h; subst h
                exact a_iret (pc := 229) X trivial dX12_why_229
              · have h := x_ifp c_221 h
                refine a_iconst (pc := 224) X dX12_why_224 q_ic_1 ?_
                refine a_goto (pc := 225) X 229 dX12_why_225 rfl ?_
                have h := Option.some.inj h; subst h
                exact a_iret (pc := 229) X trivial dX12_why_229
theorem dX12_live_0 : decode cX12_live 0 = .ok (.iload_n 1, 1) := by decide +kernel
theorem dX12_live_1 : decode cX12_live 1 = .ok (.tableswitch 170 0 5 #[39, 96, 112, 134, 145, 159], 39) := by decide +kernel
theorem dX12_live_40 : decode cX12_live 40 = .ok (.aload_n 0, 1) := by decide +kernel
theorem dX12_live_41 : decode cX12_live 41 = .ok (.getfield 98, 3) := by decide +kernel
theorem dX12_live_44 : decode cX12_live 44 = .ok (.bipush 84, 2) := by decide +kernel
theorem dX12_live_46 : decode cX12_live 46 = .ok (.iload_n 2, 1) := by decide +kernel
theorem dX12_live_47 : decode cX12_live 47 = .ok (.iadd, 1) := by decide +kernel
theorem dX12_live_48 : decode cX12_live 48 = .ok (.aload_n 0, 1) := by decide +kernel
theorem dX12_live_49 : decode cX12_live 49 = .ok (.iload_n 3, 1) := by decide +kernel
theorem dX12_live_50 : decode cX12_live 50 = .ok (.aload_n 0, 1) := by decide +kernel
theorem dX12_live_51 : decode cX12_live 51 = .ok (.getfield 98, 3) := by decide +kernel
theorem dX12_live_54 : decode cX12_live 54 = .ok (.bipush 65, 2) := by decide +kernel
theorem dX12_live_56 : decode cX12_live 56 = .ok (.iload_n 2, 1) := by decide +kernel
theorem dX12_live_57 : decode cX12_live 57 = .ok (.iadd, 1) := by decide +kernel
theorem dX12_live_58 : decode cX12_live 58 = .ok (.iaload, 1) := by decide +kernel
theorem dX12_live_59 : decode cX12_live 59 = .ok (.invokevirtual 257, 3) := by decide +kernel
theorem dX12_live_62 : decode cX12_live 62 = .ok (.iastore, 1) := by decide +kernel
theorem dX12_live_63 : decode cX12_live 63 = .ok (.aload_n 0, 1) := by decide +kernel
theorem dX12_live_64 : decode cX12_live 64 = .ok (.getfield 98, 3) := by decide +kernel
theorem dX12_live_67 : decode cX12_live 67 = .ok (.bipush 74, 2) := by decide +kernel
theorem dX12_live_69 : decode cX12_live 69 = .ok (.iload_n 2, 1) := by decide +kernel
theorem dX12_live_70 : decode cX12_live 70 = .ok (.iadd, 1) := by decide +kernel
theorem dX12_live_71 : decode cX12_live 71 = .ok (.aload_n 0, 1) := by decide +kernel
theorem dX12_live_72 : decode cX12_live 72 = .ok (.iload_n 3, 1) := by decide +kernel
theorem dX12_live_73 : decode cX12_live 73 = .ok (.aload_n 0, 1) := by decide +kernel
theorem dX12_live_74 : decode cX12_live 74 = .ok (.getfield 98, 3) := by decide +kernel
theorem dX12_live_77 : decode cX12_live 77 = .ok (.bipush 74, 2) := by decide +kernel
theorem dX12_live_79 : decode cX12_live 79 = .ok (.iload_n 2, 1) := by decide +kernel
theorem dX12_live_80 : decode cX12_live 80 = .ok (.iadd, 1) := by decide +kernel
theorem dX12_live_81 : decode cX12_live 81 = .ok (.iaload, 1) := by decide +kernel
theorem dX12_live_82 : decode cX12_live 82 = .ok (.invokevirtual 252, 3) := by decide +kernel
theorem dX12_live_85 : decode cX12_live 85 = .ok (.iastore, 1) := by decide +kernel
theorem dX12_live_86 : decode cX12_live 86 = .ok (.aload_n 0, 1) := by decide +kernel
theorem dX12_live_87 : decode cX12_live 87 = .ok (.getfield 98, 3) := by decide +kernel
theorem dX12_live_90 : decode cX12_live 90 = .ok (.bipush 79, 2) := by decide +kernel
theorem dX12_live_92 : decode cX12_live 92 = .ok (.iload_n 2, 1) := by decide +kernel
theorem dX12_live_93 : decode cX12_live 93 = .ok (.iadd, 1) := by decide +kernel
theorem dX12_live_94 : decode cX12_live 94 = .ok (.iload_n 3, 1) := by decide +kernel
theorem dX12_live_95 : decode cX12_live 95 = .ok (.iastore, 1) := by decide +kernel
theorem dX12_live_96 : decode cX12_live 96 = .ok (.return_, 1) := by decide +kernel
theorem dX12_live_97 : decode cX12_live 97 = .ok (.aload_n 0, 1) := by decide +kernel
theorem dX12_live_98 : decode cX12_live 98 = .ok (.getfield 98, 3) := by decide +kernel
theorem dX12_live_101 : decode cX12_live 101 = .ok (.bipush 94, 2) := by decide +kernel
theorem dX12_live_103 : decode cX12_live 103 = .ok (.iload_n 2, 1) := by decide +kernel
theorem dX12_live_104 : decode cX12_live 104 = .ok (.iadd, 1) := by decide +kernel
theorem dX12_live_105 : decode cX12_live 105 = .ok (.dup2, 1) := by decide +kernel
theorem dX12_live_106 : decode cX12_live 106 = .ok (.iaload, 1) := by decide +kernel
theorem dX12_live_107 : decode cX12_live 107 = .ok (.iconst 1, 1) := by decide +kernel
theorem dX12_live_108 : decode cX12_live 108 = .ok (.iload_n 3, 1) := by decide +kernel
theorem dX12_live_109 : decode cX12_live 109 = .ok (.ishl, 1) := by decide +kernel
theorem dX12_live_110 : decode cX12_live 110 = .ok (.ior, 1) := by decide +kernel
theorem dX12_live_111 : decode cX12_live 111 = .ok (.iastore, 1) := by decide +kernel
theorem dX12_live_112 : decode cX12_live 112 = .ok (.return_, 1) := by decide +kernel
theorem dX12_live_113 : decode cX12_live 113 = .ok (.aload_n 0, 1) := by decide +kernel
theorem dX12_live_114 : decode cX12_live 114 = .ok (.getfield 98, 3) := by decide +kernel
theorem dX12_live_117 : decode cX12_live 117 = .ok (.bipush 94, 2) := by decide +kernel
theorem dX12_live_119 : decode cX12_live 119 = .ok (.iload_n 3, 1) := by decide +kernel
theorem dX12_live_120 : decode cX12_live 120 = .ok (.iadd, 1) := by decide +kernel
theorem dX12_live_121 : decode cX12_live 121 = .ok (.dup2, 1) := by decide +kernel
theorem dX12_live_122 : decode cX12_live 122 = .ok (.iaload, 1) := by decide +kernel
theorem dX12_live_123 : decode cX12_live 123 = .ok (.aload_n 0, 1) := by decide +kernel
theorem dX12_live_124 : decode cX12_live 124 = .ok (.getfield 98, 3) := by decide +kernel
theorem dX12_live_127 : decode cX12_live 127 = .ok (.bipush 94, 2) := by decide +kernel
theorem dX12_live_129 : decode cX12_live 129 = .ok (.iload_n 2, 1) := by decide +kernel
theorem dX12_live_130 : decode cX12_live 130 = .ok (.iadd, 1) := by decide +kernel
theorem dX12_live_131 : decode cX12_live 131 = .ok (.iaload, 1) := by decide +kernel
theorem dX12_live_132 : decode cX12_live 132 = .ok (.ior, 1) := by decide +kernel
theorem dX12_live_133 : decode cX12_live 133 = .ok (.iastore, 1) := by decide +kernel
theorem dX12_live_134 : decode cX12_live 134 = .ok (.return_, 1) := by decide +kernel
theorem dX12_live_135 : decode cX12_live 135 = .ok (.aload_n 0, 1) := by decide +kernel
theorem dX12_live_136 : decode cX12_live 136 = .ok (.getfield 98, 3) := by decide +kernel
theorem dX12_live_139 : decode cX12_live 139 = .ok (.bipush 89, 2) := by decide +kernel
theorem dX12_live_141 : decode cX12_live 141 = .ok (.iload_n 2, 1) := by decide +kernel
theorem dX12_live_142 : decode cX12_live 142 = .ok (.iadd, 1) := by decide +kernel
theorem dX12_live_143 : decode cX12_live 143 = .ok (.iconst 0, 1) := by decide +kernel
theorem dX12_live_144 : decode cX12_live 144 = .ok (.iastore, 1) := by decide +kernel
theorem dX12_live_145 : decode cX12_live 145 = .ok (.return_, 1) := by decide +kernel
theorem dX12_live_146 : decode cX12_live 146 = .ok (.aload_n 0, 1) := by decide +kernel
theorem dX12_live_147 : decode cX12_live 147 = .ok (.getfield 98, 3) := by decide +kernel
theorem dX12_live_150 : decode cX12_live 150 = .ok (.bipush 72, 2) := by decide +kernel
theorem dX12_live_152 : decode cX12_live 152 = .ok (.dup2, 1) := by decide +kernel
theorem dX12_live_153 : decode cX12_live 153 = .ok (.iaload, 1) := by decide +kernel
theorem dX12_live_154 : decode cX12_live 154 = .ok (.iconst 1, 1) := by decide +kernel
theorem dX12_live_155 : decode cX12_live 155 = .ok (.iload_n 2, 1) := by decide +kernel
theorem dX12_live_156 : decode cX12_live 156 = .ok (.ishl, 1) := by decide +kernel
theorem dX12_live_157 : decode cX12_live 157 = .ok (.ior, 1) := by decide +kernel
theorem dX12_live_158 : decode cX12_live 158 = .ok (.iastore, 1) := by decide +kernel
theorem dX12_live_159 : decode cX12_live 159 = .ok (.return_, 1) := by decide +kernel
theorem dX12_live_160 : decode cX12_live 160 = .ok (.aload_n 0, 1) := by decide +kernel
theorem dX12_live_161 : decode cX12_live 161 = .ok (.getfield 98, 3) := by decide +kernel
theorem dX12_live_164 : decode cX12_live 164 = .ok (.bipush 99, 2) := by decide +kernel
theorem dX12_live_166 : decode cX12_live 166 = .ok (.iload_n 2, 1) := by decide +kernel
theorem dX12_live_167 : decode cX12_live 167 = .ok (.iadd, 1) := by decide +kernel
theorem dX12_live_168 : decode cX12_live 168 = .ok (.iload_n 3, 1) := by decide +kernel
theorem dX12_live_169 : decode cX12_live 169 = .ok (.iastore, 1) := by decide +kernel
theorem dX12_live_170 : decode cX12_live 170 = .ok (.return_, 1) := by decide +kernel
theorem dX12_live_171 : decode cX12_live 171 = .ok (.aload_n 0, 1) := by decide +kernel
theorem dX12_live_172 : decode cX12_live 172 = .ok (.getfield 98, 3) := by decide +kernel
theorem dX12_live_175 : decode cX12_live 175 = .ok (.bipush 71, 2) := by decide +kernel
theorem dX12_live_177 : decode cX12_live 177 = .ok (.iload_n 2, 1) := by decide +kernel
theorem dX12_live_178 : decode cX12_live 178 = .ok (.iastore, 1) := by decide +kernel
theorem dX12_live_179 : decode cX12_live 179 = .ok (.return_, 1) := by decide +kernel
def f_X12_live (v0 : XM) (x0 : Int32) (x1 : Int32) (x2 : Int32) : Option (XM) :=
  if x0 = (0 : Int32) then
  (x_ck ((65 : Int32) + x1) 353 (
  x_bo (f_X12_hoursOf v0 x2 (x_ga v0 2 ((65 : Int32) + x1))) (fun y2 =>
  x_ck ((84 : Int32) + x1) 353 (
  x_lt (x_pa v0 2 ((84 : Int32) + x1) y2) (fun m3 =>
  x_ck ((74 : Int32) + x1) 353 (
  x_bo (f_X12_otherEnd m3 x2 (x_ga m3 2 ((74 : Int32) + x1))) (fun y4 =>
  x_ck ((74 : Int32) + x1) 353 (
  x_lt (x_pa m3 2 ((74 : Int32) + x1) y4) (fun m5 =>
  x_ck ((79 : Int32) + x1) 353 (
  x_lt (x_pa m5 2 ((79 : Int32) + x1) x2) (fun m6 =>
  some m6)))))))))))
  else (if x0 = (1 : Int32) then
  (x_ck ((94 : Int32) + x1) 353 (
  x_lt ((x_ga v0 2 ((94 : Int32) + x1)) ||| ((1 : Int32) <<< (x2 &&& 31))) (fun y7 =>
  x_ck ((94 : Int32) + x1) 353 (
  x_lt (x_pa v0 2 ((94 : Int32) + x1) y7) (fun m8 =>
  some m8)))))
  else (if x0 = (2 : Int32) then
  (x_ck ((94 : Int32) + x2) 353 (
  x_ck ((94 : Int32) + x1) 353 (
  x_lt ((x_ga v0 2 ((94 : Int32) + x2)) ||| (x_ga v0 2 ((94 : Int32) + x1))) (fun y9 =>
  x_ck ((94 : Int32) + x2) 353 (
  x_lt (x_pa v0 2 ((94 : Int32) + x2) y9) (fun m10 =>
  some m10))))))
  else (if x0 = (3 : Int32) then
  (x_ck ((89 : Int32) + x1) 353 (
  x_lt (x_pa v0 2 ((89 : Int32) + x1) (0 : Int32)) (fun m11 =>
  some m11)))
  else (if x0 = (4 : Int32) then
  (x_lt ((x_ga v0 2 (72 : Int32)) ||| ((1 : Int32) <<< (x1 &&& 31))) (fun y12 =>
  x_lt (x_pa v0 2 (72 : Int32) y12) (fun m13 =>
  some m13)))
  else (if x0 = (5 : Int32) then
  (x_ck ((99 : Int32) + x1) 353 (
  x_lt (x_pa v0 2 ((99 : Int32) + x1) x2) (fun m14 =>
  some m14)))
  else (x_lt (x_pa v0 2 (71 : Int32) x1) (fun m15 =>
  some m15)))))))
set_option maxRecDepth 100000 in
set_option maxHeartbeats 4000000 in
theorem c_X12_live {l : Launch}  {ad0 : Nat → Nat} {v0 : XM} {x0 : Int32} {x1 : Int32} {x2 : Int32}  {o : XM} (h : f_X12_live v0 x0 x1 x2 = some o) : CT l yX12_live cX12_live 4 none 4 [(shModel, ad0)] [v0] (fun aK => [.ref (ad0 0), .int x0, .int x1, .int x2]) none True [o] := by
  refine CT_of (by decide) (fun _ => Nat.le_of_ble_eq_true rfl) ?_
  intro p e s m args below meth c D tc aK aV A X
  have X : Cx p s m args meth c cX12_live 4 none RX12 D tc aK aV A [(shModel, ad0)] := X
  show aW p l e (x_Rm 4) s m args below meth c D tc A 4 [(shModel, ad0)] none True [o] 0 [(0, .ref (ad0 0)), (1, .int x0), (2, .int x1), (3, .int x2)] [] [v0]
  unfold f_X12_live at h
  refine a_iload_n (pc := 0) X 1 dX12_live_0 rfl rfl ?_
  by_cases c_1_0 : x0 = (0 : Int32)
  · have h := x_ifp c_1_0 h
    refine a_tin (pc := 1) X 40 dX12_live_1 c_1_0 (by decide) (by decide) rfl rfl ?_
    refine a_aload_n (pc := 40) X 0 dX12_live_40 rfl rfl ?_
    refine a_getR (pc := 41) X 0 2 2 fl_RX12_98 rfl rfl rfl rfl rfl dX12_live_41 ?_
    refine a_bipush (pc := 44) X dX12_live_44 q_bp_84 ?_
    refine a_iload_n (pc := 46) X 2 dX12_live_46 rfl rfl ?_
    refine a_iadd (pc := 47) X dX12_live_47 ?_
    refine a_aload_n (pc := 48) X 0 dX12_live_48 rfl rfl ?_
    refine a_iload_n (pc := 49) X 3 dX12_live_49 rfl rfl ?_
    refine a_aload_n (pc := 50) X 0 dX12_live_50 rfl rfl ?_
    refine a_getR (pc := 51) X 0 2 2 fl_RX12_98 rfl rfl rfl rfl rfl dX12_live_51 ?_
    refine a_bipush (pc := 54) X dX12_live_54 q_bp_65 ?_
    refine a_iload_n (pc := 56) X 2 dX12_live_56 rfl rfl ?_
    refine a_iadd (pc := 57) X dX12_live_57 ?_
    obtain ⟨c_58, h⟩ := x_ck_elim h
    refine a_iald (pc := 58) X 0 rfl rfl rfl c_58 dX12_live_58 ?_
    obtain ⟨y2, e_y2, h⟩ := x_bo_elim h
    refine a_callV (pc := 59) (st2 := [.int y2, .int ((84 : Int32) + x1), .ref (ad0 2)]) (vs2 := [v0]) X [(0, 0, 20)] [none] 0 0 12 [.int x2, .int (x_ga v0 2 ((65 : Int32) + x1))] [.int ((84 : Int32) + x1), .ref (ad0 2)] cv_RX12_257 (c_X12_hoursOf (ad0 := ad0)  e_y2) rfl rfl rfl rfl rfl rfl rfl rfl rfl rfl rfl rfl rfl rfl rfl (Nat.le_of_ble_eq_true rfl) ⟨Nat.le_of_ble_eq_true rfl, Nat.le_of_ble_eq_true rfl⟩ dX12_live_59 (fun _ => ?_)
    obtain ⟨c_62, h⟩ := x_ck_elim h
    refine a_iast (pc := 62) X 0 rfl rfl rfl c_62 dX12_live_62 ?_
    obtain ⟨m3, e_m3, h⟩ := x_lt_elim h
    refine a_nm (vs2 := [m3]) (congrArg (fun q : XM => [q]) e_m3) ?_
    refine a_aload_n (pc := 63) X 0 dX12_live_63 rfl rfl ?_
    refine a_getR (pc := 64) X 0 2 2 fl_RX12_98 rfl rfl rfl rfl rfl dX12_live_64 ?_
    refine a_bipush (pc := 67) X dX12_live_67 q_bp_74 ?_
    refine a_iload_n (pc := 69) X 2 dX12_live_69 rfl rfl ?_
    refine a_iadd (pc := 70) X dX12_live_70 ?_
    refine a_aload_n (pc := 71) X 0 dX12_live_71 rfl rfl ?_
    refine a_iload_n (pc := 72) X 3 dX12_live_72 rfl rfl ?_
    refine a_aload_n (pc := 73) X 0 dX12_live_73 rfl rfl ?_
    refine a_getR (pc := 74) X 0 2 2 fl_RX12_98 rfl rfl rfl rfl rfl dX12_live_74 ?_
    refine a_bipush (pc := 77) X dX12_live_77 q_bp_74 ?_
    refine a_iload_n (pc := 79) X 2 dX12_live_79 rfl rfl ?_
    refine a_iadd (pc := 80) X dX12_live_80 ?_
    obtain ⟨c_81, h⟩ := x_ck_elim h
    refine a_iald (pc := 81) X 0 rfl rfl rfl c_81 dX12_live_81 ?_
    obtain ⟨y4, e_y4, h⟩ := x_bo_elim h
    refine a_callV (pc := 82) (st2 := [.int y4, .int ((74 : Int32) + x1), .ref (ad0 2)]) (vs2 := [m3]) X [(0, 0, 20)] [none] 0 0 12 [.int x2, .int (x_ga m3 2 ((74 : Int32) + x1))] [.int ((74 : Int32) + x1), .ref (ad0 2)] cv_RX12_252 (c_X12_otherEnd (ad0 := ad0)  e_y4) rfl rfl rfl rfl rfl rfl rfl rfl rfl rfl rfl rfl rfl rfl rfl (Nat.le_of_ble_eq_true rfl) ⟨Nat.le_of_ble_eq_true rfl, Nat.le_of_ble_eq_true rfl⟩ dX12_live_82 (fun _ => ?_)
    obtain ⟨c_85, h⟩ := x_ck_elim h
    refine a_iast (pc := 85) X 0 rfl rfl rfl c_85 dX12_live_85 ?_
    obtain ⟨m5, e_m5, h⟩ := x_lt_elim h
    refine a_nm (vs2 := [m5]) (congrArg (fun q : XM => [q]) e_m5) ?_
    refine a_aload_n (pc := 86) X 0 dX12_live_86 rfl rfl ?_
    refine a_getR (pc := 87) X 0 2 2 fl_RX12_98 rfl rfl rfl rfl rfl dX12_live_87 ?_
    refine a_bipush (pc := 90) X dX12_live_90 q_bp_79 ?_
    refine a_iload_n (pc := 92) X 2 dX12_live_92 rfl rfl ?_
    refine a_iadd (pc := 93) X dX12_live_93 ?_
    refine a_iload_n (pc := 94) X 3 dX12_live_94 rfl rfl ?_
    obtain ⟨c_95, h⟩ := x_ck_elim h
    refine a_iast (pc := 95) X 0 rfl rfl rfl c_95 dX12_live_95 ?_
    obtain ⟨m6, e_m6, h⟩ := x_lt_elim h
    refine a_nm (vs2 := [m6]) (congrArg (fun q : XM => [q]) e_m6) ?_
    have h := Option.some.inj h; subst h
    exact a_vret (pc := 96) X trivial dX12_live_96
  · have h := x_ifn c_1_0 h
    by_cases c_1_1 : x0 = (1 : Int32)
    · have h := x_ifp c_1_1 h
      refine a_tin (pc := 1) X 97 dX12_live_1 c_1_1 (by decide) (by decide) rfl rfl ?_
      refine a_aload_n (pc := 97) X 0 dX12_live_97 rfl rfl ?_
      refine a_getR (pc := 98) X 0 2 2 fl_RX12_98 rfl rfl rfl rfl rfl dX12_live_98 ?_
      refine a_bipush (pc := 101) X dX12_live_101 q_bp_94 ?_
      refine a_iload_n (pc := 103) X 2 dX12_live_103 rfl rfl ?_
      refine a_iadd (pc := 104) X dX12_live_104 ?_
      refine a_dup2 (pc := 105) X dX12_live_105 rfl rfl ?_
      obtain ⟨c_106, h⟩ := x_ck_elim h
      refine a_iald (pc := 106) X 0 rfl rfl rfl c_106 dX12_live_106 ?_
      refine a_iconst (pc := 107) X dX12_live_107 q_ic_1 ?_
      refine a_iload_n (pc := 108) X 3 dX12_live_108 rfl rfl ?_
      refine a_ishl (pc := 109) X dX12_live_109 ?_
      refine a_ior (pc := 110) X dX12_live_110 ?_
      obtain ⟨y7, e_y7, h⟩ := x_lt_elim h
      refine a_ni e_y7 ?_
      obtain ⟨c_111, h⟩ := x_ck_elim h
      refine a_iast (pc := 111) X 0 rfl rfl rfl c_111 dX12_live_111 ?_
      obtain ⟨m8, e_m8, h⟩ := x_lt_elim h
      refine a_nm (vs2 := [m8]) (congrArg (fun q : XM => [q]) e_m8) ?_
      have h := Option.some.inj h; subst h
      exact a_vret (pc := 112) X trivial dX12_live_112
    · have h := x_ifn c_1_1 h
      by_cases c_1_2 : x0 = (2 : Int32)
      · have h := x_ifp c_1_2 h
        refine a_tin (pc := 1) X 113 dX12_live_1 c_1_2 (by decide) (by decide) rfl rfl ?_
        refine a_aload_n (pc := 113) X 0 dX12_live_113 rfl rfl ?_
        refine a_getR (pc := 114) X 0 2 2 fl_RX12_98 rfl rfl rfl rfl rfl dX12_live_114 ?_
        refine a_bipush (pc := 117) X dX12_live_117 q_bp_94 ?_
        refine a_iload_n (pc := 119) X 3 dX12_live_119 rfl rfl ?_
        refine a_iadd (pc := 120) X dX12_live_120 ?_
        refine a_dup2 (pc := 121) X dX12_live_121 rfl rfl ?_
        obtain ⟨c_122, h⟩ := x_ck_elim h
        refine a_iald (pc := 122) X 0 rfl rfl rfl c_122 dX12_live_122 ?_
        refine a_aload_n (pc := 123) X 0 dX12_live_123 rfl rfl ?_
        refine a_getR (pc := 124) X 0 2 2 fl_RX12_98 rfl rfl rfl rfl rfl dX12_live_124 ?_
        refine a_bipush (pc := 127) X dX12_live_127 q_bp_94 ?_
        refine a_iload_n (pc := 129) X 2 dX12_live_129 rfl rfl ?_
        refine a_iadd (pc := 130) X dX12_live_130 ?_
        obtain ⟨c_131, h⟩ := x_ck_elim h
        refine a_iald (pc := 131) X 0 rfl rfl rfl c_131 dX12_live_131 ?_
        refine a_ior (pc := 132) X dX12_live_132 ?_
        obtain ⟨y9, e_y9, h⟩ := x_lt_elim h
        refine a_ni e_y9 ?_
        obtain ⟨c_133, h⟩ := x_ck_elim h
        refine a_iast (pc := 133) X 0 rfl rfl rfl c_133 dX12_live_133 ?_
        obtain ⟨m10, e_m10, h⟩ := x_lt_elim h
        refine a_nm (vs2 := [m10]) (congrArg (fun q : XM => [q]) e_m10) ?_
        have h := Option.some.inj h; subst h
        exact a_vret (pc := 134) X trivial dX12_live_134
      · have h := x_ifn c_1_2 h
        by_cases c_1_3 : x0 = (3 : Int32)
        · have h := x_ifp c_1_3 h
          refine a_tin (pc := 1) X 135 dX12_live_1 c_1_3 (by decide) (by decide) rfl rfl ?_
          refine a_aload_n (pc := 135) X 0 dX12_live_135 rfl rfl ?_
          refine a_getR (pc := 136) X 0 2 2 fl_RX12_98 rfl rfl rfl rfl rfl dX12_live_136 ?_
          refine a_bipush (pc := 139) X dX12_live_139 q_bp_89 ?_
          refine a_iload_n (pc := 141) X 2 dX12_live_141 rfl rfl ?_
          refine a_iadd (pc := 142) X dX12_live_142 ?_
          refine a_iconst (pc := 143) X dX12_live_143 q_ic_0 ?_
          obtain ⟨c_144, h⟩ := x_ck_elim h
          refine a_iast (pc := 144) X 0 rfl rfl rfl c_144 dX12_live_144 ?_
          obtain ⟨m11, e_m11, h⟩ := x_lt_elim h
          refine a_nm (vs2 := [m11]) (congrArg (fun q : XM => [q]) e_m11) ?_
          have h := Option.some.inj h; subst h
          exact a_vret (pc := 145) X trivial dX12_live_145
        · have h := x_ifn c_1_3 h
          by_cases c_1_4 : x0 = (4 : Int32)
          · have h := x_ifp c_1_4 h
            refine a_tin (pc := 1) X 146 dX12_live_1 c_1_4 (by decide) (by decide) rfl rfl ?_
            refine a_aload_n (pc := 146) X 0 dX12_live_146 rfl rfl ?_
            refine a_getR (pc := 147) X 0 2 2 fl_RX12_98 rfl rfl rfl rfl rfl dX12_live_147 ?_
            refine a_bipush (pc := 150) X dX12_live_150 q_bp_72 ?_
            refine a_dup2 (pc := 152) X dX12_live_152 rfl rfl ?_
            refine a_iald (pc := 153) X 0 rfl rfl rfl (x_inl (by decide)) dX12_live_153 ?_
            refine a_iconst (pc := 154) X dX12_live_154 q_ic_1 ?_
            refine a_iload_n (pc := 155) X 2 dX12_live_155 rfl rfl ?_
            refine a_ishl (pc := 156) X dX12_live_156 ?_
            refine a_ior (pc := 157) X dX12_live_157 ?_
            obtain ⟨y12, e_y12, h⟩ := x_lt_elim h
            refine a_ni e_y12 ?_
            refine a_iast (pc := 158) X 0 rfl rfl rfl (x_inl (by decide)) dX12_live_158 ?_
            obtain ⟨m13, e_m13, h⟩ := x_lt_elim h
            refine a_nm (vs2 := [m13]) (congrArg (fun q : XM => [q]) e_m13) ?_
            have h := Option.some.inj h; subst h
            exact a_vret (pc := 159) X trivial dX12_live_159
          · have h := x_ifn c_1_4 h
            by_cases c_1_5 : x0 = (5 : Int32)
            · have h := x_ifp c_1_5 h
              refine a_tin (pc := 1) X 160 dX12_live_1 c_1_5 (by decide) (by decide) rfl rfl ?_
              refine a_aload_n (pc := 160) X 0 dX12_live_160 rfl rfl ?_
              refine a_getR (pc := 161) X 0 2 2 fl_RX12_98 rfl rfl rfl rfl rfl dX12_live_161 ?_
              refine a_bipush (pc := 164) X dX12_live_164 q_bp_99 ?_
              refine a_iload_n (pc := 166) X 2 dX12_live_166 rfl rfl ?_
              refine a_iadd (pc := 167) X dX12_live_167 ?_
              refine a_iload_n (pc := 168) X 3 dX12_live_168 rfl rfl ?_
              obtain ⟨c_169, h⟩ := x_ck_elim h
              refine a_iast (pc := 169) X 0 rfl rfl rfl c_169 dX12_live_169 ?_
              obtain ⟨m14, e_m14, h⟩ := x_lt_elim h
              refine a_nm (vs2 := [m14]) (congrArg (fun q : XM => [q]) e_m14) ?_
              have h := Option.some.inj h; subst h
              exact a_vret (pc := 170) X trivial dX12_live_170
            · have h := x_ifn c_1_5 h
              refine a_tout (pc := 1) X 171 dX12_live_1 (by have q0 := x_ne c_1_0; have q1 := x_ne c_1_1; have q2 := x_ne c_1_2; have q3 := x_ne c_1_3; have q4 := x_ne c_1_4; have q5 := x_ne c_1_5; have q0 : (x0 : Int32).toInt ≠ 0 := q0; have q1 : (x0 : Int32).toInt ≠ 1 := q1; have q2 : (x0 : Int32).toInt ≠ 2 := q2; have q3 : (x0 : Int32).toInt ≠ 3 := q3; have q4 : (x0 : Int32).toInt ≠ 4 := q4; have q5 : (x0 : Int32).toInt ≠ 5 := q5; omega) rfl ?_
              refine a_aload_n (pc := 171) X 0 dX12_live_171 rfl rfl ?_
              refine a_getR (pc := 172) X 0 2 2 fl_RX12_98 rfl rfl rfl rfl rfl dX12_live_172 ?_
              refine a_bipush (pc := 175) X dX12_live_175 q_bp_71 ?_
              refine a_iload_n (pc := 177) X 2 dX12_live_177 rfl rfl ?_
              refine a_iast (pc := 178) X 0 rfl rfl rfl (x_inl (by decide)) dX12_live_178 ?_
              obtain ⟨m15, e_m15, h⟩ := x_lt_elim h
              refine a_nm (vs2 := [m15]) (congrArg (fun q : XM => [q]) e_m15) ?_
              have h := Option.some.inj h; subst h
              exact a_vret (pc := 179) X trivial dX12_live_179
theorem dX12_act_0 : decode cX12_act 0 = .ok (.iload 4, 2) := by decide +kernel
theorem dX12_act_2 : decode cX12_act 2 = .ok (.ifCond .ne 5, 3) := by decide +kernel
theorem dX12_act_5 : decode cX12_act 5 = .ok (.iconst (-1), 1) := by decide +kernel
theorem dX12_act_6 : decode cX12_act 6 = .ok (.ireturn, 1) := by decide +kernel
theorem dX12_act_7 : decode cX12_act 7 = .ok (.aload_n 0, 1) := by decide +kernel
theorem dX12_act_8 : decode cX12_act 8 = .ok (.iload_n 1, 1) := by decide +kernel
theorem dX12_act_9 : decode cX12_act 9 = .ok (.iload_n 2, 1) := by decide +kernel
theorem dX12_act_10 : decode cX12_act 10 = .ok (.iload_n 3, 1) := by decide +kernel
theorem dX12_act_11 : decode cX12_act 11 = .ok (.invokevirtual 298, 3) := by decide +kernel
theorem dX12_act_14 : decode cX12_act 14 = .ok (.istore 5, 2) := by decide +kernel
theorem dX12_act_16 : decode cX12_act 16 = .ok (.iload 5, 2) := by decide +kernel
theorem dX12_act_18 : decode cX12_act 18 = .ok (.ifCond .eq 6, 3) := by decide +kernel
theorem dX12_act_21 : decode cX12_act 21 = .ok (.iload 5, 2) := by decide +kernel
theorem dX12_act_23 : decode cX12_act 23 = .ok (.ireturn, 1) := by decide +kernel
theorem dX12_act_24 : decode cX12_act 24 = .ok (.aload_n 0, 1) := by decide +kernel
theorem dX12_act_25 : decode cX12_act 25 = .ok (.invokevirtual 301, 3) := by decide +kernel
theorem dX12_act_28 : decode cX12_act 28 = .ok (.aload_n 0, 1) := by decide +kernel
theorem dX12_act_29 : decode cX12_act 29 = .ok (.iload_n 1, 1) := by decide +kernel
theorem dX12_act_30 : decode cX12_act 30 = .ok (.iload_n 2, 1) := by decide +kernel
theorem dX12_act_31 : decode cX12_act 31 = .ok (.iload_n 3, 1) := by decide +kernel
theorem dX12_act_32 : decode cX12_act 32 = .ok (.invokevirtual 304, 3) := by decide +kernel
theorem dX12_act_35 : decode cX12_act 35 = .ok (.iconst 0, 1) := by decide +kernel
theorem dX12_act_36 : decode cX12_act 36 = .ok (.ireturn, 1) := by decide +kernel
def f_X12_act (v0 : XM) (x0 : Int32) (x1 : Int32) (x2 : Int32) (x3 : Int32) : Option (Int32 × XM) :=
  if x3 = (0 : Int32) then
  (some ((-1 : Int32), v0))
  else (x_bo (f_X12_why v0 x0 x1 x2) (fun y1 =>
  if y1 = (0 : Int32) then
  (x_bo (f_X12_snap v0) (fun y2 =>
  x_bo (f_X12_live y2 x0 x1 x2) (fun y3 =>
  some ((0 : Int32), y3))))
  else (some (y1, v0))))
set_option maxRecDepth 100000 in
set_option maxHeartbeats 4000000 in
theorem c_X12_act {l : Launch}  {ad0 : Nat → Nat} {v0 : XM} {x0 : Int32} {x1 : Int32} {x2 : Int32} {x3 : Int32} (hz3 : x_Z x3) {o : Int32 × XM} (h : f_X12_act v0 x0 x1 x2 x3 = some o) : CT l yX12_act cX12_act 6 (some .int) 6 [(shModel, ad0)] [v0] (fun aK => [.ref (ad0 0), .int x0, .int x1, .int x2, .int x3]) (some (.int o.1)) True [o.2] := by
  refine CT_of (by decide) (fun _ => Nat.le_of_ble_eq_true rfl) ?_
  intro p e s m args below meth c D tc aK aV A X
  have X : Cx p s m args meth c cX12_act 6 (some .int) RX12 D tc aK aV A [(shModel, ad0)] := X
  show aW p l e (x_Rm 6) s m args below meth c D tc A 6 [(shModel, ad0)] (some (.int o.1)) True [o.2] 0 [(0, .ref (ad0 0)), (1, .int x0), (2, .int x1), (3, .int x2), (4, .int x3)] [] [v0]
  unfold f_X12_act at h
  refine a_iload (pc := 0) X 4 dX12_act_0 rfl ?_
  refine a_if_ne (pc := 2) X 7 dX12_act_2 rfl (fun c_2 => ?_) (fun c_2 => ?_)
  · have h := x_ifn c_2 h
    refine a_aload_n (pc := 7) X 0 dX12_act_7 rfl rfl ?_
    refine a_iload_n (pc := 8) X 1 dX12_act_8 rfl rfl ?_
    refine a_iload_n (pc := 9) X 2 dX12_act_9 rfl rfl ?_
    refine a_iload_n (pc := 10) X 3 dX12_act_10 rfl rfl ?_
    obtain ⟨y1, e_y1, h⟩ := x_bo_elim h
    refine a_callV (pc := 11) (st2 := [.int y1]) (vs2 := [v0]) X [(0, 0, 20)] [none] 0 0 12 [.int x0, .int x1, .int x2] [] cv_RX12_298 (c_X12_why (ad0 := ad0)  e_y1) rfl rfl rfl rfl rfl rfl rfl rfl rfl rfl rfl rfl rfl rfl rfl (Nat.le_of_ble_eq_true rfl) ⟨Nat.le_of_ble_eq_true rfl, Nat.le_of_ble_eq_true rfl⟩ dX12_act_11 (fun _ => ?_)
    refine a_istore (pc := 14) X [(5, .int y1), (0, .ref (ad0 0)), (1, .int x0), (2, .int x1), (3, .int x2), (4, .int x3)] dX12_act_14 (by decide) rfl ?_
    refine a_iload (pc := 16) X 0 dX12_act_16 rfl ?_
    refine a_if_eq (pc := 18) X 24 dX12_act_18 rfl (fun c_18 => ?_) (fun c_18 => ?_)
    · have h := x_ifp c_18 h
      refine a_aload_n (pc := 24) X 1 dX12_act_24 rfl rfl ?_
      obtain ⟨y2, e_y2, h⟩ := x_bo_elim h
      refine a_callV (pc := 25) (st2 := []) (vs2 := [y2]) X [(0, 0, 20)] [some y2] 0 0 12 [] [] cv_RX12_301 (c_X12_snap (ad0 := ad0)  e_y2) rfl rfl rfl rfl rfl rfl rfl rfl rfl rfl rfl rfl rfl rfl rfl (Nat.le_of_ble_eq_true rfl) ⟨Nat.le_of_ble_eq_true rfl, Nat.le_of_ble_eq_true rfl⟩ dX12_act_25 (fun _ => ?_)
      refine a_aload_n (pc := 28) X 1 dX12_act_28 rfl rfl ?_
      refine a_iload_n (pc := 29) X 2 dX12_act_29 rfl rfl ?_
      refine a_iload_n (pc := 30) X 3 dX12_act_30 rfl rfl ?_
      refine a_iload_n (pc := 31) X 4 dX12_act_31 rfl rfl ?_
      obtain ⟨y3, e_y3, h⟩ := x_bo_elim h
      refine a_callV (pc := 32) (st2 := []) (vs2 := [y3]) X [(0, 0, 20)] [some y3] 0 0 12 [.int x0, .int x1, .int x2] [] cv_RX12_304 (c_X12_live (ad0 := ad0)  e_y3) rfl rfl rfl rfl rfl rfl rfl rfl rfl rfl rfl rfl rfl rfl rfl (Nat.le_of_ble_eq_true rfl) ⟨Nat.le_of_ble_eq_true rfl, Nat.le_of_ble_eq_true rfl⟩ dX12_act_32 (fun _ => ?_)
      refine a_iconst (pc := 35) X dX12_act_35 q_ic_0 ?_
      have h := Option.some.inj h; subst h
      exact a_iret (pc := 36) X trivial dX12_act_36
    · have h := x_ifn c_18 h
      refine a_iload (pc := 21) X 0 dX12_act_21 rfl ?_
      have h := Option.some.inj h; subst h
      exact a_iret (pc := 23) X trivial dX12_act_23
  · have h := x_ifp c_2 h
    refine a_iconst (pc := 5) X dX12_act_5 q_ic_m1 ?_
    have h := Option.some.inj h; subst h
    exact a_iret (pc := 6) X trivial dX12_act_6
theorem dX12_walk_0 : decode cX12_walk 0 = .ok (.aload_n 0, 1) := by decide +kernel
theorem dX12_walk_1 : decode cX12_walk 1 = .ok (.iconst 0, 1) := by decide +kernel
theorem dX12_walk_2 : decode cX12_walk 2 = .ok (.putfield 1, 3) := by decide +kernel
theorem dX12_walk_5 : decode cX12_walk 5 = .ok (.aload_n 0, 1) := by decide +kernel
theorem dX12_walk_6 : decode cX12_walk 6 = .ok (.iconst 0, 1) := by decide +kernel
theorem dX12_walk_7 : decode cX12_walk 7 = .ok (.iload_n 1, 1) := by decide +kernel
theorem dX12_walk_8 : decode cX12_walk 8 = .ok (.iload_n 2, 1) := by decide +kernel
theorem dX12_walk_9 : decode cX12_walk 9 = .ok (.aload_n 0, 1) := by decide +kernel
theorem dX12_walk_10 : decode cX12_walk 10 = .ok (.iload_n 1, 1) := by decide +kernel
theorem dX12_walk_11 : decode cX12_walk 11 = .ok (.invokevirtual 237, 3) := by decide +kernel
theorem dX12_walk_14 : decode cX12_walk 14 = .ok (.ifCond .eq 15, 3) := by decide +kernel
theorem dX12_walk_17 : decode cX12_walk 17 = .ok (.aload_n 0, 1) := by decide +kernel
theorem dX12_walk_18 : decode cX12_walk 18 = .ok (.iload_n 2, 1) := by decide +kernel
theorem dX12_walk_19 : decode cX12_walk 19 = .ok (.invokevirtual 280, 3) := by decide +kernel
theorem dX12_walk_22 : decode cX12_walk 22 = .ok (.ifCond .eq 7, 3) := by decide +kernel
theorem dX12_walk_25 : decode cX12_walk 25 = .ok (.iconst 1, 1) := by decide +kernel
theorem dX12_walk_26 : decode cX12_walk 26 = .ok (.goto 4, 3) := by decide +kernel
theorem dX12_walk_29 : decode cX12_walk 29 = .ok (.iconst 0, 1) := by decide +kernel
theorem dX12_walk_30 : decode cX12_walk 30 = .ok (.invokevirtual 308, 3) := by decide +kernel
theorem dX12_walk_33 : decode cX12_walk 33 = .ok (.ireturn, 1) := by decide +kernel
def f_X12_walk_30 (w0 : XM) (s1 : Int32) (s2 : Int32) (s3 : Int32) (s4 : Int32) : Option (Int32 × XM) :=
  x_bo (f_X12_act w0 s1 s2 s3 s4) (fun y1 =>
  some (y1.1, y1.2))
def f_X12_walk_29 (w0 : XM) (s1 : Int32) (s2 : Int32) (s3 : Int32) : Option (Int32 × XM) :=
  f_X12_walk_30   w0 s1 s2 s3 (0 : Int32)
def f_X12_walk (v0 : XM) (x0 : Int32) (x1 : Int32) : Option (Int32 × XM) :=
  x_lt (x_si v0 0 0 (0 : Int32)) (fun m2 =>
  x_lt (f_X12_isWalker m2 x0) (fun y3 =>
  if y3 = (0 : Int32) then
  (f_X12_walk_29   m2 (0 : Int32) x0 x1)
  else (x_lt (f_X12_isFold m2 x1) (fun y4 =>
  if y4 = (0 : Int32) then
  (f_X12_walk_29   m2 (0 : Int32) x0 x1)
  else (f_X12_walk_30   m2 (0 : Int32) x0 x1 (1 : Int32))))))
set_option maxRecDepth 100000 in
set_option maxHeartbeats 4000000 in
theorem w_X12_walk_30 {p : Program} {l : Launch} {e : Env} {s : State} {m : MethodId} {args : Array Value} {below : List Frame} {meth : Method} {c : Code} {D : va_G} {tc : Nat → ClassId} {aK aV : Nat → Nat} {A : Nat → Prop} {ad0 : Nat → Nat}  (X : Cx p s m args meth c cX12_walk 3 (some .int) RX12 D tc aK aV A [(shModel, ad0)])  {o : Int32 × XM}  {w0 : XM} {s1 : Int32} {s2 : Int32} {s3 : Int32} {s4 : Int32} (hzs1 : x_Z s1) (hzs4 : x_Z s4) (h : f_X12_walk_30   w0 s1 s2 s3 s4 = some o) : aW p l e (x_Rm 7) s m args below meth c D tc A 3 [(shModel, ad0)] (some (.int o.1)) True [o.2] 30 [] [.int s4, .int s3, .int s2, .int s1, .ref (ad0 0)] [w0] := by
  unfold f_X12_walk_30 at h
  obtain ⟨y1, e_y1, h⟩ := x_bo_elim h
  refine a_callV (pc := 30) (st2 := [.int y1.1]) (vs2 := [y1.2]) X [(0, 0, 20)] [some y1.2] 0 0 12 [.int s1, .int s2, .int s3, .int s4] [] cv_RX12_308 (c_X12_act (ad0 := ad0) hzs4 e_y1) rfl rfl rfl rfl rfl rfl rfl rfl rfl rfl rfl rfl rfl rfl rfl (Nat.le_of_ble_eq_true rfl) ⟨Nat.le_of_ble_eq_true rfl, Nat.le_of_ble_eq_true rfl⟩ dX12_walk_30 (fun _ => ?_)
  have h := Option.some.inj h; subst h
  exact a_iret (pc := 33) X trivial dX12_walk_33
set_option maxRecDepth 100000 in
set_option maxHeartbeats 4000000 in
theorem w_X12_walk_29 {p : Program} {l : Launch} {e : Env} {s : State} {m : MethodId} {args : Array Value} {below : List Frame} {meth : Method} {c : Code} {D : va_G} {tc : Nat → ClassId} {aK aV : Nat → Nat} {A : Nat → Prop} {ad0 : Nat → Nat}  (X : Cx p s m args meth c cX12_walk 3 (some .int) RX12 D tc aK aV A [(shModel, ad0)])  {o : Int32 × XM}  {w0 : XM} {s1 : Int32} {s2 : Int32} {s3 : Int32} (hzs1 : x_Z s1) (h : f_X12_walk_29   w0 s1 s2 s3 = some o) : aW p l e (x_Rm 7) s m args below meth c D tc A 3 [(shModel, ad0)] (some (.int o.1)) True [o.2] 29 [] [.int s3, .int s2, .int s1, .ref (ad0 0)] [w0] := by
  unfold f_X12_walk_29 at h
  refine a_iconst (pc := 29) X dX12_walk_29 q_ic_0 ?_
  exact w_X12_walk_30 X    hzs1 x_Z0 h
set_option maxRecDepth 100000 in
set_option maxHeartbeats 4000000 in
theorem c_X12_walk {l : Launch}  {ad0 : Nat → Nat} {v0 : XM} {x0 : Int32} {x1 : Int32}  {o : Int32 × XM} (h : f_X12_walk v0 x0 x1 = some o) : CT l yX12_walk cX12_walk 3 (some .int) 7 [(shModel, ad0)] [v0] (fun aK => [.ref (ad0 0), .int x0, .int x1]) (some (.int o.1)) True [o.2] := by
  refine CT_of (by decide) (fun _ => Nat.le_of_ble_eq_true rfl) ?_
  intro p e s m args below meth c D tc aK aV A X
  have X : Cx p s m args meth c cX12_walk 3 (some .int) RX12 D tc aK aV A [(shModel, ad0)] := X
  show aW p l e (x_Rm 7) s m args below meth c D tc A 3 [(shModel, ad0)] (some (.int o.1)) True [o.2] 0 [(0, .ref (ad0 0)), (1, .int x0), (2, .int x1)] [] [v0]
  unfold f_X12_walk at h
  refine a_aload_n (pc := 0) X 0 dX12_walk_0 rfl rfl ?_
  refine a_iconst (pc := 1) X dX12_walk_1 q_ic_0 ?_
  refine a_putI (pc := 2) X 0 fl_RX12_1 rfl rfl rfl rfl dX12_walk_2 ?_
  obtain ⟨m2, e_m2, h⟩ := x_lt_elim h
  refine a_nm (vs2 := [m2]) (congrArg (fun q : XM => [q]) e_m2) ?_
  refine a_aload_n (pc := 5) X 0 dX12_walk_5 rfl rfl ?_
  refine a_iconst (pc := 6) X dX12_walk_6 q_ic_0 ?_
  refine a_iload_n (pc := 7) X 1 dX12_walk_7 rfl rfl ?_
  refine a_iload_n (pc := 8) X 2 dX12_walk_8 rfl rfl ?_
  refine a_aload_n (pc := 9) X 0 dX12_walk_9 rfl rfl ?_
  refine a_iload_n (pc := 10) X 1 dX12_walk_10 rfl rfl ?_
  obtain ⟨y3, e_y3, h⟩ := x_lt_elim h
  refine a_callV (pc := 11) (st2 := [.int y3, .int x1, .int x0, .int (0 : Int32), .ref (ad0 0)]) (vs2 := [m2]) X [(0, 0, 20)] [none] 0 0 12 [.int x0] [.int x1, .int x0, .int (0 : Int32), .ref (ad0 0)] cv_RX12_237 (c_X12_isWalker (ad0 := ad0)  e_y3) rfl rfl rfl rfl rfl rfl rfl rfl rfl rfl rfl rfl rfl rfl rfl (Nat.le_of_ble_eq_true rfl) ⟨Nat.le_of_ble_eq_true rfl, Nat.le_of_ble_eq_true rfl⟩ dX12_walk_11 (fun z_11 => ?_)
  refine a_if_eq (pc := 14) X 29 dX12_walk_14 rfl (fun c_14 => ?_) (fun c_14 => ?_)
  · have h := x_ifp c_14 h
    refine a_sub [] rfl ?_
    exact w_X12_walk_29 X    x_Z0 h
  · have h := x_ifn c_14 h
    refine a_aload_n (pc := 17) X 0 dX12_walk_17 rfl rfl ?_
    refine a_iload_n (pc := 18) X 2 dX12_walk_18 rfl rfl ?_
    obtain ⟨y4, e_y4, h⟩ := x_lt_elim h
    refine a_callV (pc := 19) (st2 := [.int y4, .int x1, .int x0, .int (0 : Int32), .ref (ad0 0)]) (vs2 := [m2]) X [(0, 0, 20)] [none] 0 0 12 [.int x1] [.int x1, .int x0, .int (0 : Int32), .ref (ad0 0)] cv_RX12_280 (c_X12_isFold (ad0 := ad0)  e_y4) rfl rfl rfl rfl rfl rfl rfl rfl rfl rfl rfl rfl rfl rfl rfl (Nat.le_of_ble_eq_true rfl) ⟨Nat.le_of_ble_eq_true rfl, Nat.le_of_ble_eq_true rfl⟩ dX12_walk_19 (fun z_19 => ?_)
    refine a_if_eq (pc := 22) X 29 dX12_walk_22 rfl (fun c_22 => ?_) (fun c_22 => ?_)
    · have h := x_ifp c_22 h
      refine a_sub [] rfl ?_
      exact w_X12_walk_29 X    x_Z0 h
    · have h := x_ifn c_22 h
      refine a_iconst (pc := 25) X dX12_walk_25 q_ic_1 ?_
      refine a_goto (pc := 26) X 30 dX12_walk_26 rfl ?_
      refine a_sub [] rfl ?_
      exact w_X12_walk_30 X    x_Z0 x_Z1 h
theorem dX12_learn_0 : decode cX12_learn 0 = .ok (.aload_n 0, 1) := by decide +kernel
theorem dX12_learn_1 : decode cX12_learn 1 = .ok (.iconst 0, 1) := by decide +kernel
theorem dX12_learn_2 : decode cX12_learn 2 = .ok (.putfield 1, 3) := by decide +kernel
theorem dX12_learn_5 : decode cX12_learn 5 = .ok (.aload_n 0, 1) := by decide +kernel
theorem dX12_learn_6 : decode cX12_learn 6 = .ok (.iconst 1, 1) := by decide +kernel
theorem dX12_learn_7 : decode cX12_learn 7 = .ok (.iload_n 1, 1) := by decide +kernel
theorem dX12_learn_8 : decode cX12_learn 8 = .ok (.iload_n 2, 1) := by decide +kernel
theorem dX12_learn_9 : decode cX12_learn 9 = .ok (.aload_n 0, 1) := by decide +kernel
theorem dX12_learn_10 : decode cX12_learn 10 = .ok (.iload_n 1, 1) := by decide +kernel
theorem dX12_learn_11 : decode cX12_learn 11 = .ok (.invokevirtual 237, 3) := by decide +kernel
theorem dX12_learn_14 : decode cX12_learn 14 = .ok (.ifCond .eq 15, 3) := by decide +kernel
theorem dX12_learn_17 : decode cX12_learn 17 = .ok (.aload_n 0, 1) := by decide +kernel
theorem dX12_learn_18 : decode cX12_learn 18 = .ok (.iload_n 2, 1) := by decide +kernel
theorem dX12_learn_19 : decode cX12_learn 19 = .ok (.invokevirtual 312, 3) := by decide +kernel
theorem dX12_learn_22 : decode cX12_learn 22 = .ok (.ifCond .eq 7, 3) := by decide +kernel
theorem dX12_learn_25 : decode cX12_learn 25 = .ok (.iconst 1, 1) := by decide +kernel
theorem dX12_learn_26 : decode cX12_learn 26 = .ok (.goto 4, 3) := by decide +kernel
theorem dX12_learn_29 : decode cX12_learn 29 = .ok (.iconst 0, 1) := by decide +kernel
theorem dX12_learn_30 : decode cX12_learn 30 = .ok (.invokevirtual 308, 3) := by decide +kernel
theorem dX12_learn_33 : decode cX12_learn 33 = .ok (.ireturn, 1) := by decide +kernel
def f_X12_learn_30 (w0 : XM) (s1 : Int32) (s2 : Int32) (s3 : Int32) (s4 : Int32) : Option (Int32 × XM) :=
  x_bo (f_X12_act w0 s1 s2 s3 s4) (fun y1 =>
  some (y1.1, y1.2))
def f_X12_learn_29 (w0 : XM) (s1 : Int32) (s2 : Int32) (s3 : Int32) : Option (Int32 × XM) :=
  f_X12_learn_30   w0 s1 s2 s3 (0 : Int32)
def f_X12_learn (v0 : XM) (x0 : Int32) (x1 : Int32) : Option (Int32 × XM) :=
  x_lt (x_si v0 0 0 (0 : Int32)) (fun m2 =>
  x_lt (f_X12_isWalker m2 x0) (fun y3 =>
  if y3 = (0 : Int32) then
  (f_X12_learn_29   m2 (1 : Int32) x0 x1)
  else (x_lt (f_X12_isThing m2 x1) (fun y4 =>
  if y4 = (0 : Int32) then
  (f_X12_learn_29   m2 (1 : Int32) x0 x1)
  else (f_X12_learn_30   m2 (1 : Int32) x0 x1 (1 : Int32))))))
set_option maxRecDepth 100000 in
set_option maxHeartbeats 4000000 in
theorem w_X12_learn_30 {p : Program} {l : Launch} {e : Env} {s : State} {m : MethodId} {args : Array Value} {below : List Frame} {meth : Method} {c : Code} {D : va_G} {tc : Nat → ClassId} {aK aV : Nat → Nat} {A : Nat → Prop} {ad0 : Nat → Nat}  (X : Cx p s m args meth c cX12_learn 3 (some .int) RX12 D tc aK aV A [(shModel, ad0)])  {o : Int32 × XM}  {w0 : XM} {s1 : Int32} {s2 : Int32} {s3 : Int32} {s4 : Int32} (hzs1 : x_Z s1) (hzs4 : x_Z s4) (h : f_X12_learn_30   w0 s1 s2 s3 s4 = some o) : aW p l e (x_Rm 7) s m args below meth c D tc A 3 [(shModel, ad0)] (some (.int o.1)) True [o.2] 30 [] [.int s4, .int s3, .int s2, .int s1, .ref (ad0 0)] [w0] := by
  unfold f_X12_learn_30 at h
  obtain ⟨y1, e_y1, h⟩ := x_bo_elim h
  refine a_callV (pc := 30) (st2 := [.int y1.1]) (vs2 := [y1.2]) X [(0, 0, 20)] [some y1.2] 0 0 12 [.int s1, .int s2, .int s3, .int s4] [] cv_RX12_308 (c_X12_act (ad0 := ad0) hzs4 e_y1) rfl rfl rfl rfl rfl rfl rfl rfl rfl rfl rfl rfl rfl rfl rfl (Nat.le_of_ble_eq_true rfl) ⟨Nat.le_of_ble_eq_true rfl, Nat.le_of_ble_eq_true rfl⟩ dX12_learn_30 (fun _ => ?_)
  have h := Option.some.inj h; subst h
  exact a_iret (pc := 33) X trivial dX12_learn_33
set_option maxRecDepth 100000 in
set_option maxHeartbeats 4000000 in
theorem w_X12_learn_29 {p : Program} {l : Launch} {e : Env} {s : State} {m : MethodId} {args : Array Value} {below : List Frame} {meth : Method} {c : Code} {D : va_G} {tc : Nat → ClassId} {aK aV : Nat → Nat} {A : Nat → Prop} {ad0 : Nat → Nat}  (X : Cx p s m args meth c cX12_learn 3 (some .int) RX12 D tc aK aV A [(shModel, ad0)])  {o : Int32 × XM}  {w0 : XM} {s1 : Int32} {s2 : Int32} {s3 : Int32} (hzs1 : x_Z s1) (h : f_X12_learn_29   w0 s1 s2 s3 = some o) : aW p l e (x_Rm 7) s m args below meth c D tc A 3 [(shModel, ad0)] (some (.int o.1)) True [o.2] 29 [] [.int s3, .int s2, .int s1, .ref (ad0 0)] [w0] := by
  unfold f_X12_learn_29 at h
  refine a_iconst (pc := 29) X dX12_learn_29 q_ic_0 ?_
  exact w_X12_learn_30 X    hzs1 x_Z0 h
set_option maxRecDepth 100000 in
set_option maxHeartbeats 4000000 in
theorem c_X12_learn {l : Launch}  {ad0 : Nat → Nat} {v0 : XM} {x0 : Int32} {x1 : Int32}  {o : Int32 × XM} (h : f_X12_learn v0 x0 x1 = some o) : CT l yX12_learn cX12_learn 3 (some .int) 7 [(shModel, ad0)] [v0] (fun aK => [.ref (ad0 0), .int x0, .int x1]) (some (.int o.1)) True [o.2] := by
  refine CT_of (by decide) (fun _ => Nat.le_of_ble_eq_true rfl) ?_
  intro p e s m args below meth c D tc aK aV A X
  have X : Cx p s m args meth c cX12_learn 3 (some .int) RX12 D tc aK aV A [(shModel, ad0)] := X
  show aW p l e (x_Rm 7) s m args below meth c D tc A 3 [(shModel, ad0)] (some (.int o.1)) True [o.2] 0 [(0, .ref (ad0 0)), (1, .int x0), (2, .int x1)] [] [v0]
  unfold f_X12_learn at h
  refine a_aload_n (pc := 0) X 0 dX12_learn_0 rfl rfl ?_
  refine a_iconst (pc := 1) X dX12_learn_1 q_ic_0 ?_
  refine a_putI (pc := 2) X 0 fl_RX12_1 rfl rfl rfl rfl dX12_learn_2 ?_
  obtain ⟨m2, e_m2, h⟩ := x_lt_elim h
  refine a_nm (vs2 := [m2]) (congrArg (fun q : XM => [q]) e_m2) ?_
  refine a_aload_n (pc := 5) X 0 dX12_learn_5 rfl rfl ?_
  refine a_iconst (pc := 6) X dX12_learn_6 q_ic_1 ?_
  refine a_iload_n (pc := 7) X 1 dX12_learn_7 rfl rfl ?_
  refine a_iload_n (pc := 8) X 2 dX12_learn_8 rfl rfl ?_
  refine a_aload_n (pc := 9) X 0 dX12_learn_9 rfl rfl ?_
  refine a_iload_n (pc := 10) X 1 dX12_learn_10 rfl rfl ?_
  obtain ⟨y3, e_y3, h⟩ := x_lt_elim h
  refine a_callV (pc := 11) (st2 := [.int y3, .int x1, .int x0, .int (1 : Int32), .ref (ad0 0)]) (vs2 := [m2]) X [(0, 0, 20)] [none] 0 0 12 [.int x0] [.int x1, .int x0, .int (1 : Int32), .ref (ad0 0)] cv_RX12_237 (c_X12_isWalker (ad0 := ad0)  e_y3) rfl rfl rfl rfl rfl rfl rfl rfl rfl rfl rfl rfl rfl rfl rfl (Nat.le_of_ble_eq_true rfl) ⟨Nat.le_of_ble_eq_true rfl, Nat.le_of_ble_eq_true rfl⟩ dX12_learn_11 (fun z_11 => ?_)
  refine a_if_eq (pc := 14) X 29 dX12_learn_14 rfl (fun c_14 => ?_) (fun c_14 => ?_)
  · have h := x_ifp c_14 h
    refine a_sub [] rfl ?_
    exact w_X12_learn_29 X    x_Z1 h
  · have h := x_ifn c_14 h
    refine a_aload_n (pc := 17) X 0 dX12_learn_17 rfl rfl ?_
    refine a_iload_n (pc := 18) X 2 dX12_learn_18 rfl rfl ?_
    obtain ⟨y4, e_y4, h⟩ := x_lt_elim h
    refine a_callV (pc := 19) (st2 := [.int y4, .int x1, .int x0, .int (1 : Int32), .ref (ad0 0)]) (vs2 := [m2]) X [(0, 0, 20)] [none] 0 0 12 [.int x1] [.int x1, .int x0, .int (1 : Int32), .ref (ad0 0)] cv_RX12_312 (c_X12_isThing (ad0 := ad0)  e_y4) rfl rfl rfl rfl rfl rfl rfl rfl rfl rfl rfl rfl rfl rfl rfl (Nat.le_of_ble_eq_true rfl) ⟨Nat.le_of_ble_eq_true rfl, Nat.le_of_ble_eq_true rfl⟩ dX12_learn_19 (fun z_19 => ?_)
    refine a_if_eq (pc := 22) X 29 dX12_learn_22 rfl (fun c_22 => ?_) (fun c_22 => ?_)
    · have h := x_ifp c_22 h
      refine a_sub [] rfl ?_
      exact w_X12_learn_29 X    x_Z1 h
    · have h := x_ifn c_22 h
      refine a_iconst (pc := 25) X dX12_learn_25 q_ic_1 ?_
      refine a_goto (pc := 26) X 30 dX12_learn_26 rfl ?_
      refine a_sub [] rfl ?_
      exact w_X12_learn_30 X    x_Z1 x_Z1 h
theorem dX12_tell_0 : decode cX12_tell 0 = .ok (.aload_n 0, 1) := by decide +kernel
theorem dX12_tell_1 : decode cX12_tell 1 = .ok (.iconst 0, 1) := by decide +kernel
theorem dX12_tell_2 : decode cX12_tell 2 = .ok (.putfield 1, 3) := by decide +kernel
theorem dX12_tell_5 : decode cX12_tell 5 = .ok (.aload_n 0, 1) := by decide +kernel
theorem dX12_tell_6 : decode cX12_tell 6 = .ok (.iconst 2, 1) := by decide +kernel
theorem dX12_tell_7 : decode cX12_tell 7 = .ok (.iload_n 1, 1) := by decide +kernel
theorem dX12_tell_8 : decode cX12_tell 8 = .ok (.iload_n 2, 1) := by decide +kernel
theorem dX12_tell_9 : decode cX12_tell 9 = .ok (.aload_n 0, 1) := by decide +kernel
theorem dX12_tell_10 : decode cX12_tell 10 = .ok (.iload_n 1, 1) := by decide +kernel
theorem dX12_tell_11 : decode cX12_tell 11 = .ok (.invokevirtual 237, 3) := by decide +kernel
theorem dX12_tell_14 : decode cX12_tell 14 = .ok (.ifCond .eq 15, 3) := by decide +kernel
theorem dX12_tell_17 : decode cX12_tell 17 = .ok (.aload_n 0, 1) := by decide +kernel
theorem dX12_tell_18 : decode cX12_tell 18 = .ok (.iload_n 2, 1) := by decide +kernel
theorem dX12_tell_19 : decode cX12_tell 19 = .ok (.invokevirtual 237, 3) := by decide +kernel
theorem dX12_tell_22 : decode cX12_tell 22 = .ok (.ifCond .eq 7, 3) := by decide +kernel
theorem dX12_tell_25 : decode cX12_tell 25 = .ok (.iconst 1, 1) := by decide +kernel
theorem dX12_tell_26 : decode cX12_tell 26 = .ok (.goto 4, 3) := by decide +kernel
theorem dX12_tell_29 : decode cX12_tell 29 = .ok (.iconst 0, 1) := by decide +kernel
theorem dX12_tell_30 : decode cX12_tell 30 = .ok (.invokevirtual 308, 3) := by decide +kernel
theorem dX12_tell_33 : decode cX12_tell 33 = .ok (.ireturn, 1) := by decide +kernel
def f_X12_tell_30 (w0 : XM) (s1 : Int32) (s2 : Int32) (s3 : Int32) (s4 : Int32) : Option (Int32 × XM) :=
  x_bo (f_X12_act w0 s1 s2 s3 s4) (fun y1 =>
  some (y1.1, y1.2))
def f_X12_tell_29 (w0 : XM) (s1 : Int32) (s2 : Int32) (s3 : Int32) : Option (Int32 × XM) :=
  f_X12_tell_30   w0 s1 s2 s3 (0 : Int32)
def f_X12_tell (v0 : XM) (x0 : Int32) (x1 : Int32) : Option (Int32 × XM) :=
  x_lt (x_si v0 0 0 (0 : Int32)) (fun m2 =>
  x_lt (f_X12_isWalker m2 x0) (fun y3 =>
  if y3 = (0 : Int32) then
  (f_X12_tell_29   m2 (2 : Int32) x0 x1)
  else (x_lt (f_X12_isWalker m2 x1) (fun y4 =>
  if y4 = (0 : Int32) then
  (f_X12_tell_29   m2 (2 : Int32) x0 x1)
  else (f_X12_tell_30   m2 (2 : Int32) x0 x1 (1 : Int32))))))
set_option maxRecDepth 100000 in
set_option maxHeartbeats 4000000 in
theorem w_X12_tell_30 {p : Program} {l : Launch} {e : Env} {s : State} {m : MethodId} {args : Array Value} {below : List Frame} {meth : Method} {c : Code} {D : va_G} {tc : Nat → ClassId} {aK aV : Nat → Nat} {A : Nat → Prop} {ad0 : Nat → Nat}  (X : Cx p s m args meth c cX12_tell 3 (some .int) RX12 D tc aK aV A [(shModel, ad0)])  {o : Int32 × XM}  {w0 : XM} {s1 : Int32} {s2 : Int32} {s3 : Int32} {s4 : Int32} (hzs4 : x_Z s4) (h : f_X12_tell_30   w0 s1 s2 s3 s4 = some o) : aW p l e (x_Rm 7) s m args below meth c D tc A 3 [(shModel, ad0)] (some (.int o.1)) True [o.2] 30 [] [.int s4, .int s3, .int s2, .int s1, .ref (ad0 0)] [w0] := by
  unfold f_X12_tell_30 at h
  obtain ⟨y1, e_y1, h⟩ := x_bo_elim h
  refine a_callV (pc := 30) (st2 := [.int y1.1]) (vs2 := [y1.2]) X [(0, 0, 20)] [some y1.2] 0 0 12 [.int s1, .int s2, .int s3, .int s4] [] cv_RX12_308 (c_X12_act (ad0 := ad0) hzs4 e_y1) rfl rfl rfl rfl rfl rfl rfl rfl rfl rfl rfl rfl rfl rfl rfl (Nat.le_of_ble_eq_true rfl) ⟨Nat.le_of_ble_eq_true rfl, Nat.le_of_ble_eq_true rfl⟩ dX12_tell_30 (fun _ => ?_)
  have h := Option.some.inj h; subst h
  exact a_iret (pc := 33) X trivial dX12_tell_33
set_option maxRecDepth 100000 in
set_option maxHeartbeats 4000000 in
theorem w_X12_tell_29 {p : Program} {l : Launch} {e : Env} {s : State} {m : MethodId} {args : Array Value} {below : List Frame} {meth : Method} {c : Code} {D : va_G} {tc : Nat → ClassId} {aK aV : Nat → Nat} {A : Nat → Prop} {ad0 : Nat → Nat}  (X : Cx p s m args meth c cX12_tell 3 (some .int) RX12 D tc aK aV A [(shModel, ad0)])  {o : Int32 × XM}  {w0 : XM} {s1 : Int32} {s2 : Int32} {s3 : Int32}  (h : f_X12_tell_29   w0 s1 s2 s3 = some o) : aW p l e (x_Rm 7) s m args below meth c D tc A 3 [(shModel, ad0)] (some (.int o.1)) True [o.2] 29 [] [.int s3, .int s2, .int s1, .ref (ad0 0)] [w0] := by
  unfold f_X12_tell_29 at h
  refine a_iconst (pc := 29) X dX12_tell_29 q_ic_0 ?_
  exact w_X12_tell_30 X    x_Z0 h
set_option maxRecDepth 100000 in
set_option maxHeartbeats 4000000 in
theorem c_X12_tell {l : Launch}  {ad0 : Nat → Nat} {v0 : XM} {x0 : Int32} {x1 : Int32}  {o : Int32 × XM} (h : f_X12_tell v0 x0 x1 = some o) : CT l yX12_tell cX12_tell 3 (some .int) 7 [(shModel, ad0)] [v0] (fun aK => [.ref (ad0 0), .int x0, .int x1]) (some (.int o.1)) True [o.2] := by
  refine CT_of (by decide) (fun _ => Nat.le_of_ble_eq_true rfl) ?_
  intro p e s m args below meth c D tc aK aV A X
  have X : Cx p s m args meth c cX12_tell 3 (some .int) RX12 D tc aK aV A [(shModel, ad0)] := X
  show aW p l e (x_Rm 7) s m args below meth c D tc A 3 [(shModel, ad0)] (some (.int o.1)) True [o.2] 0 [(0, .ref (ad0 0)), (1, .int x0), (2, .int x1)] [] [v0]
  unfold f_X12_tell at h
  refine a_aload_n (pc := 0) X 0 dX12_tell_0 rfl rfl ?_
  refine a_iconst (pc := 1) X dX12_tell_1 q_ic_0 ?_
  refine a_putI (pc := 2) X 0 fl_RX12_1 rfl rfl rfl rfl dX12_tell_2 ?_
  obtain ⟨m2, e_m2, h⟩ := x_lt_elim h
  refine a_nm (vs2 := [m2]) (congrArg (fun q : XM => [q]) e_m2) ?_
  refine a_aload_n (pc := 5) X 0 dX12_tell_5 rfl rfl ?_
  refine a_iconst (pc := 6) X dX12_tell_6 q_ic_2 ?_
  refine a_iload_n (pc := 7) X 1 dX12_tell_7 rfl rfl ?_
  refine a_iload_n (pc := 8) X 2 dX12_tell_8 rfl rfl ?_
  refine a_aload_n (pc := 9) X 0 dX12_tell_9 rfl rfl ?_
  refine a_iload_n (pc := 10) X 1 dX12_tell_10 rfl rfl ?_
  obtain ⟨y3, e_y3, h⟩ := x_lt_elim h
  refine a_callV (pc := 11) (st2 := [.int y3, .int x1, .int x0, .int (2 : Int32), .ref (ad0 0)]) (vs2 := [m2]) X [(0, 0, 20)] [none] 0 0 12 [.int x0] [.int x1, .int x0, .int (2 : Int32), .ref (ad0 0)] cv_RX12_237 (c_X12_isWalker (ad0 := ad0)  e_y3) rfl rfl rfl rfl rfl rfl rfl rfl rfl rfl rfl rfl rfl rfl rfl (Nat.le_of_ble_eq_true rfl) ⟨Nat.le_of_ble_eq_true rfl, Nat.le_of_ble_eq_true rfl⟩ dX12_tell_11 (fun z_11 => ?_)
  refine a_if_eq (pc := 14) X 29 dX12_tell_14 rfl (fun c_14 => ?_) (fun c_14 => ?_)
  · have h := x_ifp c_14 h
    refine a_sub [] rfl ?_
    exact w_X12_tell_29 X     h
  · have h := x_ifn c_14 h
    refine a_aload_n (pc := 17) X 0 dX12_tell_17 rfl rfl ?_
    refine a_iload_n (pc := 18) X 2 dX12_tell_18 rfl rfl ?_
    obtain ⟨y4, e_y4, h⟩ := x_lt_elim h
    refine a_callV (pc := 19) (st2 := [.int y4, .int x1, .int x0, .int (2 : Int32), .ref (ad0 0)]) (vs2 := [m2]) X [(0, 0, 20)] [none] 0 0 12 [.int x1] [.int x1, .int x0, .int (2 : Int32), .ref (ad0 0)] cv_RX12_237 (c_X12_isWalker (ad0 := ad0)  e_y4) rfl rfl rfl rfl rfl rfl rfl rfl rfl rfl rfl rfl rfl rfl rfl (Nat.le_of_ble_eq_true rfl) ⟨Nat.le_of_ble_eq_true rfl, Nat.le_of_ble_eq_true rfl⟩ dX12_tell_19 (fun z_19 => ?_)
    refine a_if_eq (pc := 22) X 29 dX12_tell_22 rfl (fun c_22 => ?_) (fun c_22 => ?_)
    · have h := x_ifp c_22 h
      refine a_sub [] rfl ?_
      exact w_X12_tell_29 X     h
    · have h := x_ifn c_22 h
      refine a_iconst (pc := 25) X dX12_tell_25 q_ic_1 ?_
      refine a_goto (pc := 26) X 30 dX12_tell_26 rfl ?_
      refine a_sub [] rfl ?_
      exact w_X12_tell_30 X    x_Z1 h
theorem dX12_rest_0 : decode cX12_rest 0 = .ok (.aload_n 0, 1) := by decide +kernel
theorem dX12_rest_1 : decode cX12_rest 1 = .ok (.iconst 0, 1) := by decide +kernel
theorem dX12_rest_2 : decode cX12_rest 2 = .ok (.putfield 1, 3) := by decide +kernel
theorem dX12_rest_5 : decode cX12_rest 5 = .ok (.aload_n 0, 1) := by decide +kernel
theorem dX12_rest_6 : decode cX12_rest 6 = .ok (.iconst 3, 1) := by decide +kernel
theorem dX12_rest_7 : decode cX12_rest 7 = .ok (.iload_n 1, 1) := by decide +kernel
theorem dX12_rest_8 : decode cX12_rest 8 = .ok (.iconst 0, 1) := by decide +kernel
theorem dX12_rest_9 : decode cX12_rest 9 = .ok (.aload_n 0, 1) := by decide +kernel
theorem dX12_rest_10 : decode cX12_rest 10 = .ok (.iload_n 1, 1) := by decide +kernel
theorem dX12_rest_11 : decode cX12_rest 11 = .ok (.invokevirtual 237, 3) := by decide +kernel
theorem dX12_rest_14 : decode cX12_rest 14 = .ok (.invokevirtual 308, 3) := by decide +kernel
theorem dX12_rest_17 : decode cX12_rest 17 = .ok (.ireturn, 1) := by decide +kernel
def f_X12_rest (v0 : XM) (x0 : Int32) : Option (Int32 × XM) :=
  x_lt (x_si v0 0 0 (0 : Int32)) (fun m1 =>
  x_lt (f_X12_isWalker m1 x0) (fun y2 =>
  x_bo (f_X12_act m1 (3 : Int32) x0 (0 : Int32) y2) (fun y3 =>
  some (y3.1, y3.2))))
set_option maxRecDepth 100000 in
set_option maxHeartbeats 4000000 in
theorem c_X12_rest {l : Launch}  {ad0 : Nat → Nat} {v0 : XM} {x0 : Int32}  {o : Int32 × XM} (h : f_X12_rest v0 x0 = some o) : CT l yX12_rest cX12_rest 2 (some .int) 7 [(shModel, ad0)] [v0] (fun aK => [.ref (ad0 0), .int x0]) (some (.int o.1)) True [o.2] := by
  refine CT_of (by decide) (fun _ => Nat.le_of_ble_eq_true rfl) ?_
  intro p e s m args below meth c D tc aK aV A X
  have X : Cx p s m args meth c cX12_rest 2 (some .int) RX12 D tc aK aV A [(shModel, ad0)] := X
  show aW p l e (x_Rm 7) s m args below meth c D tc A 2 [(shModel, ad0)] (some (.int o.1)) True [o.2] 0 [(0, .ref (ad0 0)), (1, .int x0)] [] [v0]
  unfold f_X12_rest at h
  refine a_aload_n (pc := 0) X 0 dX12_rest_0 rfl rfl ?_
  refine a_iconst (pc := 1) X dX12_rest_1 q_ic_0 ?_
  refine a_putI (pc := 2) X 0 fl_RX12_1 rfl rfl rfl rfl dX12_rest_2 ?_
  obtain ⟨m1, e_m1, h⟩ := x_lt_elim h
  refine a_nm (vs2 := [m1]) (congrArg (fun q : XM => [q]) e_m1) ?_
  refine a_aload_n (pc := 5) X 0 dX12_rest_5 rfl rfl ?_
  refine a_iconst (pc := 6) X dX12_rest_6 q_ic_3 ?_
  refine a_iload_n (pc := 7) X 1 dX12_rest_7 rfl rfl ?_
  refine a_iconst (pc := 8) X dX12_rest_8 q_ic_0 ?_
  refine a_aload_n (pc := 9) X 0 dX12_rest_9 rfl rfl ?_
  refine a_iload_n (pc := 10) X 1 dX12_rest_10 rfl rfl ?_
  obtain ⟨y2, e_y2, h⟩ := x_lt_elim h
  refine a_callV (pc := 11) (st2 := [.int y2, .int (0 : Int32), .int x0, .int (3 : Int32), .ref (ad0 0)]) (vs2 := [m1]) X [(0, 0, 20)] [none] 0 0 12 [.int x0] [.int (0 : Int32), .int x0, .int (3 : Int32), .ref (ad0 0)] cv_RX12_237 (c_X12_isWalker (ad0 := ad0)  e_y2) rfl rfl rfl rfl rfl rfl rfl rfl rfl rfl rfl rfl rfl rfl rfl (Nat.le_of_ble_eq_true rfl) ⟨Nat.le_of_ble_eq_true rfl, Nat.le_of_ble_eq_true rfl⟩ dX12_rest_11 (fun z_11 => ?_)
  obtain ⟨y3, e_y3, h⟩ := x_bo_elim h
  refine a_callV (pc := 14) (st2 := [.int y3.1]) (vs2 := [y3.2]) X [(0, 0, 20)] [some y3.2] 0 0 12 [.int (3 : Int32), .int x0, .int (0 : Int32), .int y2] [] cv_RX12_308 (c_X12_act (ad0 := ad0) z_11 e_y3) rfl rfl rfl rfl rfl rfl rfl rfl rfl rfl rfl rfl rfl rfl rfl (Nat.le_of_ble_eq_true rfl) ⟨Nat.le_of_ble_eq_true rfl, Nat.le_of_ble_eq_true rfl⟩ dX12_rest_14 (fun _ => ?_)
  have h := Option.some.inj h; subst h
  exact a_iret (pc := 17) X trivial dX12_rest_17
theorem dX12_cream_0 : decode cX12_cream 0 = .ok (.aload_n 0, 1) := by decide +kernel
theorem dX12_cream_1 : decode cX12_cream 1 = .ok (.iconst 0, 1) := by decide +kernel
theorem dX12_cream_2 : decode cX12_cream 2 = .ok (.putfield 1, 3) := by decide +kernel
theorem dX12_cream_5 : decode cX12_cream 5 = .ok (.aload_n 0, 1) := by decide +kernel
theorem dX12_cream_6 : decode cX12_cream 6 = .ok (.iconst 4, 1) := by decide +kernel
theorem dX12_cream_7 : decode cX12_cream 7 = .ok (.iload_n 1, 1) := by decide +kernel
theorem dX12_cream_8 : decode cX12_cream 8 = .ok (.iconst 0, 1) := by decide +kernel
theorem dX12_cream_9 : decode cX12_cream 9 = .ok (.aload_n 0, 1) := by decide +kernel
theorem dX12_cream_10 : decode cX12_cream 10 = .ok (.iload_n 1, 1) := by decide +kernel
theorem dX12_cream_11 : decode cX12_cream 11 = .ok (.invokevirtual 280, 3) := by decide +kernel
theorem dX12_cream_14 : decode cX12_cream 14 = .ok (.invokevirtual 308, 3) := by decide +kernel
theorem dX12_cream_17 : decode cX12_cream 17 = .ok (.ireturn, 1) := by decide +kernel
def f_X12_cream (v0 : XM) (x0 : Int32) : Option (Int32 × XM) :=
  x_lt (x_si v0 0 0 (0 : Int32)) (fun m1 =>
  x_lt (f_X12_isFold m1 x0) (fun y2 =>
  x_bo (f_X12_act m1 (4 : Int32) x0 (0 : Int32) y2) (fun y3 =>
  some (y3.1, y3.2))))
set_option maxRecDepth 100000 in
set_option maxHeartbeats 4000000 in
theorem c_X12_cream {l : Launch}  {ad0 : Nat → Nat} {v0 : XM} {x0 : Int32}  {o : Int32 × XM} (h : f_X12_cream v0 x0 = some o) : CT l yX12_cream cX12_cream 2 (some .int) 7 [(shModel, ad0)] [v0] (fun aK => [.ref (ad0 0), .int x0]) (some (.int o.1)) True [o.2] := by
  refine CT_of (by decide) (fun _ => Nat.le_of_ble_eq_true rfl) ?_
  intro p e s m args below meth c D tc aK aV A X
  have X : Cx p s m args meth c cX12_cream 2 (some .int) RX12 D tc aK aV A [(shModel, ad0)] := X
  show aW p l e (x_Rm 7) s m args below meth c D tc A 2 [(shModel, ad0)] (some (.int o.1)) True [o.2] 0 [(0, .ref (ad0 0)), (1, .int x0)] [] [v0]
  unfold f_X12_cream at h
  refine a_aload_n (pc := 0) X 0 dX12_cream_0 rfl rfl ?_
  refine a_iconst (pc := 1) X dX12_cream_1 q_ic_0 ?_
  refine a_putI (pc := 2) X 0 fl_RX12_1 rfl rfl rfl rfl dX12_cream_2 ?_
  obtain ⟨m1, e_m1, h⟩ := x_lt_elim h
  refine a_nm (vs2 := [m1]) (congrArg (fun q : XM => [q]) e_m1) ?_
  refine a_aload_n (pc := 5) X 0 dX12_cream_5 rfl rfl ?_
  refine a_iconst (pc := 6) X dX12_cream_6 q_ic_4 ?_
  refine a_iload_n (pc := 7) X 1 dX12_cream_7 rfl rfl ?_
  refine a_iconst (pc := 8) X dX12_cream_8 q_ic_0 ?_
  refine a_aload_n (pc := 9) X 0 dX12_cream_9 rfl rfl ?_
  refine a_iload_n (pc := 10) X 1 dX12_cream_10 rfl rfl ?_
  obtain ⟨y2, e_y2, h⟩ := x_lt_elim h
  refine a_callV (pc := 11) (st2 := [.int y2, .int (0 : Int32), .int x0, .int (4 : Int32), .ref (ad0 0)]) (vs2 := [m1]) X [(0, 0, 20)] [none] 0 0 12 [.int x0] [.int (0 : Int32), .int x0, .int (4 : Int32), .ref (ad0 0)] cv_RX12_280 (c_X12_isFold (ad0 := ad0)  e_y2) rfl rfl rfl rfl rfl rfl rfl rfl rfl rfl rfl rfl rfl rfl rfl (Nat.le_of_ble_eq_true rfl) ⟨Nat.le_of_ble_eq_true rfl, Nat.le_of_ble_eq_true rfl⟩ dX12_cream_11 (fun z_11 => ?_)
  obtain ⟨y3, e_y3, h⟩ := x_bo_elim h
  refine a_callV (pc := 14) (st2 := [.int y3.1]) (vs2 := [y3.2]) X [(0, 0, 20)] [some y3.2] 0 0 12 [.int (4 : Int32), .int x0, .int (0 : Int32), .int y2] [] cv_RX12_308 (c_X12_act (ad0 := ad0) z_11 e_y3) rfl rfl rfl rfl rfl rfl rfl rfl rfl rfl rfl rfl rfl rfl rfl (Nat.le_of_ble_eq_true rfl) ⟨Nat.le_of_ble_eq_true rfl, Nat.le_of_ble_eq_true rfl⟩ dX12_cream_14 (fun _ => ?_)
  have h := Option.some.inj h; subst h
  exact a_iret (pc := 17) X trivial dX12_cream_17
theorem dX12_slip_0 : decode cX12_slip 0 = .ok (.aload_n 0, 1) := by decide +kernel
theorem dX12_slip_1 : decode cX12_slip 1 = .ok (.iconst 0, 1) := by decide +kernel
theorem dX12_slip_2 : decode cX12_slip 2 = .ok (.putfield 1, 3) := by decide +kernel
theorem dX12_slip_5 : decode cX12_slip 5 = .ok (.aload_n 0, 1) := by decide +kernel
theorem dX12_slip_6 : decode cX12_slip 6 = .ok (.iconst 5, 1) := by decide +kernel
theorem dX12_slip_7 : decode cX12_slip 7 = .ok (.iload_n 1, 1) := by decide +kernel
theorem dX12_slip_8 : decode cX12_slip 8 = .ok (.iload_n 2, 1) := by decide +kernel
theorem dX12_slip_9 : decode cX12_slip 9 = .ok (.aload_n 0, 1) := by decide +kernel
theorem dX12_slip_10 : decode cX12_slip 10 = .ok (.iload_n 1, 1) := by decide +kernel
theorem dX12_slip_11 : decode cX12_slip 11 = .ok (.invokevirtual 280, 3) := by decide +kernel
theorem dX12_slip_14 : decode cX12_slip 14 = .ok (.ifCond .eq 17, 3) := by decide +kernel
theorem dX12_slip_17 : decode cX12_slip 17 = .ok (.iload_n 2, 1) := by decide +kernel
theorem dX12_slip_18 : decode cX12_slip 18 = .ok (.iconst 1, 1) := by decide +kernel
theorem dX12_slip_19 : decode cX12_slip 19 = .ok (.bipush 30, 2) := by decide +kernel
theorem dX12_slip_21 : decode cX12_slip 21 = .ok (.invokestatic 75, 3) := by decide +kernel
theorem dX12_slip_24 : decode cX12_slip 24 = .ok (.ifCond .eq 7, 3) := by decide +kernel
theorem dX12_slip_27 : decode cX12_slip 27 = .ok (.iconst 1, 1) := by decide +kernel
theorem dX12_slip_28 : decode cX12_slip 28 = .ok (.goto 4, 3) := by decide +kernel
theorem dX12_slip_31 : decode cX12_slip 31 = .ok (.iconst 0, 1) := by decide +kernel
theorem dX12_slip_32 : decode cX12_slip 32 = .ok (.invokevirtual 308, 3) := by decide +kernel
theorem dX12_slip_35 : decode cX12_slip 35 = .ok (.ireturn, 1) := by decide +kernel
def f_X12_slip_32 (w0 : XM) (s1 : Int32) (s2 : Int32) (s3 : Int32) (s4 : Int32) : Option (Int32 × XM) :=
  x_bo (f_X12_act w0 s1 s2 s3 s4) (fun y1 =>
  some (y1.1, y1.2))
def f_X12_slip_31 (w0 : XM) (s1 : Int32) (s2 : Int32) (s3 : Int32) : Option (Int32 × XM) :=
  f_X12_slip_32   w0 s1 s2 s3 (0 : Int32)
def f_X12_slip (v0 : XM) (x0 : Int32) (x1 : Int32) : Option (Int32 × XM) :=
  x_lt (x_si v0 0 0 (0 : Int32)) (fun m2 =>
  x_lt (f_X12_isFold m2 x0) (fun y3 =>
  if y3 = (0 : Int32) then
  (f_X12_slip_31   m2 (5 : Int32) x0 x1)
  else (x_lt (f_X12_isIn x1 (1 : Int32) (30 : Int32)) (fun y4 =>
  if y4 = (0 : Int32) then
  (f_X12_slip_31   m2 (5 : Int32) x0 x1)
  else (f_X12_slip_32   m2 (5 : Int32) x0 x1 (1 : Int32))))))
set_option maxRecDepth 100000 in
set_option maxHeartbeats 4000000 in
theorem w_X12_slip_32 {p : Program} {l : Launch} {e : Env} {s : State} {m : MethodId} {args : Array Value} {below : List Frame} {meth : Method} {c : Code} {D : va_G} {tc : Nat → ClassId} {aK aV : Nat → Nat} {A : Nat → Prop} {ad0 : Nat → Nat}  (X : Cx p s m args meth c cX12_slip 3 (some .int) RX12 D tc aK aV A [(shModel, ad0)])  {o : Int32 × XM}  {w0 : XM} {s1 : Int32} {s2 : Int32} {s3 : Int32} {s4 : Int32} (hzs4 : x_Z s4) (h : f_X12_slip_32   w0 s1 s2 s3 s4 = some o) : aW p l e (x_Rm 7) s m args below meth c D tc A 3 [(shModel, ad0)] (some (.int o.1)) True [o.2] 32 [] [.int s4, .int s3, .int s2, .int s1, .ref (ad0 0)] [w0] := by
  unfold f_X12_slip_32 at h
  obtain ⟨y1, e_y1, h⟩ := x_bo_elim h
  refine a_callV (pc := 32) (st2 := [.int y1.1]) (vs2 := [y1.2]) X [(0, 0, 20)] [some y1.2] 0 0 12 [.int s1, .int s2, .int s3, .int s4] [] cv_RX12_308 (c_X12_act (ad0 := ad0) hzs4 e_y1) rfl rfl rfl rfl rfl rfl rfl rfl rfl rfl rfl rfl rfl rfl rfl (Nat.le_of_ble_eq_true rfl) ⟨Nat.le_of_ble_eq_true rfl, Nat.le_of_ble_eq_true rfl⟩ dX12_slip_32 (fun _ => ?_)
  have h := Option.some.inj h; subst h
  exact a_iret (pc := 35) X trivial dX12_slip_35
set_option maxRecDepth 100000 in
set_option maxHeartbeats 4000000 in
theorem w_X12_slip_31 {p : Program} {l : Launch} {e : Env} {s : State} {m : MethodId} {args : Array Value} {below : List Frame} {meth : Method} {c : Code} {D : va_G} {tc : Nat → ClassId} {aK aV : Nat → Nat} {A : Nat → Prop} {ad0 : Nat → Nat}  (X : Cx p s m args meth c cX12_slip 3 (some .int) RX12 D tc aK aV A [(shModel, ad0)])  {o : Int32 × XM}  {w0 : XM} {s1 : Int32} {s2 : Int32} {s3 : Int32}  (h : f_X12_slip_31   w0 s1 s2 s3 = some o) : aW p l e (x_Rm 7) s m args below meth c D tc A 3 [(shModel, ad0)] (some (.int o.1)) True [o.2] 31 [] [.int s3, .int s2, .int s1, .ref (ad0 0)] [w0] := by
  unfold f_X12_slip_31 at h
  refine a_iconst (pc := 31) X dX12_slip_31 q_ic_0 ?_
  exact w_X12_slip_32 X    x_Z0 h
set_option maxRecDepth 100000 in
set_option maxHeartbeats 4000000 in
theorem c_X12_slip {l : Launch}  {ad0 : Nat → Nat} {v0 : XM} {x0 : Int32} {x1 : Int32}  {o : Int32 × XM} (h : f_X12_slip v0 x0 x1 = some o) : CT l yX12_slip cX12_slip 3 (some .int) 7 [(shModel, ad0)] [v0] (fun aK => [.ref (ad0 0), .int x0, .int x1]) (some (.int o.1)) True [o.2] := by
  refine CT_of (by decide) (fun _ => Nat.le_of_ble_eq_true rfl) ?_
  intro p e s m args below meth c D tc aK aV A X
  have X : Cx p s m args meth c cX12_slip 3 (some .int) RX12 D tc aK aV A [(shModel, ad0)] := X
  show aW p l e (x_Rm 7) s m args below meth c D tc A 3 [(shModel, ad0)] (some (.int o.1)) True [o.2] 0 [(0, .ref (ad0 0)), (1, .int x0), (2, .int x1)] [] [v0]
  unfold f_X12_slip at h
  refine a_aload_n (pc := 0) X 0 dX12_slip_0 rfl rfl ?_
  refine a_iconst (pc := 1) X dX12_slip_1 q_ic_0 ?_
  refine a_putI (pc := 2) X 0 fl_RX12_1 rfl rfl rfl rfl dX12_slip_2 ?_
  obtain ⟨m2, e_m2, h⟩ := x_lt_elim h
  refine a_nm (vs2 := [m2]) (congrArg (fun q : XM => [q]) e_m2) ?_
  refine a_aload_n (pc := 5) X 0 dX12_slip_5 rfl rfl ?_
  refine a_iconst (pc := 6) X dX12_slip_6 q_ic_5 ?_
  refine a_iload_n (pc := 7) X 1 dX12_slip_7 rfl rfl ?_
  refine a_iload_n (pc := 8) X 2 dX12_slip_8 rfl rfl ?_
  refine a_aload_n (pc := 9) X 0 dX12_slip_9 rfl rfl ?_
  refine a_iload_n (pc := 10) X 1 dX12_slip_10 rfl rfl ?_
  obtain ⟨y3, e_y3, h⟩ := x_lt_elim h
  refine a_callV (pc := 11) (st2 := [.int y3, .int x1, .int x0, .int (5 : Int32), .ref (ad0 0)]) (vs2 := [m2]) X [(0, 0, 20)] [none] 0 0 12 [.int x0] [.int x1, .int x0, .int (5 : Int32), .ref (ad0 0)] cv_RX12_280 (c_X12_isFold (ad0 := ad0)  e_y3) rfl rfl rfl rfl rfl rfl rfl rfl rfl rfl rfl rfl rfl rfl rfl (Nat.le_of_ble_eq_true rfl) ⟨Nat.le_of_ble_eq_true rfl, Nat.le_of_ble_eq_true rfl⟩ dX12_slip_11 (fun z_11 => ?_)
  refine a_if_eq (pc := 14) X 31 dX12_slip_14 rfl (fun c_14 => ?_) (fun c_14 => ?_)
  · have h := x_ifp c_14 h
    refine a_sub [] rfl ?_
    exact w_X12_slip_31 X     h
  · have h := x_ifn c_14 h
    refine a_iload_n (pc := 17) X 2 dX12_slip_17 rfl rfl ?_
    refine a_iconst (pc := 18) X dX12_slip_18 q_ic_1 ?_
    refine a_bipush (pc := 19) X dX12_slip_19 q_bp_30 ?_
    obtain ⟨y4, e_y4, h⟩ := x_lt_elim h
    refine a_callS (pc := 21) (st2 := [.int y4, .int x1, .int x0, .int (5 : Int32), .ref (ad0 0)]) (vs2 := [m2]) X [] [] [.int x1, .int (1 : Int32), .int (30 : Int32)] [.int x1, .int x0, .int (5 : Int32), .ref (ad0 0)] cv_RX12_75 (c_X12_isIn   e_y4) rfl rfl rfl rfl rfl rfl rfl rfl rfl rfl rfl (Nat.le_of_ble_eq_true rfl) ⟨Nat.le_of_ble_eq_true rfl, Nat.le_of_ble_eq_true rfl⟩ dX12_slip_21 (fun z_21 => ?_)
    refine a_if_eq (pc := 24) X 31 dX12_slip_24 rfl (fun c_24 => ?_) (fun c_24 => ?_)
    · have h := x_ifp c_24 h
      refine a_sub [] rfl ?_
      exact w_X12_slip_31 X     h
    · have h := x_ifn c_24 h
      refine a_iconst (pc := 27) X dX12_slip_27 q_ic_1 ?_
      refine a_goto (pc := 28) X 32 dX12_slip_28 rfl ?_
      refine a_sub [] rfl ?_
      exact w_X12_slip_32 X    x_Z1 h
theorem dX12_mood_0 : decode cX12_mood 0 = .ok (.aload_n 0, 1) := by decide +kernel
theorem dX12_mood_1 : decode cX12_mood 1 = .ok (.iconst 0, 1) := by decide +kernel
theorem dX12_mood_2 : decode cX12_mood 2 = .ok (.putfield 1, 3) := by decide +kernel
theorem dX12_mood_5 : decode cX12_mood 5 = .ok (.aload_n 0, 1) := by decide +kernel
theorem dX12_mood_6 : decode cX12_mood 6 = .ok (.bipush 6, 2) := by decide +kernel
theorem dX12_mood_8 : decode cX12_mood 8 = .ok (.iload_n 1, 1) := by decide +kernel
theorem dX12_mood_9 : decode cX12_mood 9 = .ok (.iconst 0, 1) := by decide +kernel
theorem dX12_mood_10 : decode cX12_mood 10 = .ok (.iload_n 1, 1) := by decide +kernel
theorem dX12_mood_11 : decode cX12_mood 11 = .ok (.iconst 0, 1) := by decide +kernel
theorem dX12_mood_12 : decode cX12_mood 12 = .ok (.iconst 2, 1) := by decide +kernel
theorem dX12_mood_13 : decode cX12_mood 13 = .ok (.invokestatic 75, 3) := by decide +kernel
theorem dX12_mood_16 : decode cX12_mood 16 = .ok (.invokevirtual 308, 3) := by decide +kernel
theorem dX12_mood_19 : decode cX12_mood 19 = .ok (.ireturn, 1) := by decide +kernel
def f_X12_mood (v0 : XM) (x0 : Int32) : Option (Int32 × XM) :=
  x_lt (x_si v0 0 0 (0 : Int32)) (fun m1 =>
  x_lt (f_X12_isIn x0 (0 : Int32) (2 : Int32)) (fun y2 =>
  x_bo (f_X12_act m1 (6 : Int32) x0 (0 : Int32) y2) (fun y3 =>
  some (y3.1, y3.2))))
set_option maxRecDepth 100000 in
set_option maxHeartbeats 4000000 in
theorem c_X12_mood {l : Launch}  {ad0 : Nat → Nat} {v0 : XM} {x0 : Int32}  {o : Int32 × XM} (h : f_X12_mood v0 x0 = some o) : CT l yX12_mood cX12_mood 2 (some .int) 7 [(shModel, ad0)] [v0] (fun aK => [.ref (ad0 0), .int x0]) (some (.int o.1)) True [o.2] := by
  refine CT_of (by decide) (fun _ => Nat.le_of_ble_eq_true rfl) ?_
  intro p e s m args below meth c D tc aK aV A X
  have X : Cx p s m args meth c cX12_mood 2 (some .int) RX12 D tc aK aV A [(shModel, ad0)] := X
  show aW p l e (x_Rm 7) s m args below meth c D tc A 2 [(shModel, ad0)] (some (.int o.1)) True [o.2] 0 [(0, .ref (ad0 0)), (1, .int x0)] [] [v0]
  unfold f_X12_mood at h
  refine a_aload_n (pc := 0) X 0 dX12_mood_0 rfl rfl ?_
  refine a_iconst (pc := 1) X dX12_mood_1 q_ic_0 ?_
  refine a_putI (pc := 2) X 0 fl_RX12_1 rfl rfl rfl rfl dX12_mood_2 ?_
  obtain ⟨m1, e_m1, h⟩ := x_lt_elim h
  refine a_nm (vs2 := [m1]) (congrArg (fun q : XM => [q]) e_m1) ?_
  refine a_aload_n (pc := 5) X 0 dX12_mood_5 rfl rfl ?_
  refine a_bipush (pc := 6) X dX12_mood_6 q_bp_6 ?_
  refine a_iload_n (pc := 8) X 1 dX12_mood_8 rfl rfl ?_
  refine a_iconst (pc := 9) X dX12_mood_9 q_ic_0 ?_
  refine a_iload_n (pc := 10) X 1 dX12_mood_10 rfl rfl ?_
  refine a_iconst (pc := 11) X dX12_mood_11 q_ic_0 ?_
  refine a_iconst (pc := 12) X dX12_mood_12 q_ic_2 ?_
  obtain ⟨y2, e_y2, h⟩ := x_lt_elim h
  refine a_callS (pc := 13) (st2 := [.int y2, .int (0 : Int32), .int x0, .int (6 : Int32), .ref (ad0 0)]) (vs2 := [m1]) X [] [] [.int x0, .int (0 : Int32), .int (2 : Int32)] [.int (0 : Int32), .int x0, .int (6 : Int32), .ref (ad0 0)] cv_RX12_75 (c_X12_isIn   e_y2) rfl rfl rfl rfl rfl rfl rfl rfl rfl rfl rfl (Nat.le_of_ble_eq_true rfl) ⟨Nat.le_of_ble_eq_true rfl, Nat.le_of_ble_eq_true rfl⟩ dX12_mood_13 (fun z_13 => ?_)
  obtain ⟨y3, e_y3, h⟩ := x_bo_elim h
  refine a_callV (pc := 16) (st2 := [.int y3.1]) (vs2 := [y3.2]) X [(0, 0, 20)] [some y3.2] 0 0 12 [.int (6 : Int32), .int x0, .int (0 : Int32), .int y2] [] cv_RX12_308 (c_X12_act (ad0 := ad0) z_13 e_y3) rfl rfl rfl rfl rfl rfl rfl rfl rfl rfl rfl rfl rfl rfl rfl (Nat.le_of_ble_eq_true rfl) ⟨Nat.le_of_ble_eq_true rfl, Nat.le_of_ble_eq_true rfl⟩ dX12_mood_16 (fun _ => ?_)
  have h := Option.some.inj h; subst h
  exact a_iret (pc := 19) X trivial dX12_mood_19
theorem dX12_undo_0 : decode cX12_undo 0 = .ok (.aload_n 0, 1) := by decide +kernel
theorem dX12_undo_1 : decode cX12_undo 1 = .ok (.iconst 0, 1) := by decide +kernel
theorem dX12_undo_2 : decode cX12_undo 2 = .ok (.putfield 1, 3) := by decide +kernel
theorem dX12_undo_5 : decode cX12_undo 5 = .ok (.aload_n 0, 1) := by decide +kernel
theorem dX12_undo_6 : decode cX12_undo 6 = .ok (.getfield 234, 3) := by decide +kernel
theorem dX12_undo_9 : decode cX12_undo 9 = .ok (.ifCond .ne 5, 3) := by decide +kernel
theorem dX12_undo_12 : decode cX12_undo 12 = .ok (.iconst (-1), 1) := by decide +kernel
theorem dX12_undo_13 : decode cX12_undo 13 = .ok (.ireturn, 1) := by decide +kernel
theorem dX12_undo_14 : decode cX12_undo 14 = .ok (.aload_n 0, 1) := by decide +kernel
theorem dX12_undo_15 : decode cX12_undo 15 = .ok (.dup, 1) := by decide +kernel
theorem dX12_undo_16 : decode cX12_undo 16 = .ok (.getfield 234, 3) := by decide +kernel
theorem dX12_undo_19 : decode cX12_undo 19 = .ok (.iconst 1, 1) := by decide +kernel
theorem dX12_undo_20 : decode cX12_undo 20 = .ok (.isub, 1) := by decide +kernel
theorem dX12_undo_21 : decode cX12_undo 21 = .ok (.putfield 234, 3) := by decide +kernel
theorem dX12_undo_24 : decode cX12_undo 24 = .ok (.iconst 0, 1) := by decide +kernel
theorem dX12_undo_25 : decode cX12_undo 25 = .ok (.istore_n 1, 1) := by decide +kernel
theorem dX12_undo_26 : decode cX12_undo 26 = .ok (.iload_n 1, 1) := by decide +kernel
theorem dX12_undo_27 : decode cX12_undo 27 = .ok (.bipush 41, 2) := by decide +kernel
theorem dX12_undo_29 : decode cX12_undo 29 = .ok (.if_icmp .ge 32, 3) := by decide +kernel
theorem dX12_undo_32 : decode cX12_undo 32 = .ok (.aload_n 0, 1) := by decide +kernel
theorem dX12_undo_33 : decode cX12_undo 33 = .ok (.getfield 98, 3) := by decide +kernel
theorem dX12_undo_36 : decode cX12_undo 36 = .ok (.bipush 70, 2) := by decide +kernel
theorem dX12_undo_38 : decode cX12_undo 38 = .ok (.iload_n 1, 1) := by decide +kernel
theorem dX12_undo_39 : decode cX12_undo 39 = .ok (.iadd, 1) := by decide +kernel
theorem dX12_undo_40 : decode cX12_undo 40 = .ok (.aload_n 0, 1) := by decide +kernel
theorem dX12_undo_41 : decode cX12_undo 41 = .ok (.getfield 107, 3) := by decide +kernel
theorem dX12_undo_44 : decode cX12_undo 44 = .ok (.bipush 41, 2) := by decide +kernel
theorem dX12_undo_46 : decode cX12_undo 46 = .ok (.aload_n 0, 1) := by decide +kernel
theorem dX12_undo_47 : decode cX12_undo 47 = .ok (.getfield 234, 3) := by decide +kernel
theorem dX12_undo_50 : decode cX12_undo 50 = .ok (.imul, 1) := by decide +kernel
theorem dX12_undo_51 : decode cX12_undo 51 = .ok (.iload_n 1, 1) := by decide +kernel
theorem dX12_undo_52 : decode cX12_undo 52 = .ok (.iadd, 1) := by decide +kernel
theorem dX12_undo_53 : decode cX12_undo 53 = .ok (.iaload, 1) := by decide +kernel
theorem dX12_undo_54 : decode cX12_undo 54 = .ok (.iastore, 1) := by decide +kernel
theorem dX12_undo_55 : decode cX12_undo 55 = .ok (.iinc 1 1, 3) := by decide +kernel
theorem dX12_undo_58 : decode cX12_undo 58 = .ok (.goto (-32), 3) := by decide +kernel
theorem dX12_undo_61 : decode cX12_undo 61 = .ok (.aload_n 0, 1) := by decide +kernel
theorem dX12_undo_62 : decode cX12_undo 62 = .ok (.getfield 234, 3) := by decide +kernel
theorem dX12_undo_65 : decode cX12_undo 65 = .ok (.ireturn, 1) := by decide +kernel
def f_X12_undo_26 (k26 : XM → Int32 → Option (Int32 × XM)) (w0 : XM) (l1 : Int32) : Option (Int32 × XM) :=
  if ((41 : Int32) : Int32) ≤ l1 then
  (some (w0.1 0 24, w0))
  else (x_ck (((41 : Int32) * (w0.1 0 24)) + l1) 328 (
  x_ck ((70 : Int32) + l1) 353 (
  x_lt (x_pa w0 2 ((70 : Int32) + l1) (x_ga w0 5 (((41 : Int32) * (w0.1 0 24)) + l1))) (fun m1 =>
  k26 m1 (l1 + 1)))))
def f_X12_undo (v0 : XM) : Option (Int32 × XM) :=
  x_lt (x_si v0 0 0 (0 : Int32)) (fun m2 =>
  if (m2.1 0 24) = (0 : Int32) then
  (some ((-1 : Int32), m2))
  else (x_lt (x_si m2 0 24 ((m2.1 0 24) - (1 : Int32))) (fun m3 =>
  x_lp (φ := XM → Int32 → Option (Int32 × XM)) (fun _ _ => none) (f_X12_undo_26  ) x_NN m3 (0 : Int32))))
set_option maxRecDepth 100000 in
set_option maxHeartbeats 4000000 in
theorem w_X12_undo_26 {p : Program} {l : Launch} {e : Env} {s : State} {m : MethodId} {args : Array Value} {below : List Frame} {meth : Method} {c : Code} {D : va_G} {tc : Nat → ClassId} {aK aV : Nat → Nat} {A : Nat → Prop} {ad0 : Nat → Nat}  (X : Cx p s m args meth c cX12_undo 2 (some .int) RX12 D tc aK aV A [(shModel, ad0)])  {o : Int32 × XM}  : ∀ (n : Nat), ∀ (w0 : XM) (l1 : Int32), x_lp (φ := XM → Int32 → Option (Int32 × XM)) (fun _ _ => none) (f_X12_undo_26  ) n w0 l1 = some o → aW p l e (x_Rm 0) s m args below meth c D tc A 2 [(shModel, ad0)] (some (.int o.1)) True [o.2] 26 [(0, .ref (ad0 0)), (1, .int l1)] [] [w0] := by
  intro n
  induction n with
  | zero => intro w0 l1 h; exact absurd h (fun q => by cases q)
  | succ n ih =>
    intro w0 l1 h
    have h : f_X12_undo_26   (x_lp (φ := XM → Int32 → Option (Int32 × XM)) (fun _ _ => none) (f_X12_undo_26  ) n) w0 l1 = some o := h
    generalize x_lp (φ := XM → Int32 → Option (Int32 × XM)) (fun _ _ => none) (f_X12_undo_26  ) n = k26 at h ih
    have hk26 := ih
    unfold f_X12_undo_26 at h
    refine a_iload_n (pc := 26) X 1 dX12_undo_26 rfl rfl ?_
    refine a_bipush (pc := 27) X dX12_undo_27 q_bp_41 ?_
    refine a_icmp_ge (pc := 29) X 61 dX12_undo_29 rfl (fun c_29 => ?_) (fun c_29 => ?_)
    · have h := x_ifp c_29 h
      refine a_aload_n (pc := 61) X 0 dX12_undo_61 rfl rfl ?_
      refine a_getI (pc := 62) X 0 fl_RX12_234 rfl rfl rfl rfl dX12_undo_62 ?_
      have h := Option.some.inj h; subst h
      exact a_iret (pc := 65) X trivial dX12_undo_65
    · have h := x_ifn c_29 h
      refine a_aload_n (pc := 32) X 0 dX12_undo_32 rfl rfl ?_
      refine a_getR (pc := 33) X 0 2 2 fl_RX12_98 rfl rfl rfl rfl rfl dX12_undo_33 ?_
      refine a_bipush (pc := 36) X dX12_undo_36 q_bp_70 ?_
      refine a_iload_n (pc := 38) X 1 dX12_undo_38 rfl rfl ?_
      refine a_iadd (pc := 39) X dX12_undo_39 ?_
      refine a_aload_n (pc := 40) X 0 dX12_undo_40 rfl rfl ?_
      refine a_getR (pc := 41) X 0 5 5 fl_RX12_107 rfl rfl rfl rfl rfl dX12_undo_41 ?_
      refine a_bipush (pc := 44) X dX12_undo_44 q_bp_41 ?_
      refine a_aload_n (pc := 46) X 0 dX12_undo_46 rfl rfl ?_
      refine a_getI (pc := 47) X 0 fl_RX12_234 rfl rfl rfl rfl dX12_undo_47 ?_
      refine a_imul (pc := 50) X dX12_undo_50 ?_
      refine a_iload_n (pc := 51) X 1 dX12_undo_51 rfl rfl ?_
      refine a_iadd (pc := 52) X dX12_undo_52 ?_
      obtain ⟨c_53, h⟩ := x_ck_elim h
      refine a_iald (pc := 53) X 0 rfl rfl rfl c_53 dX12_undo_53 ?_
      obtain ⟨c_54, h⟩ := x_ck_elim h
      refine a_iast (pc := 54) X 0 rfl rfl rfl c_54 dX12_undo_54 ?_
      obtain ⟨m1, e_m1, h⟩ := x_lt_elim h
      refine a_nm (vs2 := [m1]) (congrArg (fun q : XM => [q]) e_m1) ?_
      refine a_iinc (pc := 55) X 1 [(1, .int (l1 + 1)), (0, .ref (ad0 0))] dX12_undo_55 rfl (congrArg (HAdd.hAdd l1) q_ic_1) (by decide) rfl ?_
      refine a_goto (pc := 58) X 26 dX12_undo_58 rfl ?_
      refine a_sub [1, 0] rfl ?_
      exact hk26 _ _ h
set_option maxRecDepth 100000 in
set_option maxHeartbeats 4000000 in
theorem c_X12_undo {l : Launch}  {ad0 : Nat → Nat} {v0 : XM}   {o : Int32 × XM} (h : f_X12_undo v0 = some o) : CT l yX12_undo cX12_undo 2 (some .int) 0 [(shModel, ad0)] [v0] (fun aK => [.ref (ad0 0)]) (some (.int o.1)) True [o.2] := by
  refine CT_of (by decide) (fun _ => Nat.le_of_ble_eq_true rfl) ?_
  intro p e s m args below meth c D tc aK aV A X
  have X : Cx p s m args meth c cX12_undo 2 (some .int) RX12 D tc aK aV A [(shModel, ad0)] := X
  show aW p l e (x_Rm 0) s m args below meth c D tc A 2 [(shModel, ad0)] (some (.int o.1)) True [o.2] 0 [(0, .ref (ad0 0))] [] [v0]
  unfold f_X12_undo at h
  refine a_aload_n (pc := 0) X 0 dX12_undo_0 rfl rfl ?_
  refine a_iconst (pc := 1) X dX12_undo_1 q_ic_0 ?_
  refine a_putI (pc := 2) X 0 fl_RX12_1 rfl rfl rfl rfl dX12_undo_2 ?_
  obtain ⟨m2, e_m2, h⟩ := x_lt_elim h
  refine a_nm (vs2 := [m2]) (congrArg (fun q : XM => [q]) e_m2) ?_
  refine a_aload_n (pc := 5) X 0 dX12_undo_5 rfl rfl ?_
  refine a_getI (pc := 6) X 0 fl_RX12_234 rfl rfl rfl rfl dX12_undo_6 ?_
  refine a_if_ne (pc := 9) X 14 dX12_undo_9 rfl (fun c_9 => ?_) (fun c_9 => ?_)
  · have h := x_ifn c_9 h
    refine a_aload_n (pc := 14) X 0 dX12_undo_14 rfl rfl ?_
    refine a_dup (pc := 15) X dX12_undo_15 rfl ?_
    refine a_getI (pc := 16) X 0 fl_RX12_234 rfl rfl rfl rfl dX12_undo_16 ?_
    refine a_iconst (pc := 19) X dX12_undo_19 q_ic_1 ?_
    refine a_isub (pc := 20) X dX12_undo_20 ?_
    refine a_putI (pc := 21) X 0 fl_RX12_234 rfl rfl rfl rfl dX12_undo_21 ?_
    obtain ⟨m3, e_m3, h⟩ := x_lt_elim h
    refine a_nm (vs2 := [m3]) (congrArg (fun q : XM => [q]) e_m3) ?_
    refine a_iconst (pc := 24) X dX12_undo_24 q_ic_0 ?_
    refine a_istore_n (pc := 25) X [(1, .int (0 : Int32)), (0, .ref (ad0 0))] dX12_undo_25 rfl (by decide) rfl ?_
    refine a_sub [1, 0] rfl ?_
    exact w_X12_undo_26 X    x_NN _ _ h
  · have h := x_ifp c_9 h
    refine a_iconst (pc := 12) X dX12_undo_12 q_ic_m1 ?_
    have h := Option.some.inj h; subst h
    exact a_iret (pc := 13) X trivial dX12_undo_13
theorem dX12_goesOn_0 : decode cX12_goesOn 0 = .ok (.aload_n 0, 1) := by decide +kernel
theorem dX12_goesOn_1 : decode cX12_goesOn 1 = .ok (.iload_n 1, 1) := by decide +kernel
theorem dX12_goesOn_2 : decode cX12_goesOn 2 = .ok (.invokevirtual 240, 3) := by decide +kernel
theorem dX12_goesOn_5 : decode cX12_goesOn 5 = .ok (.ifCond .ne 4, 3) := by decide +kernel
theorem dX12_goesOn_8 : decode cX12_goesOn 8 = .ok (.return_, 1) := by decide +kernel
theorem dX12_goesOn_9 : decode cX12_goesOn 9 = .ok (.aload_n 0, 1) := by decide +kernel
theorem dX12_goesOn_10 : decode cX12_goesOn 10 = .ok (.getfield 98, 3) := by decide +kernel
theorem dX12_goesOn_13 : decode cX12_goesOn 13 = .ok (.bipush 89, 2) := by decide +kernel
theorem dX12_goesOn_15 : decode cX12_goesOn 15 = .ok (.iload_n 1, 1) := by decide +kernel
theorem dX12_goesOn_16 : decode cX12_goesOn 16 = .ok (.iadd, 1) := by decide +kernel
theorem dX12_goesOn_17 : decode cX12_goesOn 17 = .ok (.dup2, 1) := by decide +kernel
theorem dX12_goesOn_18 : decode cX12_goesOn 18 = .ok (.iaload, 1) := by decide +kernel
theorem dX12_goesOn_19 : decode cX12_goesOn 19 = .ok (.iconst 1, 1) := by decide +kernel
theorem dX12_goesOn_20 : decode cX12_goesOn 20 = .ok (.iadd, 1) := by decide +kernel
theorem dX12_goesOn_21 : decode cX12_goesOn 21 = .ok (.iastore, 1) := by decide +kernel
theorem dX12_goesOn_22 : decode cX12_goesOn 22 = .ok (.aload_n 0, 1) := by decide +kernel
theorem dX12_goesOn_23 : decode cX12_goesOn 23 = .ok (.getfield 98, 3) := by decide +kernel
theorem dX12_goesOn_26 : decode cX12_goesOn 26 = .ok (.bipush 84, 2) := by decide +kernel
theorem dX12_goesOn_28 : decode cX12_goesOn 28 = .ok (.iload_n 1, 1) := by decide +kernel
theorem dX12_goesOn_29 : decode cX12_goesOn 29 = .ok (.iadd, 1) := by decide +kernel
theorem dX12_goesOn_30 : decode cX12_goesOn 30 = .ok (.dup2, 1) := by decide +kernel
theorem dX12_goesOn_31 : decode cX12_goesOn 31 = .ok (.iaload, 1) := by decide +kernel
theorem dX12_goesOn_32 : decode cX12_goesOn 32 = .ok (.iconst 1, 1) := by decide +kernel
theorem dX12_goesOn_33 : decode cX12_goesOn 33 = .ok (.isub, 1) := by decide +kernel
theorem dX12_goesOn_34 : decode cX12_goesOn 34 = .ok (.iastore, 1) := by decide +kernel
theorem dX12_goesOn_35 : decode cX12_goesOn 35 = .ok (.aload_n 0, 1) := by decide +kernel
theorem dX12_goesOn_36 : decode cX12_goesOn 36 = .ok (.getfield 98, 3) := by decide +kernel
theorem dX12_goesOn_39 : decode cX12_goesOn 39 = .ok (.bipush 84, 2) := by decide +kernel
theorem dX12_goesOn_41 : decode cX12_goesOn 41 = .ok (.iload_n 1, 1) := by decide +kernel
theorem dX12_goesOn_42 : decode cX12_goesOn 42 = .ok (.iadd, 1) := by decide +kernel
theorem dX12_goesOn_43 : decode cX12_goesOn 43 = .ok (.iaload, 1) := by decide +kernel
theorem dX12_goesOn_44 : decode cX12_goesOn 44 = .ok (.ifCond .le 4, 3) := by decide +kernel
theorem dX12_goesOn_47 : decode cX12_goesOn 47 = .ok (.return_, 1) := by decide +kernel
theorem dX12_goesOn_48 : decode cX12_goesOn 48 = .ok (.aload_n 0, 1) := by decide +kernel
theorem dX12_goesOn_49 : decode cX12_goesOn 49 = .ok (.getfield 98, 3) := by decide +kernel
theorem dX12_goesOn_52 : decode cX12_goesOn 52 = .ok (.bipush 79, 2) := by decide +kernel
theorem dX12_goesOn_54 : decode cX12_goesOn 54 = .ok (.iload_n 1, 1) := by decide +kernel
theorem dX12_goesOn_55 : decode cX12_goesOn 55 = .ok (.iadd, 1) := by decide +kernel
theorem dX12_goesOn_56 : decode cX12_goesOn 56 = .ok (.iconst (-1), 1) := by decide +kernel
theorem dX12_goesOn_57 : decode cX12_goesOn 57 = .ok (.iastore, 1) := by decide +kernel
theorem dX12_goesOn_58 : decode cX12_goesOn 58 = .ok (.aload_n 0, 1) := by decide +kernel
theorem dX12_goesOn_59 : decode cX12_goesOn 59 = .ok (.getfield 98, 3) := by decide +kernel
theorem dX12_goesOn_62 : decode cX12_goesOn 62 = .ok (.bipush 73, 2) := by decide +kernel
theorem dX12_goesOn_64 : decode cX12_goesOn 64 = .ok (.dup2, 1) := by decide +kernel
theorem dX12_goesOn_65 : decode cX12_goesOn 65 = .ok (.iaload, 1) := by decide +kernel
theorem dX12_goesOn_66 : decode cX12_goesOn 66 = .ok (.iconst 1, 1) := by decide +kernel
theorem dX12_goesOn_67 : decode cX12_goesOn 67 = .ok (.iadd, 1) := by decide +kernel
theorem dX12_goesOn_68 : decode cX12_goesOn 68 = .ok (.iastore, 1) := by decide +kernel
theorem dX12_goesOn_69 : decode cX12_goesOn 69 = .ok (.return_, 1) := by decide +kernel
def f_X12_goesOn (v0 : XM) (x0 : Int32) : Option (XM) :=
  x_bo (f_X12_isGoing v0 x0) (fun y1 =>
  if y1 = (0 : Int32) then
  (some v0)
  else (x_ck ((89 : Int32) + x0) 353 (
  x_lt ((x_ga v0 2 ((89 : Int32) + x0)) + (1 : Int32)) (fun y2 =>
  x_ck ((89 : Int32) + x0) 353 (
  x_lt (x_pa v0 2 ((89 : Int32) + x0) y2) (fun m3 =>
  x_ck ((84 : Int32) + x0) 353 (
  x_lt ((x_ga m3 2 ((84 : Int32) + x0)) - (1 : Int32)) (fun y4 =>
  x_ck ((84 : Int32) + x0) 353 (
  x_lt (x_pa m3 2 ((84 : Int32) + x0) y4) (fun m5 =>
  x_ck ((84 : Int32) + x0) 353 (
  if (x_ga m5 2 ((84 : Int32) + x0)) ≤ (0 : Int32) then
  (x_ck ((79 : Int32) + x0) 353 (
  x_lt (x_pa m5 2 ((79 : Int32) + x0) (-1 : Int32)) (fun m6 =>
  x_lt (x_pa m6 2 (73 : Int32) ((x_ga m6 2 (73 : Int32)) + (1 : Int32))) (fun m7 =>
  some m7))))
  else (some m5))))))))))))
set_option maxRecDepth 100000 in
set_option maxHeartbeats 4000000 in
theorem c_X12_goesOn {l : Launch}  {ad0 : Nat → Nat} {v0 : XM} {x0 : Int32}  {o : XM} (h : f_X12_goesOn v0 x0 = some o) : CT l yX12_goesOn cX12_goesOn 2 none 1 [(shModel, ad0)] [v0] (fun aK => [.ref (ad0 0), .int x0]) none True [o] := by
  refine CT_of (by decide) (fun _ => Nat.le_of_ble_eq_true rfl) ?_
  intro p e s m args below meth c D tc aK aV A X
  have X : Cx p s m args meth c cX12_goesOn 2 none RX12 D tc aK aV A [(shModel, ad0)] := X
  show aW p l e (x_Rm 1) s m args below meth c D tc A 2 [(shModel, ad0)] none True [o] 0 [(0, .ref (ad0 0)), (1, .int x0)] [] [v0]
  unfold f_X12_goesOn at h
  refine a_aload_n (pc := 0) X 0 dX12_goesOn_0 rfl rfl ?_
  refine a_iload_n (pc := 1) X 1 dX12_goesOn_1 rfl rfl ?_
  obtain ⟨y1, e_y1, h⟩ := x_bo_elim h
  refine a_callV (pc := 2) (st2 := [.int y1]) (vs2 := [v0]) X [(0, 0, 20)] [none] 0 0 12 [.int x0] [] cv_RX12_240 (c_X12_isGoing (ad0 := ad0)  e_y1) rfl rfl rfl rfl rfl rfl rfl rfl rfl rfl rfl rfl rfl rfl rfl (Nat.le_of_ble_eq_true rfl) ⟨Nat.le_of_ble_eq_true rfl, Nat.le_of_ble_eq_true rfl⟩ dX12_goesOn_2 (fun z_2 => ?_)
  refine a_if_ne (pc := 5) X 9 dX12_goesOn_5 rfl (fun c_5 => ?_) (fun c_5 => ?_)
  · have h := x_ifn c_5 h
    refine a_aload_n (pc := 9) X 0 dX12_goesOn_9 rfl rfl ?_
    refine a_getR (pc := 10) X 0 2 2 fl_RX12_98 rfl rfl rfl rfl rfl dX12_goesOn_10 ?_
    refine a_bipush (pc := 13) X dX12_goesOn_13 q_bp_89 ?_
    refine a_iload_n (pc := 15) X 1 dX12_goesOn_15 rfl rfl ?_
    refine a_iadd (pc := 16) X dX12_goesOn_16 ?_
    refine a_dup2 (pc := 17) X dX12_goesOn_17 rfl rfl ?_
    obtain ⟨c_18, h⟩ := x_ck_elim h
    refine a_iald (pc := 18) X 0 rfl rfl rfl c_18 dX12_goesOn_18 ?_
    refine a_iconst (pc := 19) X dX12_goesOn_19 q_ic_1 ?_
    refine a_iadd (pc := 20) X dX12_goesOn_20 ?_
    obtain ⟨y2, e_y2, h⟩ := x_lt_elim h
    refine a_ni e_y2 ?_
    obtain ⟨c_21, h⟩ := x_ck_elim h
    refine a_iast (pc := 21) X 0 rfl rfl rfl c_21 dX12_goesOn_21 ?_
    obtain ⟨m3, e_m3, h⟩ := x_lt_elim h
    refine a_nm (vs2 := [m3]) (congrArg (fun q : XM => [q]) e_m3) ?_
    refine a_aload_n (pc := 22) X 0 dX12_goesOn_22 rfl rfl ?_
    refine a_getR (pc := 23) X 0 2 2 fl_RX12_98 rfl rfl rfl rfl rfl dX12_goesOn_23 ?_
    refine a_bipush (pc := 26) X dX12_goesOn_26 q_bp_84 ?_
    refine a_iload_n (pc := 28) X 1 dX12_goesOn_28 rfl rfl ?_
    refine a_iadd (pc := 29) X dX12_goesOn_29 ?_
    refine a_dup2 (pc := 30) X dX12_goesOn_30 rfl rfl ?_
    obtain ⟨c_31, h⟩ := x_ck_elim h
    refine a_iald (pc := 31) X 0 rfl rfl rfl c_31 dX12_goesOn_31 ?_
    refine a_iconst (pc := 32) X dX12_goesOn_32 q_ic_1 ?_
    refine a_isub (pc := 33) X dX12_goesOn_33 ?_
    obtain ⟨y4, e_y4, h⟩ := x_lt_elim h
    refine a_ni e_y4 ?_
    obtain ⟨c_34, h⟩ := x_ck_elim h
    refine a_iast (pc := 34) X 0 rfl rfl rfl c_34 dX12_goesOn_34 ?_
    obtain ⟨m5, e_m5, h⟩ := x_lt_elim h
    refine a_nm (vs2 := [m5]) (congrArg (fun q : XM => [q]) e_m5) ?_
    refine a_aload_n (pc := 35) X 0 dX12_goesOn_35 rfl rfl ?_
    refine a_getR (pc := 36) X 0 2 2 fl_RX12_98 rfl rfl rfl rfl rfl dX12_goesOn_36 ?_
    refine a_bipush (pc := 39) X dX12_goesOn_39 q_bp_84 ?_
    refine a_iload_n (pc := 41) X 1 dX12_goesOn_41 rfl rfl ?_
    refine a_iadd (pc := 42) X dX12_goesOn_42 ?_
    obtain ⟨c_43, h⟩ := x_ck_elim h
    refine a_iald (pc := 43) X 0 rfl rfl rfl c_43 dX12_goesOn_43 ?_
    refine a_if_le (pc := 44) X 48 dX12_goesOn_44 rfl (fun c_44 => ?_) (fun c_44 => ?_)
    · have h := x_ifp c_44 h
      refine a_aload_n (pc := 48) X 0 dX12_goesOn_48 rfl rfl ?_
      refine a_getR (pc := 49) X 0 2 2 fl_RX12_98 rfl rfl rfl rfl rfl dX12_goesOn_49 ?_
      refine a_bipush (pc := 52) X dX12_goesOn_52 q_bp_79 ?_
      refine a_iload_n (pc := 54) X 1 dX12_goesOn_54 rfl rfl ?_
      refine a_iadd (pc := 55) X dX12_goesOn_55 ?_
      refine a_iconst (pc := 56) X dX12_goesOn_56 q_ic_m1 ?_
      obtain ⟨c_57, h⟩ := x_ck_elim h
      refine a_iast (pc := 57) X 0 rfl rfl rfl c_57 dX12_goesOn_57 ?_
      obtain ⟨m6, e_m6, h⟩ := x_lt_elim h
      refine a_nm (vs2 := [m6]) (congrArg (fun q : XM => [q]) e_m6) ?_
      refine a_aload_n (pc := 58) X 0 dX12_goesOn_58 rfl rfl ?_
      refine a_getR (pc := 59) X 0 2 2 fl_RX12_98 rfl rfl rfl rfl rfl dX12_goesOn_59 ?_
      refine a_bipush (pc := 62) X dX12_goesOn_62 q_bp_73 ?_
      refine a_dup2 (pc := 64) X dX12_goesOn_64 rfl rfl ?_
      refine a_iald (pc := 65) X 0 rfl rfl rfl (x_inl (by decide)) dX12_goesOn_65 ?_
      refine a_iconst (pc := 66) X dX12_goesOn_66 q_ic_1 ?_
      refine a_iadd (pc := 67) X dX12_goesOn_67 ?_
      refine a_iast (pc := 68) X 0 rfl rfl rfl (x_inl (by decide)) dX12_goesOn_68 ?_
      obtain ⟨m7, e_m7, h⟩ := x_lt_elim h
      refine a_nm (vs2 := [m7]) (congrArg (fun q : XM => [q]) e_m7) ?_
      have h := Option.some.inj h; subst h
      exact a_vret (pc := 69) X trivial dX12_goesOn_69
    · have h := x_ifn c_44 h
      have h := Option.some.inj h; subst h
      exact a_vret (pc := 47) X trivial dX12_goesOn_47
  · have h := x_ifp c_5 h
    have h := Option.some.inj h; subst h
    exact a_vret (pc := 8) X trivial dX12_goesOn_8
theorem dX12_oneHour_0 : decode cX12_oneHour 0 = .ok (.iconst 0, 1) := by decide +kernel
theorem dX12_oneHour_1 : decode cX12_oneHour 1 = .ok (.istore_n 1, 1) := by decide +kernel
theorem dX12_oneHour_2 : decode cX12_oneHour 2 = .ok (.iload_n 1, 1) := by decide +kernel
theorem dX12_oneHour_3 : decode cX12_oneHour 3 = .ok (.aload_n 0, 1) := by decide +kernel
theorem dX12_oneHour_4 : decode cX12_oneHour 4 = .ok (.getfield 98, 3) := by decide +kernel
theorem dX12_oneHour_7 : decode cX12_oneHour 7 = .ok (.iconst 3, 1) := by decide +kernel
theorem dX12_oneHour_8 : decode cX12_oneHour 8 = .ok (.iaload, 1) := by decide +kernel
theorem dX12_oneHour_9 : decode cX12_oneHour 9 = .ok (.if_icmp .ge 14, 3) := by decide +kernel
theorem dX12_oneHour_12 : decode cX12_oneHour 12 = .ok (.aload_n 0, 1) := by decide +kernel
theorem dX12_oneHour_13 : decode cX12_oneHour 13 = .ok (.iload_n 1, 1) := by decide +kernel
theorem dX12_oneHour_14 : decode cX12_oneHour 14 = .ok (.invokevirtual 315, 3) := by decide +kernel
theorem dX12_oneHour_17 : decode cX12_oneHour 17 = .ok (.iinc 1 1, 3) := by decide +kernel
theorem dX12_oneHour_20 : decode cX12_oneHour 20 = .ok (.goto (-18), 3) := by decide +kernel
theorem dX12_oneHour_23 : decode cX12_oneHour 23 = .ok (.iconst 0, 1) := by decide +kernel
theorem dX12_oneHour_24 : decode cX12_oneHour 24 = .ok (.istore_n 1, 1) := by decide +kernel
theorem dX12_oneHour_25 : decode cX12_oneHour 25 = .ok (.iload_n 1, 1) := by decide +kernel
theorem dX12_oneHour_26 : decode cX12_oneHour 26 = .ok (.bipush 12, 2) := by decide +kernel
theorem dX12_oneHour_28 : decode cX12_oneHour 28 = .ok (.if_icmp .ge 34, 3) := by decide +kernel
theorem dX12_oneHour_31 : decode cX12_oneHour 31 = .ok (.aload_n 0, 1) := by decide +kernel
theorem dX12_oneHour_32 : decode cX12_oneHour 32 = .ok (.getfield 98, 3) := by decide +kernel
theorem dX12_oneHour_35 : decode cX12_oneHour 35 = .ok (.bipush 99, 2) := by decide +kernel
theorem dX12_oneHour_37 : decode cX12_oneHour 37 = .ok (.iload_n 1, 1) := by decide +kernel
theorem dX12_oneHour_38 : decode cX12_oneHour 38 = .ok (.iadd, 1) := by decide +kernel
theorem dX12_oneHour_39 : decode cX12_oneHour 39 = .ok (.iaload, 1) := by decide +kernel
theorem dX12_oneHour_40 : decode cX12_oneHour 40 = .ok (.ifCond .le 16, 3) := by decide +kernel
theorem dX12_oneHour_43 : decode cX12_oneHour 43 = .ok (.aload_n 0, 1) := by decide +kernel
theorem dX12_oneHour_44 : decode cX12_oneHour 44 = .ok (.getfield 98, 3) := by decide +kernel
theorem dX12_oneHour_47 : decode cX12_oneHour 47 = .ok (.bipush 99, 2) := by decide +kernel
theorem dX12_oneHour_49 : decode cX12_oneHour 49 = .ok (.iload_n 1, 1) := by decide +kernel
theorem dX12_oneHour_50 : decode cX12_oneHour 50 = .ok (.iadd, 1) := by decide +kernel
theorem dX12_oneHour_51 : decode cX12_oneHour 51 = .ok (.dup2, 1) := by decide +kernel
theorem dX12_oneHour_52 : decode cX12_oneHour 52 = .ok (.iaload, 1) := by decide +kernel
theorem dX12_oneHour_53 : decode cX12_oneHour 53 = .ok (.iconst 1, 1) := by decide +kernel
theorem dX12_oneHour_54 : decode cX12_oneHour 54 = .ok (.isub, 1) := by decide +kernel
theorem dX12_oneHour_55 : decode cX12_oneHour 55 = .ok (.iastore, 1) := by decide +kernel
theorem dX12_oneHour_56 : decode cX12_oneHour 56 = .ok (.iinc 1 1, 3) := by decide +kernel
theorem dX12_oneHour_59 : decode cX12_oneHour 59 = .ok (.goto (-34), 3) := by decide +kernel
theorem dX12_oneHour_62 : decode cX12_oneHour 62 = .ok (.aload_n 0, 1) := by decide +kernel
theorem dX12_oneHour_63 : decode cX12_oneHour 63 = .ok (.getfield 98, 3) := by decide +kernel
theorem dX12_oneHour_66 : decode cX12_oneHour 66 = .ok (.bipush 70, 2) := by decide +kernel
theorem dX12_oneHour_68 : decode cX12_oneHour 68 = .ok (.dup2, 1) := by decide +kernel
theorem dX12_oneHour_69 : decode cX12_oneHour 69 = .ok (.iaload, 1) := by decide +kernel
theorem dX12_oneHour_70 : decode cX12_oneHour 70 = .ok (.iconst 1, 1) := by decide +kernel
theorem dX12_oneHour_71 : decode cX12_oneHour 71 = .ok (.iadd, 1) := by decide +kernel
theorem dX12_oneHour_72 : decode cX12_oneHour 72 = .ok (.iastore, 1) := by decide +kernel
theorem dX12_oneHour_73 : decode cX12_oneHour 73 = .ok (.return_, 1) := by decide +kernel
def f_X12_oneHour_56 (k25 : XM → Int32 → Option (XM)) (w0 : XM) (l1 : Int32) : Option (XM) :=
  k25 w0 (l1 + 1)
def f_X12_oneHour_25 (k25 : XM → Int32 → Option (XM)) (w0 : XM) (l1 : Int32) : Option (XM) :=
  if ((12 : Int32) : Int32) ≤ l1 then
  (x_lt (x_pa w0 2 (70 : Int32) ((x_ga w0 2 (70 : Int32)) + (1 : Int32))) (fun m1 =>
  some m1))
  else (x_ck ((99 : Int32) + l1) 353 (
  if (x_ga w0 2 ((99 : Int32) + l1)) ≤ (0 : Int32) then
  (f_X12_oneHour_56  k25 w0 l1)
  else (x_ck ((99 : Int32) + l1) 353 (
  x_lt ((x_ga w0 2 ((99 : Int32) + l1)) - (1 : Int32)) (fun y2 =>
  x_ck ((99 : Int32) + l1) 353 (
  x_lt (x_pa w0 2 ((99 : Int32) + l1) y2) (fun m3 =>
  f_X12_oneHour_56  k25 m3 l1)))))))
def f_X12_oneHour_2 (k2 : XM → Int32 → Option (XM)) (w0 : XM) (l1 : Int32) : Option (XM) :=
  if ((x_ga w0 2 (3 : Int32)) : Int32) ≤ l1 then
  (x_lp (φ := XM → Int32 → Option (XM)) (fun _ _ => none) (f_X12_oneHour_25  ) x_NN w0 (0 : Int32))
  else (x_bo (f_X12_goesOn w0 l1) (fun y4 =>
  k2 y4 (l1 + 1)))
def f_X12_oneHour (v0 : XM) : Option (XM) :=
  x_lp (φ := XM → Int32 → Option (XM)) (fun _ _ => none) (f_X12_oneHour_2  ) x_NN v0 (0 : Int32)
set_option maxRecDepth 100000 in
set_option maxHeartbeats 4000000 in
theorem w_X12_oneHour_56 {p : Program} {l : Launch} {e : Env} {s : State} {m : MethodId} {args : Array Value} {below : List Frame} {meth : Method} {c : Code} {D : va_G} {tc : Nat → ClassId} {aK aV : Nat → Nat} {A : Nat → Prop} {ad0 : Nat → Nat}  (X : Cx p s m args meth c cX12_oneHour 2 none RX12 D tc aK aV A [(shModel, ad0)])  {o : XM} {k25 : XM → Int32 → Option (XM)} (hk25 : ∀ (w0 : XM) (l1 : Int32), k25 w0 l1 = some o → aW p l e (x_Rm 2) s m args below meth c D tc A 2 [(shModel, ad0)] none True [o] 25 [(0, .ref (ad0 0)), (1, .int l1)] [] [w0]) {w0 : XM} {l1 : Int32}  (h : f_X12_oneHour_56  k25 w0 l1 = some o) : aW p l e (x_Rm 2) s m args below meth c D tc A 2 [(shModel, ad0)] none True [o] 56 [(0, .ref (ad0 0)), (1, .int l1)] [] [w0] := by
  unfold f_X12_oneHour_56 at h
  refine a_iinc (pc := 56) X 1 [(1, .int (l1 + 1)), (0, .ref (ad0 0))] dX12_oneHour_56 rfl (congrArg (HAdd.hAdd l1) q_ic_1) (by decide) rfl ?_
  refine a_goto (pc := 59) X 25 dX12_oneHour_59 rfl ?_
  refine a_sub [1, 0] rfl ?_
  exact hk25 _ _ h
set_option maxRecDepth 100000 in
set_option maxHeartbeats 4000000 in
theorem w_X12_oneHour_25 {p : Program} {l : Launch} {e : Env} {s : State} {m : MethodId} {args : Array Value} {below : List Frame} {meth : Method} {c : Code} {D : va_G} {tc : Nat → ClassId} {aK aV : Nat → Nat} {A : Nat → Prop} {ad0 : Nat → Nat}  (X : Cx p s m args meth c cX12_oneHour 2 none RX12 D tc aK aV A [(shModel, ad0)])  {o : XM}  : ∀ (n : Nat), ∀ (w0 : XM) (l1 : Int32), x_lp (φ := XM → Int32 → Option (XM)) (fun _ _ => none) (f_X12_oneHour_25  ) n w0 l1 = some o → aW p l e (x_Rm 2) s m args below meth c D tc A 2 [(shModel, ad0)] none True [o] 25 [(0, .ref (ad0 0)), (1, .int l1)] [] [w0] := by
  intro n
  induction n with
  | zero => intro w0 l1 h; exact absurd h (fun q => by cases q)
  | succ n ih =>
    intro w0 l1 h
    have h : f_X12_oneHour_25   (x_lp (φ := XM → Int32 → Option (XM)) (fun _ _ => none) (f_X12_oneHour_25  ) n) w0 l1 = some o := h
    generalize x_lp (φ := XM → Int32 → Option (XM)) (fun _ _ => none) (f_X12_oneHour_25  ) n = k25 at h ih
    have hk25 := ih
    unfold f_X12_oneHour_25 at h
    refine a_iload_n (pc := 25) X 1 dX12_oneHour_25 rfl rfl ?_
    refine a_bipush (pc := 26) X dX12_oneHour_26 q_bp_12 ?_
    refine a_icmp_ge (pc := 28) X 62 dX12_oneHour_28 rfl (fun c_28 => ?_) (fun c_28 => ?_)
    · have h := x_ifp c_28 h
      refine a_aload_n (pc := 62) X 0 dX12_oneHour_62 rfl rfl ?_
      refine a_getR (pc := 63) X 0 2 2 fl_RX12_98 rfl rfl rfl rfl rfl dX12_oneHour_63 ?_
      refine a_bipush (pc := 66) X dX12_oneHour_66 q_bp_70 ?_
      refine a_dup2 (pc := 68) X dX12_oneHour_68 rfl rfl ?_
      refine a_iald (pc := 69) X 0 rfl rfl rfl (x_inl (by decide)) dX12_oneHour_69 ?_
      refine a_iconst (pc := 70) X dX12_oneHour_70 q_ic_1 ?_
      refine a_iadd (pc := 71) X dX12_oneHour_71 ?_
      refine a_iast (pc := 72) X 0 rfl rfl rfl (x_inl (by decide)) dX12_oneHour_72 ?_
      obtain ⟨m1, e_m1, h⟩ := x_lt_elim h
      refine a_nm (vs2 := [m1]) (congrArg (fun q : XM => [q]) e_m1) ?_
      have h := Option.some.inj h; subst h
      exact a_vret (pc := 73) X trivial dX12_oneHour_73
    · have h := x_ifn c_28 h
      refine a_aload_n (pc := 31) X 0 dX12_oneHour_31 rfl rfl ?_
      refine a_getR (pc := 32) X 0 2 2 fl_RX12_98 rfl rfl rfl rfl rfl dX12_oneHour_32 ?_
      refine a_bipush (pc := 35) X dX12_oneHour_35 q_bp_99 ?_
      refine a_iload_n (pc := 37) X 1 dX12_oneHour_37 rfl rfl ?_
      refine a_iadd (pc := 38) X dX12_oneHour_38 ?_
      obtain ⟨c_39, h⟩ := x_ck_elim h
      refine a_iald (pc := 39) X 0 rfl rfl rfl c_39 dX12_oneHour_39 ?_
      refine a_if_le (pc := 40) X 56 dX12_oneHour_40 rfl (fun c_40 => ?_) (fun c_40 => ?_)
      · have h := x_ifp c_40 h
        exact w_X12_oneHour_56 X   hk25  h
      · have h := x_ifn c_40 h
        refine a_aload_n (pc := 43) X 0 dX12_oneHour_43 rfl rfl ?_
        refine a_getR (pc := 44) X 0 2 2 fl_RX12_98 rfl rfl rfl rfl rfl dX12_oneHour_44 ?_
        refine a_bipush (pc := 47) X dX12_oneHour_47 q_bp_99 ?_
        refine a_iload_n (pc := 49) X 1 dX12_oneHour_49 rfl rfl ?_
        refine a_iadd (pc := 50) X dX12_oneHour_50 ?_
        refine a_dup2 (pc := 51) X dX12_oneHour_51 rfl rfl ?_
        obtain ⟨c_52, h⟩ := x_ck_elim h
        refine a_iald (pc := 52) X 0 rfl rfl rfl c_52 dX12_oneHour_52 ?_
        refine a_iconst (pc := 53) X dX12_oneHour_53 q_ic_1 ?_
        refine a_isub (pc := 54) X dX12_oneHour_54 ?_
        obtain ⟨y2, e_y2, h⟩ := x_lt_elim h
        refine a_ni e_y2 ?_
        obtain ⟨c_55, h⟩ := x_ck_elim h
        refine a_iast (pc := 55) X 0 rfl rfl rfl c_55 dX12_oneHour_55 ?_
        obtain ⟨m3, e_m3, h⟩ := x_lt_elim h
        refine a_nm (vs2 := [m3]) (congrArg (fun q : XM => [q]) e_m3) ?_
        exact w_X12_oneHour_56 X   hk25  h
set_option maxRecDepth 100000 in
set_option maxHeartbeats 4000000 in
theorem w_X12_oneHour_2 {p : Program} {l : Launch} {e : Env} {s : State} {m : MethodId} {args : Array Value} {below : List Frame} {meth : Method} {c : Code} {D : va_G} {tc : Nat → ClassId} {aK aV : Nat → Nat} {A : Nat → Prop} {ad0 : Nat → Nat}  (X : Cx p s m args meth c cX12_oneHour 2 none RX12 D tc aK aV A [(shModel, ad0)])  {o : XM}  : ∀ (n : Nat), ∀ (w0 : XM) (l1 : Int32), x_lp (φ := XM → Int32 → Option (XM)) (fun _ _ => none) (f_X12_oneHour_2  ) n w0 l1 = some o → aW p l e (x_Rm 2) s m args below meth c D tc A 2 [(shModel, ad0)] none True [o] 2 [(0, .ref (ad0 0)), (1, .int l1)] [] [w0] := by
  intro n
  induction n with
  | zero => intro w0 l1 h; exact absurd h (fun q => by cases q)
  | succ n ih =>
    intro w0 l1 h
    have h : f_X12_oneHour_2   (x_lp (φ := XM → Int32 → Option (XM)) (fun _ _ => none) (f_X12_oneHour_2  ) n) w0 l1 = some o := h
    generalize x_lp (φ := XM → Int32 → Option (XM)) (fun _ _ => none) (f_X12_oneHour_2  ) n = k2 at h ih
    have hk2 := ih
    unfold f_X12_oneHour_2 at h
    refine a_iload_n (pc := 2) X 1 dX12_oneHour_2 rfl rfl ?_
    refine a_aload_n (pc := 3) X 0 dX12_oneHour_3 rfl rfl ?_
    refine a_getR (pc := 4) X 0 2 2 fl_RX12_98 rfl rfl rfl rfl rfl dX12_oneHour_4 ?_
    refine a_iconst (pc := 7) X dX12_oneHour_7 q_ic_3 ?_
    refine a_iald (pc := 8) X 0 rfl rfl rfl (x_inl (by decide)) dX12_oneHour_8 ?_
    refine a_icmp_ge (pc := 9) X 23 dX12_oneHour_9 rfl (fun c_9 => ?_) (fun c_9 => ?_)
    · have h := x_ifp c_9 h
      refine a_iconst (pc := 23) X dX12_oneHour_23 q_ic_0 ?_
      refine a_istore_n (pc := 24) X [(1, .int (0 : Int32)), (0, .ref (ad0 0))] dX12_oneHour_24 rfl (by decide) rfl ?_
      refine a_sub [1, 0] rfl ?_
      exact w_X12_oneHour_25 X    x_NN _ _ h
    · have h := x_ifn c_9 h
      refine a_aload_n (pc := 12) X 0 dX12_oneHour_12 rfl rfl ?_
      refine a_iload_n (pc := 13) X 1 dX12_oneHour_13 rfl rfl ?_
      obtain ⟨y4, e_y4, h⟩ := x_bo_elim h
      refine a_callV (pc := 14) (st2 := []) (vs2 := [y4]) X [(0, 0, 20)] [some y4] 0 0 12 [.int l1] [] cv_RX12_315 (c_X12_goesOn (ad0 := ad0)  e_y4) rfl rfl rfl rfl rfl rfl rfl rfl rfl rfl rfl rfl rfl rfl rfl (Nat.le_of_ble_eq_true rfl) ⟨Nat.le_of_ble_eq_true rfl, Nat.le_of_ble_eq_true rfl⟩ dX12_oneHour_14 (fun _ => ?_)
      refine a_iinc (pc := 17) X 1 [(1, .int (l1 + 1)), (0, .ref (ad0 0))] dX12_oneHour_17 rfl (congrArg (HAdd.hAdd l1) q_ic_1) (by decide) rfl ?_
      refine a_goto (pc := 20) X 2 dX12_oneHour_20 rfl ?_
      refine a_sub [1, 0] rfl ?_
      exact hk2 _ _ h
set_option maxRecDepth 100000 in
set_option maxHeartbeats 4000000 in
theorem c_X12_oneHour {l : Launch}  {ad0 : Nat → Nat} {v0 : XM}   {o : XM} (h : f_X12_oneHour v0 = some o) : CT l yX12_oneHour cX12_oneHour 2 none 2 [(shModel, ad0)] [v0] (fun aK => [.ref (ad0 0)]) none True [o] := by
  refine CT_of (by decide) (fun _ => Nat.le_of_ble_eq_true rfl) ?_
  intro p e s m args below meth c D tc aK aV A X
  have X : Cx p s m args meth c cX12_oneHour 2 none RX12 D tc aK aV A [(shModel, ad0)] := X
  show aW p l e (x_Rm 2) s m args below meth c D tc A 2 [(shModel, ad0)] none True [o] 0 [(0, .ref (ad0 0))] [] [v0]
  unfold f_X12_oneHour at h
  refine a_iconst (pc := 0) X dX12_oneHour_0 q_ic_0 ?_
  refine a_istore_n (pc := 1) X [(1, .int (0 : Int32)), (0, .ref (ad0 0))] dX12_oneHour_1 rfl (by decide) rfl ?_
  refine a_sub [1, 0] rfl ?_
  exact w_X12_oneHour_2 X    x_NN _ _ h
theorem dX12_passHours_0 : decode cX12_passHours 0 = .ok (.iload_n 1, 1) := by decide +kernel
theorem dX12_passHours_1 : decode cX12_passHours 1 = .ok (.sipush 400, 3) := by decide +kernel
theorem dX12_passHours_4 : decode cX12_passHours 4 = .ok (.aload_n 0, 1) := by decide +kernel
theorem dX12_passHours_5 : decode cX12_passHours 5 = .ok (.getfield 98, 3) := by decide +kernel
theorem dX12_passHours_8 : decode cX12_passHours 8 = .ok (.bipush 70, 2) := by decide +kernel
theorem dX12_passHours_10 : decode cX12_passHours 10 = .ok (.iaload, 1) := by decide +kernel
theorem dX12_passHours_11 : decode cX12_passHours 11 = .ok (.isub, 1) := by decide +kernel
theorem dX12_passHours_12 : decode cX12_passHours 12 = .ok (.invokestatic 318, 3) := by decide +kernel
theorem dX12_passHours_15 : decode cX12_passHours 15 = .ok (.istore_n 2, 1) := by decide +kernel
theorem dX12_passHours_16 : decode cX12_passHours 16 = .ok (.iconst 0, 1) := by decide +kernel
theorem dX12_passHours_17 : decode cX12_passHours 17 = .ok (.istore_n 3, 1) := by decide +kernel
theorem dX12_passHours_18 : decode cX12_passHours 18 = .ok (.iload_n 3, 1) := by decide +kernel
theorem dX12_passHours_19 : decode cX12_passHours 19 = .ok (.iload_n 2, 1) := by decide +kernel
theorem dX12_passHours_20 : decode cX12_passHours 20 = .ok (.if_icmp .ge 13, 3) := by decide +kernel
theorem dX12_passHours_23 : decode cX12_passHours 23 = .ok (.aload_n 0, 1) := by decide +kernel
theorem dX12_passHours_24 : decode cX12_passHours 24 = .ok (.invokevirtual 321, 3) := by decide +kernel
theorem dX12_passHours_27 : decode cX12_passHours 27 = .ok (.iinc 3 1, 3) := by decide +kernel
theorem dX12_passHours_30 : decode cX12_passHours 30 = .ok (.goto (-12), 3) := by decide +kernel
theorem dX12_passHours_33 : decode cX12_passHours 33 = .ok (.iload_n 2, 1) := by decide +kernel
theorem dX12_passHours_34 : decode cX12_passHours 34 = .ok (.ireturn, 1) := by decide +kernel
def f_X12_passHours_18 (k18 : XM → Int32 → Int32 → Option (Int32 × XM)) (w0 : XM) (l2 : Int32) (l3 : Int32) : Option (Int32 × XM) :=
  if (l2 : Int32) ≤ l3 then
  (some (l2, w0))
  else (x_bo (f_X12_oneHour w0) (fun y1 =>
  k18 y1 l2 (l3 + 1)))
def f_X12_passHours (v0 : XM) (x0 : Int32) : Option (Int32 × XM) :=
  x_lt (f_X12_least x0 ((400 : Int32) - (x_ga v0 2 (70 : Int32)))) (fun y2 =>
  x_lp (φ := XM → Int32 → Int32 → Option (Int32 × XM)) (fun _ _ _ => none) (f_X12_passHours_18  ) x_NN v0 y2 (0 : Int32))
set_option maxRecDepth 100000 in
set_option maxHeartbeats 4000000 in
theorem w_X12_passHours_18 {p : Program} {l : Launch} {e : Env} {s : State} {m : MethodId} {args : Array Value} {below : List Frame} {meth : Method} {c : Code} {D : va_G} {tc : Nat → ClassId} {aK aV : Nat → Nat} {A : Nat → Prop} {ad0 : Nat → Nat}  (X : Cx p s m args meth c cX12_passHours 4 (some .int) RX12 D tc aK aV A [(shModel, ad0)])  {o : Int32 × XM}  : ∀ (n : Nat), ∀ (w0 : XM) (l2 : Int32) (l3 : Int32), x_lp (φ := XM → Int32 → Int32 → Option (Int32 × XM)) (fun _ _ _ => none) (f_X12_passHours_18  ) n w0 l2 l3 = some o → aW p l e (x_Rm 3) s m args below meth c D tc A 4 [(shModel, ad0)] (some (.int o.1)) True [o.2] 18 [(0, .ref (ad0 0)), (2, .int l2), (3, .int l3)] [] [w0] := by
  intro n
  induction n with
  | zero => intro w0 l2 l3 h; exact absurd h (fun q => by cases q)
  | succ n ih =>
    intro w0 l2 l3 h
    have h : f_X12_passHours_18   (x_lp (φ := XM → Int32 → Int32 → Option (Int32 × XM)) (fun _ _ _ => none) (f_X12_passHours_18  ) n) w0 l2 l3 = some o := h
    generalize x_lp (φ := XM → Int32 → Int32 → Option (Int32 × XM)) (fun _ _ _ => none) (f_X12_passHours_18  ) n = k18 at h ih
    have hk18 := ih
    unfold f_X12_passHours_18 at h
    refine a_iload_n (pc := 18) X 2 dX12_passHours_18 rfl rfl ?_
    refine a_iload_n (pc := 19) X 1 dX12_passHours_19 rfl rfl ?_
    refine a_icmp_ge (pc := 20) X 33 dX12_passHours_20 rfl (fun c_20 => ?_) (fun c_20 => ?_)
    · have h := x_ifp c_20 h
      refine a_iload_n (pc := 33) X 1 dX12_passHours_33 rfl rfl ?_
      have h := Option.some.inj h; subst h
      exact a_iret (pc := 34) X trivial dX12_passHours_34
    · have h := x_ifn c_20 h
      refine a_aload_n (pc := 23) X 0 dX12_passHours_23 rfl rfl ?_
      obtain ⟨y1, e_y1, h⟩ := x_bo_elim h
      refine a_callV (pc := 24) (st2 := []) (vs2 := [y1]) X [(0, 0, 20)] [some y1] 0 0 12 [] [] cv_RX12_321 (c_X12_oneHour (ad0 := ad0)  e_y1) rfl rfl rfl rfl rfl rfl rfl rfl rfl rfl rfl rfl rfl rfl rfl (Nat.le_of_ble_eq_true rfl) ⟨Nat.le_of_ble_eq_true rfl, Nat.le_of_ble_eq_true rfl⟩ dX12_passHours_24 (fun _ => ?_)
      refine a_iinc (pc := 27) X 2 [(3, .int (l3 + 1)), (0, .ref (ad0 0)), (2, .int l2)] dX12_passHours_27 rfl (congrArg (HAdd.hAdd l3) q_ic_1) (by decide) rfl ?_
      refine a_goto (pc := 30) X 18 dX12_passHours_30 rfl ?_
      refine a_sub [1, 2, 0] rfl ?_
      exact hk18 _ _ _ h
set_option maxRecDepth 100000 in
set_option maxHeartbeats 4000000 in
theorem c_X12_passHours {l : Launch}  {ad0 : Nat → Nat} {v0 : XM} {x0 : Int32}  {o : Int32 × XM} (h : f_X12_passHours v0 x0 = some o) : CT l yX12_passHours cX12_passHours 4 (some .int) 3 [(shModel, ad0)] [v0] (fun aK => [.ref (ad0 0), .int x0]) (some (.int o.1)) True [o.2] := by
  refine CT_of (by decide) (fun _ => Nat.le_of_ble_eq_true rfl) ?_
  intro p e s m args below meth c D tc aK aV A X
  have X : Cx p s m args meth c cX12_passHours 4 (some .int) RX12 D tc aK aV A [(shModel, ad0)] := X
  show aW p l e (x_Rm 3) s m args below meth c D tc A 4 [(shModel, ad0)] (some (.int o.1)) True [o.2] 0 [(0, .ref (ad0 0)), (1, .int x0)] [] [v0]
  unfold f_X12_passHours at h
  refine a_iload_n (pc := 0) X 1 dX12_passHours_0 rfl rfl ?_
  refine a_sipush (pc := 1) X dX12_passHours_1 q_sp_400 ?_
  refine a_aload_n (pc := 4) X 0 dX12_passHours_4 rfl rfl ?_
  refine a_getR (pc := 5) X 0 2 2 fl_RX12_98 rfl rfl rfl rfl rfl dX12_passHours_5 ?_
  refine a_bipush (pc := 8) X dX12_passHours_8 q_bp_70 ?_
  refine a_iald (pc := 10) X 0 rfl rfl rfl (x_inl (by decide)) dX12_passHours_10 ?_
  refine a_isub (pc := 11) X dX12_passHours_11 ?_
  obtain ⟨y2, e_y2, h⟩ := x_lt_elim h
  refine a_callS (pc := 12) (st2 := [.int y2]) (vs2 := [v0]) X [] [] [.int x0, .int ((400 : Int32) - (x_ga v0 2 (70 : Int32)))] [] cv_RX12_318 (c_X12_least   e_y2) rfl rfl rfl rfl rfl rfl rfl rfl rfl rfl rfl (Nat.le_of_ble_eq_true rfl) ⟨Nat.le_of_ble_eq_true rfl, Nat.le_of_ble_eq_true rfl⟩ dX12_passHours_12 (fun _ => ?_)
  refine a_istore_n (pc := 15) X [(2, .int y2), (0, .ref (ad0 0)), (1, .int x0)] dX12_passHours_15 rfl (by decide) rfl ?_
  refine a_iconst (pc := 16) X dX12_passHours_16 q_ic_0 ?_
  refine a_istore_n (pc := 17) X [(3, .int (0 : Int32)), (2, .int y2), (0, .ref (ad0 0)), (1, .int x0)] dX12_passHours_17 rfl (by decide) rfl ?_
  refine a_sub [2, 1, 0] rfl ?_
  exact w_X12_passHours_18 X    x_NN _ _ _ h
theorem dX12_hours_0 : decode cX12_hours 0 = .ok (.aload_n 0, 1) := by decide +kernel
theorem dX12_hours_1 : decode cX12_hours 1 = .ok (.iconst 0, 1) := by decide +kernel
theorem dX12_hours_2 : decode cX12_hours 2 = .ok (.putfield 1, 3) := by decide +kernel
theorem dX12_hours_5 : decode cX12_hours 5 = .ok (.iload_n 1, 1) := by decide +kernel
theorem dX12_hours_6 : decode cX12_hours 6 = .ok (.iconst 1, 1) := by decide +kernel
theorem dX12_hours_7 : decode cX12_hours 7 = .ok (.bipush 60, 2) := by decide +kernel
theorem dX12_hours_9 : decode cX12_hours 9 = .ok (.invokestatic 75, 3) := by decide +kernel
theorem dX12_hours_12 : decode cX12_hours 12 = .ok (.ifCond .ne 5, 3) := by decide +kernel
theorem dX12_hours_15 : decode cX12_hours 15 = .ok (.iconst (-1), 1) := by decide +kernel
theorem dX12_hours_16 : decode cX12_hours 16 = .ok (.ireturn, 1) := by decide +kernel
theorem dX12_hours_17 : decode cX12_hours 17 = .ok (.aload_n 0, 1) := by decide +kernel
theorem dX12_hours_18 : decode cX12_hours 18 = .ok (.getfield 98, 3) := by decide +kernel
theorem dX12_hours_21 : decode cX12_hours 21 = .ok (.bipush 70, 2) := by decide +kernel
theorem dX12_hours_23 : decode cX12_hours 23 = .ok (.iaload, 1) := by decide +kernel
theorem dX12_hours_24 : decode cX12_hours 24 = .ok (.sipush 400, 3) := by decide +kernel
theorem dX12_hours_27 : decode cX12_hours 27 = .ok (.if_icmp .ne 5, 3) := by decide +kernel
theorem dX12_hours_30 : decode cX12_hours 30 = .ok (.iconst 0, 1) := by decide +kernel
theorem dX12_hours_31 : decode cX12_hours 31 = .ok (.ireturn, 1) := by decide +kernel
theorem dX12_hours_32 : decode cX12_hours 32 = .ok (.aload_n 0, 1) := by decide +kernel
theorem dX12_hours_33 : decode cX12_hours 33 = .ok (.invokevirtual 301, 3) := by decide +kernel
theorem dX12_hours_36 : decode cX12_hours 36 = .ok (.aload_n 0, 1) := by decide +kernel
theorem dX12_hours_37 : decode cX12_hours 37 = .ok (.iload_n 1, 1) := by decide +kernel
theorem dX12_hours_38 : decode cX12_hours 38 = .ok (.invokevirtual 324, 3) := by decide +kernel
theorem dX12_hours_41 : decode cX12_hours 41 = .ok (.ireturn, 1) := by decide +kernel
def f_X12_hours (v0 : XM) (x0 : Int32) : Option (Int32 × XM) :=
  x_lt (x_si v0 0 0 (0 : Int32)) (fun m1 =>
  x_lt (f_X12_isIn x0 (1 : Int32) (60 : Int32)) (fun y2 =>
  if y2 = (0 : Int32) then
  (some ((-1 : Int32), m1))
  else (if ((x_ga m1 2 (70 : Int32)) : Int32) = (400 : Int32) then
  (some ((0 : Int32), m1))
  else (x_bo (f_X12_snap m1) (fun y3 =>
  x_bo (f_X12_passHours y3 x0) (fun y4 =>
  some (y4.1, y4.2)))))))
set_option maxRecDepth 100000 in
set_option maxHeartbeats 4000000 in
theorem c_X12_hours {l : Launch}  {ad0 : Nat → Nat} {v0 : XM} {x0 : Int32}  {o : Int32 × XM} (h : f_X12_hours v0 x0 = some o) : CT l yX12_hours cX12_hours 2 (some .int) 4 [(shModel, ad0)] [v0] (fun aK => [.ref (ad0 0), .int x0]) (some (.int o.1)) True [o.2] := by
  refine CT_of (by decide) (fun _ => Nat.le_of_ble_eq_true rfl) ?_
  intro p e s m args below meth c D tc aK aV A X
  have X : Cx p s m args meth c cX12_hours 2 (some .int) RX12 D tc aK aV A [(shModel, ad0)] := X
  show aW p l e (x_Rm 4) s m args below meth c D tc A 2 [(shModel, ad0)] (some (.int o.1)) True [o.2] 0 [(0, .ref (ad0 0)), (1, .int x0)] [] [v0]
  unfold f_X12_hours at h
  refine a_aload_n (pc := 0) X 0 dX12_hours_0 rfl rfl ?_
  refine a_iconst (pc := 1) X dX12_hours_1 q_ic_0 ?_
  refine a_putI (pc := 2) X 0 fl_RX12_1 rfl rfl rfl rfl dX12_hours_2 ?_
  obtain ⟨m1, e_m1, h⟩ := x_lt_elim h
  refine a_nm (vs2 := [m1]) (congrArg (fun q : XM => [q]) e_m1) ?_
  refine a_iload_n (pc := 5) X 1 dX12_hours_5 rfl rfl ?_
  refine a_iconst (pc := 6) X dX12_hours_6 q_ic_1 ?_
  refine a_bipush (pc := 7) X dX12_hours_7 q_bp_60 ?_
  obtain ⟨y2, e_y2, h⟩ := x_lt_elim h
  refine a_callS (pc := 9) (st2 := [.int y2]) (vs2 := [m1]) X [] [] [.int x0, .int (1 : Int32), .int (60 : Int32)] [] cv_RX12_75 (c_X12_isIn   e_y2) rfl rfl rfl rfl rfl rfl rfl rfl rfl rfl rfl (Nat.le_of_ble_eq_true rfl) ⟨Nat.le_of_ble_eq_true rfl, Nat.le_of_ble_eq_true rfl⟩ dX12_hours_9 (fun z_9 => ?_)
  refine a_if_ne (pc := 12) X 17 dX12_hours_12 rfl (fun c_12 => ?_) (fun c_12 => ?_)
  · have h := x_ifn c_12 h
    refine a_aload_n (pc := 17) X 0 dX12_hours_17 rfl rfl ?_
    refine a_getR (pc := 18) X 0 2 2 fl_RX12_98 rfl rfl rfl rfl rfl dX12_hours_18 ?_
    refine a_bipush (pc := 21) X dX12_hours_21 q_bp_70 ?_
    refine a_iald (pc := 23) X 0 rfl rfl rfl (x_inl (by decide)) dX12_hours_23 ?_
    refine a_sipush (pc := 24) X dX12_hours_24 q_sp_400 ?_
    refine a_icmp_ne (pc := 27) X 32 dX12_hours_27 rfl (fun c_27 => ?_) (fun c_27 => ?_)
    · have h := x_ifn c_27 h
      refine a_aload_n (pc := 32) X 0 dX12_hours_32 rfl rfl ?_
      obtain ⟨y3, e_y3, h⟩ := x_bo_elim h
      refine a_callV (pc := 33) (st2 := []) (vs2 := [y3]) X [(0, 0, 20)] [some y3] 0 0 12 [] [] cv_RX12_301 (c_X12_snap (ad0 := ad0)  e_y3) rfl rfl rfl rfl rfl rfl rfl rfl rfl rfl rfl rfl rfl rfl rfl (Nat.le_of_ble_eq_true rfl) ⟨Nat.le_of_ble_eq_true rfl, Nat.le_of_ble_eq_true rfl⟩ dX12_hours_33 (fun _ => ?_)
      refine a_aload_n (pc := 36) X 0 dX12_hours_36 rfl rfl ?_
      refine a_iload_n (pc := 37) X 1 dX12_hours_37 rfl rfl ?_
      obtain ⟨y4, e_y4, h⟩ := x_bo_elim h
      refine a_callV (pc := 38) (st2 := [.int y4.1]) (vs2 := [y4.2]) X [(0, 0, 20)] [some y4.2] 0 0 12 [.int x0] [] cv_RX12_324 (c_X12_passHours (ad0 := ad0)  e_y4) rfl rfl rfl rfl rfl rfl rfl rfl rfl rfl rfl rfl rfl rfl rfl (Nat.le_of_ble_eq_true rfl) ⟨Nat.le_of_ble_eq_true rfl, Nat.le_of_ble_eq_true rfl⟩ dX12_hours_38 (fun _ => ?_)
      have h := Option.some.inj h; subst h
      exact a_iret (pc := 41) X trivial dX12_hours_41
    · have h := x_ifp c_27 h
      refine a_iconst (pc := 30) X dX12_hours_30 q_ic_0 ?_
      have h := Option.some.inj h; subst h
      exact a_iret (pc := 31) X trivial dX12_hours_31
  · have h := x_ifp c_12 h
    refine a_iconst (pc := 15) X dX12_hours_15 q_ic_m1 ?_
    have h := Option.some.inj h; subst h
    exact a_iret (pc := 16) X trivial dX12_hours_16
theorem dX12_takes_0 : decode cX12_takes 0 = .ok (.aload_n 0, 1) := by decide +kernel
theorem dX12_takes_1 : decode cX12_takes 1 = .ok (.iconst 0, 1) := by decide +kernel
theorem dX12_takes_2 : decode cX12_takes 2 = .ok (.putfield 1, 3) := by decide +kernel
theorem dX12_takes_5 : decode cX12_takes 5 = .ok (.aload_n 0, 1) := by decide +kernel
theorem dX12_takes_6 : decode cX12_takes 6 = .ok (.iload_n 1, 1) := by decide +kernel
theorem dX12_takes_7 : decode cX12_takes 7 = .ok (.invokevirtual 237, 3) := by decide +kernel
theorem dX12_takes_10 : decode cX12_takes 10 = .ok (.ifCond .eq 28, 3) := by decide +kernel
theorem dX12_takes_13 : decode cX12_takes 13 = .ok (.aload_n 0, 1) := by decide +kernel
theorem dX12_takes_14 : decode cX12_takes 14 = .ok (.iload_n 2, 1) := by decide +kernel
theorem dX12_takes_15 : decode cX12_takes 15 = .ok (.invokevirtual 280, 3) := by decide +kernel
theorem dX12_takes_18 : decode cX12_takes 18 = .ok (.ifCond .eq 20, 3) := by decide +kernel
theorem dX12_takes_21 : decode cX12_takes 21 = .ok (.aload_n 0, 1) := by decide +kernel
theorem dX12_takes_22 : decode cX12_takes 22 = .ok (.iload_n 2, 1) := by decide +kernel
theorem dX12_takes_23 : decode cX12_takes 23 = .ok (.aload_n 0, 1) := by decide +kernel
theorem dX12_takes_24 : decode cX12_takes 24 = .ok (.getfield 98, 3) := by decide +kernel
theorem dX12_takes_27 : decode cX12_takes 27 = .ok (.bipush 65, 2) := by decide +kernel
theorem dX12_takes_29 : decode cX12_takes 29 = .ok (.iload_n 1, 1) := by decide +kernel
theorem dX12_takes_30 : decode cX12_takes 30 = .ok (.iadd, 1) := by decide +kernel
theorem dX12_takes_31 : decode cX12_takes 31 = .ok (.iaload, 1) := by decide +kernel
theorem dX12_takes_32 : decode cX12_takes 32 = .ok (.invokevirtual 257, 3) := by decide +kernel
theorem dX12_takes_35 : decode cX12_takes 35 = .ok (.goto 4, 3) := by decide +kernel
theorem dX12_takes_38 : decode cX12_takes 38 = .ok (.iconst (-1), 1) := by decide +kernel
theorem dX12_takes_39 : decode cX12_takes 39 = .ok (.ireturn, 1) := by decide +kernel
def f_X12_takes (v0 : XM) (x0 : Int32) (x1 : Int32) : Option (Int32 × XM) :=
  x_lt (x_si v0 0 0 (0 : Int32)) (fun m1 =>
  x_lt (f_X12_isWalker m1 x0) (fun y2 =>
  if y2 = (0 : Int32) then
  (some ((-1 : Int32), m1))
  else (x_lt (f_X12_isFold m1 x1) (fun y3 =>
  if y3 = (0 : Int32) then
  (some ((-1 : Int32), m1))
  else (x_ck ((65 : Int32) + x0) 353 (
  x_bo (f_X12_hoursOf m1 x1 (x_ga m1 2 ((65 : Int32) + x0))) (fun y4 =>
  some (y4, m1))))))))
set_option maxRecDepth 100000 in
set_option maxHeartbeats 4000000 in
theorem c_X12_takes {l : Launch}  {ad0 : Nat → Nat} {v0 : XM} {x0 : Int32} {x1 : Int32}  {o : Int32 × XM} (h : f_X12_takes v0 x0 x1 = some o) : CT l yX12_takes cX12_takes 3 (some .int) 4 [(shModel, ad0)] [v0] (fun aK => [.ref (ad0 0), .int x0, .int x1]) (some (.int o.1)) True [o.2] := by
  refine CT_of (by decide) (fun _ => Nat.le_of_ble_eq_true rfl) ?_
  intro p e s m args below meth c D tc aK aV A X
  have X : Cx p s m args meth c cX12_takes 3 (some .int) RX12 D tc aK aV A [(shModel, ad0)] := X
  show aW p l e (x_Rm 4) s m args below meth c D tc A 3 [(shModel, ad0)] (some (.int o.1)) True [o.2] 0 [(0, .ref (ad0 0)), (1, .int x0), (2, .int x1)] [] [v0]
  unfold f_X12_takes at h
  refine a_aload_n (pc := 0) X 0 dX12_takes_0 rfl rfl ?_
  refine a_iconst (pc := 1) X dX12_takes_1 q_ic_0 ?_
  refine a_putI (pc := 2) X 0 fl_RX12_1 rfl rfl rfl rfl dX12_takes_2 ?_
  obtain ⟨m1, e_m1, h⟩ := x_lt_elim h
  refine a_nm (vs2 := [m1]) (congrArg (fun q : XM => [q]) e_m1) ?_
  refine a_aload_n (pc := 5) X 0 dX12_takes_5 rfl rfl ?_
  refine a_iload_n (pc := 6) X 1 dX12_takes_6 rfl rfl ?_
  obtain ⟨y2, e_y2, h⟩ := x_lt_elim h
  refine a_callV (pc := 7) (st2 := [.int y2]) (vs2 := [m1]) X [(0, 0, 20)] [none] 0 0 12 [.int x0] [] cv_RX12_237 (c_X12_isWalker (ad0 := ad0)  e_y2) rfl rfl rfl rfl rfl rfl rfl rfl rfl rfl rfl rfl rfl rfl rfl (Nat.le_of_ble_eq_true rfl) ⟨Nat.le_of_ble_eq_true rfl, Nat.le_of_ble_eq_true rfl⟩ dX12_takes_7 (fun z_7 => ?_)
  refine a_if_eq (pc := 10) X 38 dX12_takes_10 rfl (fun c_10 => ?_) (fun c_10 => ?_)
  · have h := x_ifp c_10 h
    refine a_iconst (pc := 38) X dX12_takes_38 q_ic_m1 ?_
    have h := Option.some.inj h; subst h
    exact a_iret (pc := 39) X trivial dX12_takes_39
  · have h := x_ifn c_10 h
    refine a_aload_n (pc := 13) X 0 dX12_takes_13 rfl rfl ?_
    refine a_iload_n (pc := 14) X 2 dX12_takes_14 rfl rfl ?_
    obtain ⟨y3, e_y3, h⟩ := x_lt_elim h
    refine a_callV (pc := 15) (st2 := [.int y3]) (vs2 := [m1]) X [(0, 0, 20)] [none] 0 0 12 [.int x1] [] cv_RX12_280 (c_X12_isFold (ad0 := ad0)  e_y3) rfl rfl rfl rfl rfl rfl rfl rfl rfl rfl rfl rfl rfl rfl rfl (Nat.le_of_ble_eq_true rfl) ⟨Nat.le_of_ble_eq_true rfl, Nat.le_of_ble_eq_true rfl⟩ dX12_takes_15 (fun z_15 => ?_)
    refine a_if_eq (pc := 18) X 38 dX12_takes_18 rfl (fun c_18 => ?_) (fun c_18 => ?_)
    · have h := x_ifp c_18 h
      refine a_iconst (pc := 38) X dX12_takes_38 q_ic_m1 ?_
      have h := Option.some.inj h; subst h
      exact a_iret (pc := 39) X trivial dX12_takes_39
    · have h := x_ifn c_18 h
      refine a_aload_n (pc := 21) X 0 dX12_takes_21 rfl rfl ?_
      refine a_iload_n (pc := 22) X 2 dX12_takes_22 rfl rfl ?_
      refine a_aload_n (pc := 23) X 0 dX12_takes_23 rfl rfl ?_
      refine a_getR (pc := 24) X 0 2 2 fl_RX12_98 rfl rfl rfl rfl rfl dX12_takes_24 ?_
      refine a_bipush (pc := 27) X dX12_takes_27 q_bp_65 ?_
      refine a_iload_n (pc := 29) X 1 dX12_takes_29 rfl rfl ?_
      refine a_iadd (pc := 30) X dX12_takes_30 ?_
      obtain ⟨c_31, h⟩ := x_ck_elim h
      refine a_iald (pc := 31) X 0 rfl rfl rfl c_31 dX12_takes_31 ?_
      obtain ⟨y4, e_y4, h⟩ := x_bo_elim h
      refine a_callV (pc := 32) (st2 := [.int y4]) (vs2 := [m1]) X [(0, 0, 20)] [none] 0 0 12 [.int x1, .int (x_ga m1 2 ((65 : Int32) + x0))] [] cv_RX12_257 (c_X12_hoursOf (ad0 := ad0)  e_y4) rfl rfl rfl rfl rfl rfl rfl rfl rfl rfl rfl rfl rfl rfl rfl (Nat.le_of_ble_eq_true rfl) ⟨Nat.le_of_ble_eq_true rfl, Nat.le_of_ble_eq_true rfl⟩ dX12_takes_32 (fun _ => ?_)
      refine a_goto (pc := 35) X 39 dX12_takes_35 rfl ?_
      have h := Option.some.inj h; subst h
      exact a_iret (pc := 39) X trivial dX12_takes_39
