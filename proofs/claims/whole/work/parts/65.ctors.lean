theorem dX1_init_0 : decode cX1_init 0 = .ok (.aload_n 0, 1) := by decide +kernel
theorem dX1_init_1 : decode cX1_init 1 = .ok (.invokespecial 3, 3) := by decide +kernel
theorem dX1_init_4 : decode cX1_init 4 = .ok (.aload_n 0, 1) := by decide +kernel
theorem dX1_init_5 : decode cX1_init 5 = .ok (.bipush 8, 2) := by decide +kernel
theorem dX1_init_7 : decode cX1_init 7 = .ok (.anewarray 9, 3) := by decide +kernel
theorem dX1_init_10 : decode cX1_init 10 = .ok (.putfield 11, 3) := by decide +kernel
theorem dX1_init_13 : decode cX1_init 13 = .ok (.iconst 0, 1) := by decide +kernel
theorem dX1_init_14 : decode cX1_init 14 = .ok (.istore_n 1, 1) := by decide +kernel
theorem dX1_init_15 : decode cX1_init 15 = .ok (.iload_n 1, 1) := by decide +kernel
theorem dX1_init_16 : decode cX1_init 16 = .ok (.aload_n 0, 1) := by decide +kernel
theorem dX1_init_17 : decode cX1_init 17 = .ok (.getfield 11, 3) := by decide +kernel
theorem dX1_init_20 : decode cX1_init 20 = .ok (.arraylength, 1) := by decide +kernel
theorem dX1_init_21 : decode cX1_init 21 = .ok (.if_icmp .ge 22, 3) := by decide +kernel
theorem dX1_init_24 : decode cX1_init 24 = .ok (.aload_n 0, 1) := by decide +kernel
theorem dX1_init_25 : decode cX1_init 25 = .ok (.getfield 11, 3) := by decide +kernel
theorem dX1_init_28 : decode cX1_init 28 = .ok (.iload_n 1, 1) := by decide +kernel
theorem dX1_init_29 : decode cX1_init 29 = .ok (.new 9, 3) := by decide +kernel
theorem dX1_init_32 : decode cX1_init 32 = .ok (.dup, 1) := by decide +kernel
theorem dX1_init_33 : decode cX1_init 33 = .ok (.invokespecial 17, 3) := by decide +kernel
theorem dX1_init_36 : decode cX1_init 36 = .ok (.aastore, 1) := by decide +kernel
theorem dX1_init_37 : decode cX1_init 37 = .ok (.iinc 1 1, 3) := by decide +kernel
theorem dX1_init_40 : decode cX1_init 40 = .ok (.goto (-25), 3) := by decide +kernel
theorem dX1_init_43 : decode cX1_init 43 = .ok (.return_, 1) := by decide +kernel
theorem ko_RX1 : Cond.methodLink RX1 3 Lib.objectInit ∈ x_TB ∧ Cond.instanceMethod Lib.objectInit ∈ x_TB ∧ Cond.code Lib.objectInit ⟨#[0xb1]⟩ 1 none ∈ x_TB := ⟨(x_tb (x_t2 (List.mem_of_getElem? (i := 149) rfl)) rfl), (x_tb (x_t1 (List.mem_of_getElem? (i := 30) rfl)) rfl), (x_tb (x_t1 (List.mem_of_getElem? (i := 31) rfl)) rfl)⟩
theorem nw_RX1_9 : x_nw RX1 9 5 10 [0, 0, 0, 2, 2, 2, 2, 2, 2, 2] := ⟨RX5, TX5, tyX5, rfl, (x_tb (x_t2 (List.mem_of_getElem? (i := 150) rfl)) rfl), (x_tb (x_t2 (List.mem_of_getElem? (i := 14) rfl)) rfl), (x_tb (x_t1 (List.mem_of_getElem? (i := 10) rfl)) rfl), wsIn5, tyX5_ok, fun j hj => by
  match j, hj with
  | 0, _ => exact Or.inl ⟨rfl, rfl⟩
  | 1, _ => exact Or.inl ⟨rfl, rfl⟩
  | 2, _ => exact Or.inl ⟨rfl, rfl⟩
  | 3, _ => exact Or.inr (Or.inr ⟨rfl, rfl⟩)
  | 4, _ => exact Or.inr (Or.inr ⟨rfl, rfl⟩)
  | 5, _ => exact Or.inr (Or.inr ⟨rfl, rfl⟩)
  | 6, _ => exact Or.inr (Or.inr ⟨rfl, rfl⟩)
  | 7, _ => exact Or.inr (Or.inr ⟨rfl, rfl⟩)
  | 8, _ => exact Or.inr (Or.inr ⟨rfl, rfl⟩)
  | 9, _ => exact Or.inr (Or.inr ⟨rfl, rfl⟩)
  | j + 10, h => exact absurd h (by omega)⟩
theorem ci_RX1_17 : x_ci RX1 17 yX5_init cX5_init 1 0 := ⟨Or.inr (List.mem_of_getElem? (i := 5) rfl), (x_tb (x_t2 (List.mem_of_getElem? (i := 16) rfl)) rfl), (x_tb (x_t1 (List.mem_of_getElem? (i := 10) rfl)) rfl), (x_tb (x_t2 (List.mem_of_getElem? (i := 17) rfl)) rfl), by decide, by decide, by decide +kernel, rfl⟩
def z_X1_init_0 : XM := x_zc x_z 1
def z_X1_init_1 : XM := x_zc z_X1_init_0 2
def z_X1_init_2 : XM := x_app 2 z_X1_init_1 z_X5_init
def z_X1_init_3 : XM := x_zc z_X1_init_2 17
def z_X1_init_4 : XM := x_app 17 z_X1_init_3 z_X5_init
def z_X1_init_5 : XM := x_zc z_X1_init_4 32
def z_X1_init_6 : XM := x_app 32 z_X1_init_5 z_X5_init
def z_X1_init_7 : XM := x_zc z_X1_init_6 47
def z_X1_init_8 : XM := x_app 47 z_X1_init_7 z_X5_init
def z_X1_init_9 : XM := x_zc z_X1_init_8 62
def z_X1_init_10 : XM := x_app 62 z_X1_init_9 z_X5_init
def z_X1_init_11 : XM := x_zc z_X1_init_10 77
def z_X1_init_12 : XM := x_app 77 z_X1_init_11 z_X5_init
def z_X1_init_13 : XM := x_zc z_X1_init_12 92
def z_X1_init_14 : XM := x_app 92 z_X1_init_13 z_X5_init
def z_X1_init_15 : XM := x_zc z_X1_init_14 107
def z_X1_init_16 : XM := x_app 107 z_X1_init_15 z_X5_init
abbrev z_X1_init : XM := z_X1_init_16
set_option maxRecDepth 100000 in
set_option maxHeartbeats 4000000 in
theorem cn_X1_init {l : Launch} : CN l yX1_init cX1_init 2 3 121 536 (.inl (1, [2, 0, 0])) shHistory z_X1_init [] := by
  refine CN_of (by decide) rfl (fun _ => Nat.le_of_ble_eq_true rfl) ?_
  intro p e s m args below meth c D tc aK aV a X ha hNn hin
  have X : Cx p s m args meth c cX1_init 2 none RX1 D tc aK aV (fun q => a ≤ q) [([.inl (1, [2, 0, 0])], fun i => a + i)] := X
  show bW p l e (x_RmN 3 121 536) s m args below meth c D tc (fun q => a ≤ q) 2 [([.inl (1, [2, 0, 0])], fun i => a + i)] 0 0 (MQ below (x_Q none True D tc [(shHistory, fun i => a + i)] [z_X1_init] (fun q => a ≤ q)) args s 121 536 (fun q => a ≤ q)) 0 [(0, .ref (a + 0))] [] [x_z]
  refine a_aload_n (pc := 0) X 0 dX1_init_0 rfl rfl ?_
  refine a_obj (pc := 1) X ko_RX1 dX1_init_1 (Nat.le_of_ble_eq_true rfl) (Nat.le_of_ble_eq_true rfl) ?_
  refine a_aload_n (pc := 4) X 0 dX1_init_4 rfl rfl ?_
  refine a_bipush (pc := 5) X dX1_init_5 q_bp_8 ?_
  refine a_newq (pc := 7) (kc := 0) (ks := 0) (cur := (.inl (1, [2, 0, 0]) :: [])) (N := 8) X ha rfl hNn (x_tb (x_t2 (List.mem_of_getElem? (i := 150) rfl)) rfl) (by decide) (by decide) (by decide) dX1_init_7 ⟨Nat.le_of_ble_eq_true rfl, Nat.le_of_ble_eq_true rfl⟩ ?_
  have X := x_re X (.inl (1, [2, 0, 0]) :: [.inr (815 + 3, 8)])
  show bW p l e _ s m args below meth c D tc (fun q => a ≤ q) 2 [((.inl (1, [2, 0, 0]) :: [.inr (815 + 3, 8)]), fun i => a + i)] 1 8 _ 10 [(0, .ref (a + 0))] [.ref (a + 1), .ref (a + 0)] [z_X1_init_0]
  refine a_putR (pc := 10) (kc := 1) (ks := 8) (tl := [.inr (815 + 3, 8)]) (ci := 1) (kds := [2, 0, 0]) (o := 1) X hin fl_RX1_11 (fun _ _ _ h => by cases h; exact ⟨rfl, rfl⟩) rfl (by decide) rfl rfl dX1_init_10 ?_
  have X := x_re X (.inl (1, [3, 0, 0]) :: .inr (815 + 3, 8) :: [])
  show bW p l e _ s m args below meth c D tc (fun q => a ≤ q) 2 [((.inl (1, [3, 0, 0]) :: .inr (815 + 3, 8) :: []), fun i => a + i)] 1 8 _ 13 [(0, .ref (a + 0))] [] [z_X1_init_0]
  refine a_iconst (pc := 13) X dX1_init_13 q_ic_0 ?_
  refine a_istore_n (pc := 14) X [(1, .int 0), (0, .ref (a + 0))] dX1_init_14 rfl (by decide) rfl ?_
  show bW p l e _ s m args below meth c D tc (fun q => a ≤ q) 2 [((.inl (1, [3, 0, 0]) :: .inr (815 + 3, 8) :: []), fun i => a + i)] 1 8 _ 15 [(1, .int 0), (0, .ref (a + 0))] [] [z_X1_init_0]
  refine a_iload_n (pc := 15) X 0 dX1_init_15 rfl rfl ?_
  refine a_aload_n (pc := 16) X 1 dX1_init_16 rfl rfl ?_
  refine a_getR (pc := 17) (id := 0) (sh := (.inl (1, [3, 0, 0]) :: .inr (815 + 3, 8) :: [])) (ad := fun i => a + i) X 0 1 1 fl_RX1_11 rfl rfl rfl rfl rfl dX1_init_17 ?_
  refine a_alenR (pc := 20) (id := 1) (n := 8) (o := 815) (x := 8) (sh := (.inl (1, [3, 0, 0]) :: .inr (815 + 3, 8) :: [])) (ad := fun i => a + i) X 0 rfl rfl rfl rfl dX1_init_20 ?_
  refine a_icmp_ge (pc := 21) X 43 dX1_init_21 rfl (fun q => absurd q (by decide)) (fun _ => ?_)
  refine a_aload_n (pc := 24) X 1 dX1_init_24 rfl rfl ?_
  refine a_getR (pc := 25) (id := 0) (sh := (.inl (1, [3, 0, 0]) :: .inr (815 + 3, 8) :: [])) (ad := fun i => a + i) X 0 1 1 fl_RX1_11 rfl rfl rfl rfl rfl dX1_init_25 ?_
  refine a_iload_n (pc := 28) X 0 dX1_init_28 rfl rfl ?_
  refine a_new (pc := 29) (kc := 1) (ks := 8) (cur := (.inl (1, [3, 0, 0]) :: .inr (815 + 3, 8) :: [])) X ha (by decide +kernel) nw_RX1_9 dX1_init_29 ⟨Nat.le_of_ble_eq_true rfl, Nat.le_of_ble_eq_true rfl⟩ ?_
  have X := x_re X ((.inl (1, [3, 0, 0]) :: .inr (815 + 3, 8) :: []) ++ [.inl (5, [0, 0, 0, 2, 2, 2, 2, 2, 2, 2])])
  show bW p l e _ s m args below meth c D tc (fun q => a ≤ q) 2 [(((.inl (1, [3, 0, 0]) :: .inr (815 + 3, 8) :: []) ++ [.inl (5, [0, 0, 0, 2, 2, 2, 2, 2, 2, 2])]), fun i => a + i)] 2 18 _ 32 [(1, .int 0), (0, .ref (a + 0))] [.ref (a + 2), .int 0, .ref (a + 1)] [z_X1_init_1]
  refine a_dup (pc := 32) X dX1_init_32 rfl ?_
  refine a_cinit (pc := 33) (kc := 2) (ks := 18) (cur := (.inl (1, [3, 0, 0]) :: .inr (815 + 3, 8) :: [])) (k0 := .inl (5, [0, 0, 0, 2, 2, 2, 2, 2, 2, 2])) (v := z_X1_init_1) X ha (by decide +kernel) hNn [] [.ref (a + 2), .int 0, .ref (a + 1)] cn_X5_init ci_RX1_17 (by unfold z_X1_init_1; exact x_zc_z _ _) rfl rfl (Nat.le_of_ble_eq_true rfl) ⟨Nat.le_of_ble_eq_true rfl, Nat.le_of_ble_eq_true rfl⟩ ⟨Nat.le_of_ble_eq_true rfl, Nat.le_of_ble_eq_true rfl⟩ dX1_init_33 ?_
  have X := x_re X (.inl (1, [3, 0, 0]) :: .inr (815 + 3, 8) :: shState)
  show bW p l e _ s m args below meth c D tc (fun q => a ≤ q) 2 [((.inl (1, [3, 0, 0]) :: .inr (815 + 3, 8) :: shState), fun i => a + i)] 16 74 _ 36 [(1, .int 0), (0, .ref (a + 0))] [.ref (a + 2), .int 0, .ref (a + 1)] [z_X1_init_2]
  refine a_aastH (pc := 36) (x0 := .inl (1, [3, 0, 0])) (tl := shState) (K := 815) (K2 := 715) (n := 8) (j := 0) (kds := [0, 0, 0, 3, 5, 7, 9, 11, 13, 15]) X (by decide) (fun h => by rcases h with h | h <;> revert h <;> decide) rfl rfl rfl rfl rfl dX1_init_36 ?_
  have X := x_re X (.inl (1, [3, 0, 0]) :: .inr (715 + 3, 8) :: shState)
  show bW p l e _ s m args below meth c D tc (fun q => a ≤ q) 2 [((.inl (1, [3, 0, 0]) :: .inr (715 + 3, 8) :: shState), fun i => a + i)] 16 74 _ 37 [(1, .int 0), (0, .ref (a + 0))] [] [z_X1_init_2]
  refine a_iinc (pc := 37) (v := 1) X 0 [(1, .int 1), (0, .ref (a + 0))] dX1_init_37 rfl (by decide) (by decide) rfl ?_
  refine a_goto (pc := 40) X 15 dX1_init_40 rfl ?_
  show bW p l e _ s m args below meth c D tc (fun q => a ≤ q) 2 [((.inl (1, [3, 0, 0]) :: .inr (715 + 3, 8) :: shState), fun i => a + i)] 16 74 _ 15 [(1, .int 1), (0, .ref (a + 0))] [] [z_X1_init_2]
  refine a_iload_n (pc := 15) X 0 dX1_init_15 rfl rfl ?_
  refine a_aload_n (pc := 16) X 1 dX1_init_16 rfl rfl ?_
  refine a_getR (pc := 17) (id := 0) (sh := (.inl (1, [3, 0, 0]) :: .inr (715 + 3, 8) :: shState)) (ad := fun i => a + i) X 0 1 1 fl_RX1_11 rfl rfl rfl rfl rfl dX1_init_17 ?_
  refine a_alenR (pc := 20) (id := 1) (n := 8) (o := 715) (x := 8) (sh := (.inl (1, [3, 0, 0]) :: .inr (715 + 3, 8) :: shState)) (ad := fun i => a + i) X 0 rfl rfl rfl rfl dX1_init_20 ?_
  refine a_icmp_ge (pc := 21) X 43 dX1_init_21 rfl (fun q => absurd q (by decide)) (fun _ => ?_)
  refine a_aload_n (pc := 24) X 1 dX1_init_24 rfl rfl ?_
  refine a_getR (pc := 25) (id := 0) (sh := (.inl (1, [3, 0, 0]) :: .inr (715 + 3, 8) :: shState)) (ad := fun i => a + i) X 0 1 1 fl_RX1_11 rfl rfl rfl rfl rfl dX1_init_25 ?_
  refine a_iload_n (pc := 28) X 0 dX1_init_28 rfl rfl ?_
  refine a_new (pc := 29) (kc := 16) (ks := 74) (cur := (.inl (1, [3, 0, 0]) :: .inr (715 + 3, 8) :: shState)) X ha (by decide +kernel) nw_RX1_9 dX1_init_29 ⟨Nat.le_of_ble_eq_true rfl, Nat.le_of_ble_eq_true rfl⟩ ?_
  have X := x_re X ((.inl (1, [3, 0, 0]) :: .inr (715 + 3, 8) :: shState) ++ [.inl (5, [0, 0, 0, 2, 2, 2, 2, 2, 2, 2])])
  show bW p l e _ s m args below meth c D tc (fun q => a ≤ q) 2 [(((.inl (1, [3, 0, 0]) :: .inr (715 + 3, 8) :: shState) ++ [.inl (5, [0, 0, 0, 2, 2, 2, 2, 2, 2, 2])]), fun i => a + i)] 17 84 _ 32 [(1, .int 1), (0, .ref (a + 0))] [.ref (a + 17), .int 1, .ref (a + 1)] [z_X1_init_3]
  refine a_dup (pc := 32) X dX1_init_32 rfl ?_
  refine a_cinit (pc := 33) (kc := 17) (ks := 84) (cur := (.inl (1, [3, 0, 0]) :: .inr (715 + 3, 8) :: shState)) (k0 := .inl (5, [0, 0, 0, 2, 2, 2, 2, 2, 2, 2])) (v := z_X1_init_3) X ha (by decide +kernel) hNn [] [.ref (a + 17), .int 1, .ref (a + 1)] cn_X5_init ci_RX1_17 (by unfold z_X1_init_3; exact x_zc_z _ _) rfl rfl (Nat.le_of_ble_eq_true rfl) ⟨Nat.le_of_ble_eq_true rfl, Nat.le_of_ble_eq_true rfl⟩ ⟨Nat.le_of_ble_eq_true rfl, Nat.le_of_ble_eq_true rfl⟩ dX1_init_33 ?_
  have X := x_re X (.inl (1, [3, 0, 0]) :: .inr (715 + 3, 8) :: (shState ++ shState))
  show bW p l e _ s m args below meth c D tc (fun q => a ≤ q) 2 [((.inl (1, [3, 0, 0]) :: .inr (715 + 3, 8) :: (shState ++ shState)), fun i => a + i)] 31 140 _ 36 [(1, .int 1), (0, .ref (a + 0))] [.ref (a + 17), .int 1, .ref (a + 1)] [z_X1_init_4]
  refine a_aastH (pc := 36) (x0 := .inl (1, [3, 0, 0])) (tl := (shState ++ shState)) (K := 715) (K2 := 615) (n := 8) (j := 1) (kds := [0, 0, 0, 3, 5, 7, 9, 11, 13, 15]) X (by decide) (fun h => by rcases h with h | h <;> revert h <;> decide) rfl rfl rfl rfl rfl dX1_init_36 ?_
  have X := x_re X (.inl (1, [3, 0, 0]) :: .inr (615 + 3, 8) :: (shState ++ shState))
  show bW p l e _ s m args below meth c D tc (fun q => a ≤ q) 2 [((.inl (1, [3, 0, 0]) :: .inr (615 + 3, 8) :: (shState ++ shState)), fun i => a + i)] 31 140 _ 37 [(1, .int 1), (0, .ref (a + 0))] [] [z_X1_init_4]
  refine a_iinc (pc := 37) (v := 2) X 0 [(1, .int 2), (0, .ref (a + 0))] dX1_init_37 rfl (by decide) (by decide) rfl ?_
  refine a_goto (pc := 40) X 15 dX1_init_40 rfl ?_
  show bW p l e _ s m args below meth c D tc (fun q => a ≤ q) 2 [((.inl (1, [3, 0, 0]) :: .inr (615 + 3, 8) :: (shState ++ shState)), fun i => a + i)] 31 140 _ 15 [(1, .int 2), (0, .ref (a + 0))] [] [z_X1_init_4]
  refine a_iload_n (pc := 15) X 0 dX1_init_15 rfl rfl ?_
  refine a_aload_n (pc := 16) X 1 dX1_init_16 rfl rfl ?_
  refine a_getR (pc := 17) (id := 0) (sh := (.inl (1, [3, 0, 0]) :: .inr (615 + 3, 8) :: (shState ++ shState))) (ad := fun i => a + i) X 0 1 1 fl_RX1_11 rfl rfl rfl rfl rfl dX1_init_17 ?_
  refine a_alenR (pc := 20) (id := 1) (n := 8) (o := 615) (x := 8) (sh := (.inl (1, [3, 0, 0]) :: .inr (615 + 3, 8) :: (shState ++ shState))) (ad := fun i => a + i) X 0 rfl rfl rfl rfl dX1_init_20 ?_
  refine a_icmp_ge (pc := 21) X 43 dX1_init_21 rfl (fun q => absurd q (by decide)) (fun _ => ?_)
  refine a_aload_n (pc := 24) X 1 dX1_init_24 rfl rfl ?_
  refine a_getR (pc := 25) (id := 0) (sh := (.inl (1, [3, 0, 0]) :: .inr (615 + 3, 8) :: (shState ++ shState))) (ad := fun i => a + i) X 0 1 1 fl_RX1_11 rfl rfl rfl rfl rfl dX1_init_25 ?_
  refine a_iload_n (pc := 28) X 0 dX1_init_28 rfl rfl ?_
  refine a_new (pc := 29) (kc := 31) (ks := 140) (cur := (.inl (1, [3, 0, 0]) :: .inr (615 + 3, 8) :: (shState ++ shState))) X ha (by decide +kernel) nw_RX1_9 dX1_init_29 ⟨Nat.le_of_ble_eq_true rfl, Nat.le_of_ble_eq_true rfl⟩ ?_
  have X := x_re X ((.inl (1, [3, 0, 0]) :: .inr (615 + 3, 8) :: (shState ++ shState)) ++ [.inl (5, [0, 0, 0, 2, 2, 2, 2, 2, 2, 2])])
  show bW p l e _ s m args below meth c D tc (fun q => a ≤ q) 2 [(((.inl (1, [3, 0, 0]) :: .inr (615 + 3, 8) :: (shState ++ shState)) ++ [.inl (5, [0, 0, 0, 2, 2, 2, 2, 2, 2, 2])]), fun i => a + i)] 32 150 _ 32 [(1, .int 2), (0, .ref (a + 0))] [.ref (a + 32), .int 2, .ref (a + 1)] [z_X1_init_5]
  refine a_dup (pc := 32) X dX1_init_32 rfl ?_
  refine a_cinit (pc := 33) (kc := 32) (ks := 150) (cur := (.inl (1, [3, 0, 0]) :: .inr (615 + 3, 8) :: (shState ++ shState))) (k0 := .inl (5, [0, 0, 0, 2, 2, 2, 2, 2, 2, 2])) (v := z_X1_init_5) X ha (by decide +kernel) hNn [] [.ref (a + 32), .int 2, .ref (a + 1)] cn_X5_init ci_RX1_17 (by unfold z_X1_init_5; exact x_zc_z _ _) rfl rfl (Nat.le_of_ble_eq_true rfl) ⟨Nat.le_of_ble_eq_true rfl, Nat.le_of_ble_eq_true rfl⟩ ⟨Nat.le_of_ble_eq_true rfl, Nat.le_of_ble_eq_true rfl⟩ dX1_init_33 ?_
  have X := x_re X (.inl (1, [3, 0, 0]) :: .inr (615 + 3, 8) :: ((shState ++ shState) ++ shState))
  show bW p l e _ s m args below meth c D tc (fun q => a ≤ q) 2 [((.inl (1, [3, 0, 0]) :: .inr (615 + 3, 8) :: ((shState ++ shState) ++ shState)), fun i => a + i)] 46 206 _ 36 [(1, .int 2), (0, .ref (a + 0))] [.ref (a + 32), .int 2, .ref (a + 1)] [z_X1_init_6]
  refine a_aastH (pc := 36) (x0 := .inl (1, [3, 0, 0])) (tl := ((shState ++ shState) ++ shState)) (K := 615) (K2 := 515) (n := 8) (j := 2) (kds := [0, 0, 0, 3, 5, 7, 9, 11, 13, 15]) X (by decide) (fun h => by rcases h with h | h <;> revert h <;> decide) rfl rfl rfl rfl rfl dX1_init_36 ?_
  have X := x_re X (.inl (1, [3, 0, 0]) :: .inr (515 + 3, 8) :: ((shState ++ shState) ++ shState))
  show bW p l e _ s m args below meth c D tc (fun q => a ≤ q) 2 [((.inl (1, [3, 0, 0]) :: .inr (515 + 3, 8) :: ((shState ++ shState) ++ shState)), fun i => a + i)] 46 206 _ 37 [(1, .int 2), (0, .ref (a + 0))] [] [z_X1_init_6]
  refine a_iinc (pc := 37) (v := 3) X 0 [(1, .int 3), (0, .ref (a + 0))] dX1_init_37 rfl (by decide) (by decide) rfl ?_
  refine a_goto (pc := 40) X 15 dX1_init_40 rfl ?_
  show bW p l e _ s m args below meth c D tc (fun q => a ≤ q) 2 [((.inl (1, [3, 0, 0]) :: .inr (515 + 3, 8) :: ((shState ++ shState) ++ shState)), fun i => a + i)] 46 206 _ 15 [(1, .int 3), (0, .ref (a + 0))] [] [z_X1_init_6]
  refine a_iload_n (pc := 15) X 0 dX1_init_15 rfl rfl ?_
  refine a_aload_n (pc := 16) X 1 dX1_init_16 rfl rfl ?_
  refine a_getR (pc := 17) (id := 0) (sh := (.inl (1, [3, 0, 0]) :: .inr (515 + 3, 8) :: ((shState ++ shState) ++ shState))) (ad := fun i => a + i) X 0 1 1 fl_RX1_11 rfl rfl rfl rfl rfl dX1_init_17 ?_
  refine a_alenR (pc := 20) (id := 1) (n := 8) (o := 515) (x := 8) (sh := (.inl (1, [3, 0, 0]) :: .inr (515 + 3, 8) :: ((shState ++ shState) ++ shState))) (ad := fun i => a + i) X 0 rfl rfl rfl rfl dX1_init_20 ?_
  refine a_icmp_ge (pc := 21) X 43 dX1_init_21 rfl (fun q => absurd q (by decide)) (fun _ => ?_)
  refine a_aload_n (pc := 24) X 1 dX1_init_24 rfl rfl ?_
  refine a_getR (pc := 25) (id := 0) (sh := (.inl (1, [3, 0, 0]) :: .inr (515 + 3, 8) :: ((shState ++ shState) ++ shState))) (ad := fun i => a + i) X 0 1 1 fl_RX1_11 rfl rfl rfl rfl rfl dX1_init_25 ?_
  refine a_iload_n (pc := 28) X 0 dX1_init_28 rfl rfl ?_
  refine a_new (pc := 29) (kc := 46) (ks := 206) (cur := (.inl (1, [3, 0, 0]) :: .inr (515 + 3, 8) :: ((shState ++ shState) ++ shState))) X ha (by decide +kernel) nw_RX1_9 dX1_init_29 ⟨Nat.le_of_ble_eq_true rfl, Nat.le_of_ble_eq_true rfl⟩ ?_
  have X := x_re X ((.inl (1, [3, 0, 0]) :: .inr (515 + 3, 8) :: ((shState ++ shState) ++ shState)) ++ [.inl (5, [0, 0, 0, 2, 2, 2, 2, 2, 2, 2])])
  show bW p l e _ s m args below meth c D tc (fun q => a ≤ q) 2 [(((.inl (1, [3, 0, 0]) :: .inr (515 + 3, 8) :: ((shState ++ shState) ++ shState)) ++ [.inl (5, [0, 0, 0, 2, 2, 2, 2, 2, 2, 2])]), fun i => a + i)] 47 216 _ 32 [(1, .int 3), (0, .ref (a + 0))] [.ref (a + 47), .int 3, .ref (a + 1)] [z_X1_init_7]
  refine a_dup (pc := 32) X dX1_init_32 rfl ?_
  refine a_cinit (pc := 33) (kc := 47) (ks := 216) (cur := (.inl (1, [3, 0, 0]) :: .inr (515 + 3, 8) :: ((shState ++ shState) ++ shState))) (k0 := .inl (5, [0, 0, 0, 2, 2, 2, 2, 2, 2, 2])) (v := z_X1_init_7) X ha (by decide +kernel) hNn [] [.ref (a + 47), .int 3, .ref (a + 1)] cn_X5_init ci_RX1_17 (by unfold z_X1_init_7; exact x_zc_z _ _) rfl rfl (Nat.le_of_ble_eq_true rfl) ⟨Nat.le_of_ble_eq_true rfl, Nat.le_of_ble_eq_true rfl⟩ ⟨Nat.le_of_ble_eq_true rfl, Nat.le_of_ble_eq_true rfl⟩ dX1_init_33 ?_
  have X := x_re X (.inl (1, [3, 0, 0]) :: .inr (515 + 3, 8) :: (((shState ++ shState) ++ shState) ++ shState))
  show bW p l e _ s m args below meth c D tc (fun q => a ≤ q) 2 [((.inl (1, [3, 0, 0]) :: .inr (515 + 3, 8) :: (((shState ++ shState) ++ shState) ++ shState)), fun i => a + i)] 61 272 _ 36 [(1, .int 3), (0, .ref (a + 0))] [.ref (a + 47), .int 3, .ref (a + 1)] [z_X1_init_8]
  refine a_aastH (pc := 36) (x0 := .inl (1, [3, 0, 0])) (tl := (((shState ++ shState) ++ shState) ++ shState)) (K := 515) (K2 := 415) (n := 8) (j := 3) (kds := [0, 0, 0, 3, 5, 7, 9, 11, 13, 15]) X (by decide) (fun h => by rcases h with h | h <;> revert h <;> decide) rfl rfl rfl rfl rfl dX1_init_36 ?_
  have X := x_re X (.inl (1, [3, 0, 0]) :: .inr (415 + 3, 8) :: (((shState ++ shState) ++ shState) ++ shState))
  show bW p l e _ s m args below meth c D tc (fun q => a ≤ q) 2 [((.inl (1, [3, 0, 0]) :: .inr (415 + 3, 8) :: (((shState ++ shState) ++ shState) ++ shState)), fun i => a + i)] 61 272 _ 37 [(1, .int 3), (0, .ref (a + 0))] [] [z_X1_init_8]
  refine a_iinc (pc := 37) (v := 4) X 0 [(1, .int 4), (0, .ref (a + 0))] dX1_init_37 rfl (by decide) (by decide) rfl ?_
  refine a_goto (pc := 40) X 15 dX1_init_40 rfl ?_
  show bW p l e _ s m args below meth c D tc (fun q => a ≤ q) 2 [((.inl (1, [3, 0, 0]) :: .inr (415 + 3, 8) :: (((shState ++ shState) ++ shState) ++ shState)), fun i => a + i)] 61 272 _ 15 [(1, .int 4), (0, .ref (a + 0))] [] [z_X1_init_8]
  refine a_iload_n (pc := 15) X 0 dX1_init_15 rfl rfl ?_
  refine a_aload_n (pc := 16) X 1 dX1_init_16 rfl rfl ?_
  refine a_getR (pc := 17) (id := 0) (sh := (.inl (1, [3, 0, 0]) :: .inr (415 + 3, 8) :: (((shState ++ shState) ++ shState) ++ shState))) (ad := fun i => a + i) X 0 1 1 fl_RX1_11 rfl rfl rfl rfl rfl dX1_init_17 ?_
  refine a_alenR (pc := 20) (id := 1) (n := 8) (o := 415) (x := 8) (sh := (.inl (1, [3, 0, 0]) :: .inr (415 + 3, 8) :: (((shState ++ shState) ++ shState) ++ shState))) (ad := fun i => a + i) X 0 rfl rfl rfl rfl dX1_init_20 ?_
  refine a_icmp_ge (pc := 21) X 43 dX1_init_21 rfl (fun q => absurd q (by decide)) (fun _ => ?_)
  refine a_aload_n (pc := 24) X 1 dX1_init_24 rfl rfl ?_
  refine a_getR (pc := 25) (id := 0) (sh := (.inl (1, [3, 0, 0]) :: .inr (415 + 3, 8) :: (((shState ++ shState) ++ shState) ++ shState))) (ad := fun i => a + i) X 0 1 1 fl_RX1_11 rfl rfl rfl rfl rfl dX1_init_25 ?_
  refine a_iload_n (pc := 28) X 0 dX1_init_28 rfl rfl ?_
  refine a_new (pc := 29) (kc := 61) (ks := 272) (cur := (.inl (1, [3, 0, 0]) :: .inr (415 + 3, 8) :: (((shState ++ shState) ++ shState) ++ shState))) X ha (by decide +kernel) nw_RX1_9 dX1_init_29 ⟨Nat.le_of_ble_eq_true rfl, Nat.le_of_ble_eq_true rfl⟩ ?_
  have X := x_re X ((.inl (1, [3, 0, 0]) :: .inr (415 + 3, 8) :: (((shState ++ shState) ++ shState) ++ shState)) ++ [.inl (5, [0, 0, 0, 2, 2, 2, 2, 2, 2, 2])])
  show bW p l e _ s m args below meth c D tc (fun q => a ≤ q) 2 [(((.inl (1, [3, 0, 0]) :: .inr (415 + 3, 8) :: (((shState ++ shState) ++ shState) ++ shState)) ++ [.inl (5, [0, 0, 0, 2, 2, 2, 2, 2, 2, 2])]), fun i => a + i)] 62 282 _ 32 [(1, .int 4), (0, .ref (a + 0))] [.ref (a + 62), .int 4, .ref (a + 1)] [z_X1_init_9]
  refine a_dup (pc := 32) X dX1_init_32 rfl ?_
  refine a_cinit (pc := 33) (kc := 62) (ks := 282) (cur := (.inl (1, [3, 0, 0]) :: .inr (415 + 3, 8) :: (((shState ++ shState) ++ shState) ++ shState))) (k0 := .inl (5, [0, 0, 0, 2, 2, 2, 2, 2, 2, 2])) (v := z_X1_init_9) X ha (by decide +kernel) hNn [] [.ref (a + 62), .int 4, .ref (a + 1)] cn_X5_init ci_RX1_17 (by unfold z_X1_init_9; exact x_zc_z _ _) rfl rfl (Nat.le_of_ble_eq_true rfl) ⟨Nat.le_of_ble_eq_true rfl, Nat.le_of_ble_eq_true rfl⟩ ⟨Nat.le_of_ble_eq_true rfl, Nat.le_of_ble_eq_true rfl⟩ dX1_init_33 ?_
  have X := x_re X (.inl (1, [3, 0, 0]) :: .inr (415 + 3, 8) :: ((((shState ++ shState) ++ shState) ++ shState) ++ shState))
  show bW p l e _ s m args below meth c D tc (fun q => a ≤ q) 2 [((.inl (1, [3, 0, 0]) :: .inr (415 + 3, 8) :: ((((shState ++ shState) ++ shState) ++ shState) ++ shState)), fun i => a + i)] 76 338 _ 36 [(1, .int 4), (0, .ref (a + 0))] [.ref (a + 62), .int 4, .ref (a + 1)] [z_X1_init_10]
  refine a_aastH (pc := 36) (x0 := .inl (1, [3, 0, 0])) (tl := ((((shState ++ shState) ++ shState) ++ shState) ++ shState)) (K := 415) (K2 := 315) (n := 8) (j := 4) (kds := [0, 0, 0, 3, 5, 7, 9, 11, 13, 15]) X (by decide) (fun h => by rcases h with h | h <;> revert h <;> decide) rfl rfl rfl rfl rfl dX1_init_36 ?_
  have X := x_re X (.inl (1, [3, 0, 0]) :: .inr (315 + 3, 8) :: ((((shState ++ shState) ++ shState) ++ shState) ++ shState))
  show bW p l e _ s m args below meth c D tc (fun q => a ≤ q) 2 [((.inl (1, [3, 0, 0]) :: .inr (315 + 3, 8) :: ((((shState ++ shState) ++ shState) ++ shState) ++ shState)), fun i => a + i)] 76 338 _ 37 [(1, .int 4), (0, .ref (a + 0))] [] [z_X1_init_10]
  refine a_iinc (pc := 37) (v := 5) X 0 [(1, .int 5), (0, .ref (a + 0))] dX1_init_37 rfl (by decide) (by decide) rfl ?_
  refine a_goto (pc := 40) X 15 dX1_init_40 rfl ?_
  show bW p l e _ s m args below meth c D tc (fun q => a ≤ q) 2 [((.inl (1, [3, 0, 0]) :: .inr (315 + 3, 8) :: ((((shState ++ shState) ++ shState) ++ shState) ++ shState)), fun i => a + i)] 76 338 _ 15 [(1, .int 5), (0, .ref (a + 0))] [] [z_X1_init_10]
  refine a_iload_n (pc := 15) X 0 dX1_init_15 rfl rfl ?_
  refine a_aload_n (pc := 16) X 1 dX1_init_16 rfl rfl ?_
  refine a_getR (pc := 17) (id := 0) (sh := (.inl (1, [3, 0, 0]) :: .inr (315 + 3, 8) :: ((((shState ++ shState) ++ shState) ++ shState) ++ shState))) (ad := fun i => a + i) X 0 1 1 fl_RX1_11 rfl rfl rfl rfl rfl dX1_init_17 ?_
  refine a_alenR (pc := 20) (id := 1) (n := 8) (o := 315) (x := 8) (sh := (.inl (1, [3, 0, 0]) :: .inr (315 + 3, 8) :: ((((shState ++ shState) ++ shState) ++ shState) ++ shState))) (ad := fun i => a + i) X 0 rfl rfl rfl rfl dX1_init_20 ?_
  refine a_icmp_ge (pc := 21) X 43 dX1_init_21 rfl (fun q => absurd q (by decide)) (fun _ => ?_)
  refine a_aload_n (pc := 24) X 1 dX1_init_24 rfl rfl ?_
  refine a_getR (pc := 25) (id := 0) (sh := (.inl (1, [3, 0, 0]) :: .inr (315 + 3, 8) :: ((((shState ++ shState) ++ shState) ++ shState) ++ shState))) (ad := fun i => a + i) X 0 1 1 fl_RX1_11 rfl rfl rfl rfl rfl dX1_init_25 ?_
  refine a_iload_n (pc := 28) X 0 dX1_init_28 rfl rfl ?_
  refine a_new (pc := 29) (kc := 76) (ks := 338) (cur := (.inl (1, [3, 0, 0]) :: .inr (315 + 3, 8) :: ((((shState ++ shState) ++ shState) ++ shState) ++ shState))) X ha (by decide +kernel) nw_RX1_9 dX1_init_29 ⟨Nat.le_of_ble_eq_true rfl, Nat.le_of_ble_eq_true rfl⟩ ?_
  have X := x_re X ((.inl (1, [3, 0, 0]) :: .inr (315 + 3, 8) :: ((((shState ++ shState) ++ shState) ++ shState) ++ shState)) ++ [.inl (5, [0, 0, 0, 2, 2, 2, 2, 2, 2, 2])])
  show bW p l e _ s m args below meth c D tc (fun q => a ≤ q) 2 [(((.inl (1, [3, 0, 0]) :: .inr (315 + 3, 8) :: ((((shState ++ shState) ++ shState) ++ shState) ++ shState)) ++ [.inl (5, [0, 0, 0, 2, 2, 2, 2, 2, 2, 2])]), fun i => a + i)] 77 348 _ 32 [(1, .int 5), (0, .ref (a + 0))] [.ref (a + 77), .int 5, .ref (a + 1)] [z_X1_init_11]
  refine a_dup (pc := 32) X dX1_init_32 rfl ?_
  refine a_cinit (pc := 33) (kc := 77) (ks := 348) (cur := (.inl (1, [3, 0, 0]) :: .inr (315 + 3, 8) :: ((((shState ++ shState) ++ shState) ++ shState) ++ shState))) (k0 := .inl (5, [0, 0, 0, 2, 2, 2, 2, 2, 2, 2])) (v := z_X1_init_11) X ha (by decide +kernel) hNn [] [.ref (a + 77), .int 5, .ref (a + 1)] cn_X5_init ci_RX1_17 (by unfold z_X1_init_11; exact x_zc_z _ _) rfl rfl (Nat.le_of_ble_eq_true rfl) ⟨Nat.le_of_ble_eq_true rfl, Nat.le_of_ble_eq_true rfl⟩ ⟨Nat.le_of_ble_eq_true rfl, Nat.le_of_ble_eq_true rfl⟩ dX1_init_33 ?_
  have X := x_re X (.inl (1, [3, 0, 0]) :: .inr (315 + 3, 8) :: (((((shState ++ shState) ++ shState) ++ shState) ++ shState) ++ shState))
  show bW p l e _ s m args below meth c D tc (fun q => a ≤ q) 2 [((.inl (1, [3, 0, 0]) :: .inr (315 + 3, 8) :: (((((shState ++ shState) ++ shState) ++ shState) ++ shState) ++ shState)), fun i => a + i)] 91 404 _ 36 [(1, .int 5), (0, .ref (a + 0))] [.ref (a + 77), .int 5, .ref (a + 1)] [z_X1_init_12]
  refine a_aastH (pc := 36) (x0 := .inl (1, [3, 0, 0])) (tl := (((((shState ++ shState) ++ shState) ++ shState) ++ shState) ++ shState)) (K := 315) (K2 := 215) (n := 8) (j := 5) (kds := [0, 0, 0, 3, 5, 7, 9, 11, 13, 15]) X (by decide) (fun h => by rcases h with h | h <;> revert h <;> decide) rfl rfl rfl rfl rfl dX1_init_36 ?_
  have X := x_re X (.inl (1, [3, 0, 0]) :: .inr (215 + 3, 8) :: (((((shState ++ shState) ++ shState) ++ shState) ++ shState) ++ shState))
  show bW p l e _ s m args below meth c D tc (fun q => a ≤ q) 2 [((.inl (1, [3, 0, 0]) :: .inr (215 + 3, 8) :: (((((shState ++ shState) ++ shState) ++ shState) ++ shState) ++ shState)), fun i => a + i)] 91 404 _ 37 [(1, .int 5), (0, .ref (a + 0))] [] [z_X1_init_12]
  refine a_iinc (pc := 37) (v := 6) X 0 [(1, .int 6), (0, .ref (a + 0))] dX1_init_37 rfl (by decide) (by decide) rfl ?_
  refine a_goto (pc := 40) X 15 dX1_init_40 rfl ?_
  show bW p l e _ s m args below meth c D tc (fun q => a ≤ q) 2 [((.inl (1, [3, 0, 0]) :: .inr (215 + 3, 8) :: (((((shState ++ shState) ++ shState) ++ shState) ++ shState) ++ shState)), fun i => a + i)] 91 404 _ 15 [(1, .int 6), (0, .ref (a + 0))] [] [z_X1_init_12]
  refine a_iload_n (pc := 15) X 0 dX1_init_15 rfl rfl ?_
  refine a_aload_n (pc := 16) X 1 dX1_init_16 rfl rfl ?_
  refine a_getR (pc := 17) (id := 0) (sh := (.inl (1, [3, 0, 0]) :: .inr (215 + 3, 8) :: (((((shState ++ shState) ++ shState) ++ shState) ++ shState) ++ shState))) (ad := fun i => a + i) X 0 1 1 fl_RX1_11 rfl rfl rfl rfl rfl dX1_init_17 ?_
  refine a_alenR (pc := 20) (id := 1) (n := 8) (o := 215) (x := 8) (sh := (.inl (1, [3, 0, 0]) :: .inr (215 + 3, 8) :: (((((shState ++ shState) ++ shState) ++ shState) ++ shState) ++ shState))) (ad := fun i => a + i) X 0 rfl rfl rfl rfl dX1_init_20 ?_
  refine a_icmp_ge (pc := 21) X 43 dX1_init_21 rfl (fun q => absurd q (by decide)) (fun _ => ?_)
  refine a_aload_n (pc := 24) X 1 dX1_init_24 rfl rfl ?_
  refine a_getR (pc := 25) (id := 0) (sh := (.inl (1, [3, 0, 0]) :: .inr (215 + 3, 8) :: (((((shState ++ shState) ++ shState) ++ shState) ++ shState) ++ shState))) (ad := fun i => a + i) X 0 1 1 fl_RX1_11 rfl rfl rfl rfl rfl dX1_init_25 ?_
  refine a_iload_n (pc := 28) X 0 dX1_init_28 rfl rfl ?_
  refine a_new (pc := 29) (kc := 91) (ks := 404) (cur := (.inl (1, [3, 0, 0]) :: .inr (215 + 3, 8) :: (((((shState ++ shState) ++ shState) ++ shState) ++ shState) ++ shState))) X ha (by decide +kernel) nw_RX1_9 dX1_init_29 ⟨Nat.le_of_ble_eq_true rfl, Nat.le_of_ble_eq_true rfl⟩ ?_
  have X := x_re X ((.inl (1, [3, 0, 0]) :: .inr (215 + 3, 8) :: (((((shState ++ shState) ++ shState) ++ shState) ++ shState) ++ shState)) ++ [.inl (5, [0, 0, 0, 2, 2, 2, 2, 2, 2, 2])])
  show bW p l e _ s m args below meth c D tc (fun q => a ≤ q) 2 [(((.inl (1, [3, 0, 0]) :: .inr (215 + 3, 8) :: (((((shState ++ shState) ++ shState) ++ shState) ++ shState) ++ shState)) ++ [.inl (5, [0, 0, 0, 2, 2, 2, 2, 2, 2, 2])]), fun i => a + i)] 92 414 _ 32 [(1, .int 6), (0, .ref (a + 0))] [.ref (a + 92), .int 6, .ref (a + 1)] [z_X1_init_13]
  refine a_dup (pc := 32) X dX1_init_32 rfl ?_
  refine a_cinit (pc := 33) (kc := 92) (ks := 414) (cur := (.inl (1, [3, 0, 0]) :: .inr (215 + 3, 8) :: (((((shState ++ shState) ++ shState) ++ shState) ++ shState) ++ shState))) (k0 := .inl (5, [0, 0, 0, 2, 2, 2, 2, 2, 2, 2])) (v := z_X1_init_13) X ha (by decide +kernel) hNn [] [.ref (a + 92), .int 6, .ref (a + 1)] cn_X5_init ci_RX1_17 (by unfold z_X1_init_13; exact x_zc_z _ _) rfl rfl (Nat.le_of_ble_eq_true rfl) ⟨Nat.le_of_ble_eq_true rfl, Nat.le_of_ble_eq_true rfl⟩ ⟨Nat.le_of_ble_eq_true rfl, Nat.le_of_ble_eq_true rfl⟩ dX1_init_33 ?_
  have X := x_re X (.inl (1, [3, 0, 0]) :: .inr (215 + 3, 8) :: ((((((shState ++ shState) ++ shState) ++ shState) ++ shState) ++ shState) ++ shState))
  show bW p l e _ s m args below meth c D tc (fun q => a ≤ q) 2 [((.inl (1, [3, 0, 0]) :: .inr (215 + 3, 8) :: ((((((shState ++ shState) ++ shState) ++ shState) ++ shState) ++ shState) ++ shState)), fun i => a + i)] 106 470 _ 36 [(1, .int 6), (0, .ref (a + 0))] [.ref (a + 92), .int 6, .ref (a + 1)] [z_X1_init_14]
  refine a_aastH (pc := 36) (x0 := .inl (1, [3, 0, 0])) (tl := ((((((shState ++ shState) ++ shState) ++ shState) ++ shState) ++ shState) ++ shState)) (K := 215) (K2 := 115) (n := 8) (j := 6) (kds := [0, 0, 0, 3, 5, 7, 9, 11, 13, 15]) X (by decide) (fun h => by rcases h with h | h <;> revert h <;> decide) rfl rfl rfl rfl rfl dX1_init_36 ?_
  have X := x_re X (.inl (1, [3, 0, 0]) :: .inr (115 + 3, 8) :: ((((((shState ++ shState) ++ shState) ++ shState) ++ shState) ++ shState) ++ shState))
  show bW p l e _ s m args below meth c D tc (fun q => a ≤ q) 2 [((.inl (1, [3, 0, 0]) :: .inr (115 + 3, 8) :: ((((((shState ++ shState) ++ shState) ++ shState) ++ shState) ++ shState) ++ shState)), fun i => a + i)] 106 470 _ 37 [(1, .int 6), (0, .ref (a + 0))] [] [z_X1_init_14]
  refine a_iinc (pc := 37) (v := 7) X 0 [(1, .int 7), (0, .ref (a + 0))] dX1_init_37 rfl (by decide) (by decide) rfl ?_
  refine a_goto (pc := 40) X 15 dX1_init_40 rfl ?_
  show bW p l e _ s m args below meth c D tc (fun q => a ≤ q) 2 [((.inl (1, [3, 0, 0]) :: .inr (115 + 3, 8) :: ((((((shState ++ shState) ++ shState) ++ shState) ++ shState) ++ shState) ++ shState)), fun i => a + i)] 106 470 _ 15 [(1, .int 7), (0, .ref (a + 0))] [] [z_X1_init_14]
  refine a_iload_n (pc := 15) X 0 dX1_init_15 rfl rfl ?_
  refine a_aload_n (pc := 16) X 1 dX1_init_16 rfl rfl ?_
  refine a_getR (pc := 17) (id := 0) (sh := (.inl (1, [3, 0, 0]) :: .inr (115 + 3, 8) :: ((((((shState ++ shState) ++ shState) ++ shState) ++ shState) ++ shState) ++ shState))) (ad := fun i => a + i) X 0 1 1 fl_RX1_11 rfl rfl rfl rfl rfl dX1_init_17 ?_
  refine a_alenR (pc := 20) (id := 1) (n := 8) (o := 115) (x := 8) (sh := (.inl (1, [3, 0, 0]) :: .inr (115 + 3, 8) :: ((((((shState ++ shState) ++ shState) ++ shState) ++ shState) ++ shState) ++ shState))) (ad := fun i => a + i) X 0 rfl rfl rfl rfl dX1_init_20 ?_
  refine a_icmp_ge (pc := 21) X 43 dX1_init_21 rfl (fun q => absurd q (by decide)) (fun _ => ?_)
  refine a_aload_n (pc := 24) X 1 dX1_init_24 rfl rfl ?_
  refine a_getR (pc := 25) (id := 0) (sh := (.inl (1, [3, 0, 0]) :: .inr (115 + 3, 8) :: ((((((shState ++ shState) ++ shState) ++ shState) ++ shState) ++ shState) ++ shState))) (ad := fun i => a + i) X 0 1 1 fl_RX1_11 rfl rfl rfl rfl rfl dX1_init_25 ?_
  refine a_iload_n (pc := 28) X 0 dX1_init_28 rfl rfl ?_
  refine a_new (pc := 29) (kc := 106) (ks := 470) (cur := (.inl (1, [3, 0, 0]) :: .inr (115 + 3, 8) :: ((((((shState ++ shState) ++ shState) ++ shState) ++ shState) ++ shState) ++ shState))) X ha (by decide +kernel) nw_RX1_9 dX1_init_29 ⟨Nat.le_of_ble_eq_true rfl, Nat.le_of_ble_eq_true rfl⟩ ?_
  have X := x_re X ((.inl (1, [3, 0, 0]) :: .inr (115 + 3, 8) :: ((((((shState ++ shState) ++ shState) ++ shState) ++ shState) ++ shState) ++ shState)) ++ [.inl (5, [0, 0, 0, 2, 2, 2, 2, 2, 2, 2])])
  show bW p l e _ s m args below meth c D tc (fun q => a ≤ q) 2 [(((.inl (1, [3, 0, 0]) :: .inr (115 + 3, 8) :: ((((((shState ++ shState) ++ shState) ++ shState) ++ shState) ++ shState) ++ shState)) ++ [.inl (5, [0, 0, 0, 2, 2, 2, 2, 2, 2, 2])]), fun i => a + i)] 107 480 _ 32 [(1, .int 7), (0, .ref (a + 0))] [.ref (a + 107), .int 7, .ref (a + 1)] [z_X1_init_15]
  refine a_dup (pc := 32) X dX1_init_32 rfl ?_
  refine a_cinit (pc := 33) (kc := 107) (ks := 480) (cur := (.inl (1, [3, 0, 0]) :: .inr (115 + 3, 8) :: ((((((shState ++ shState) ++ shState) ++ shState) ++ shState) ++ shState) ++ shState))) (k0 := .inl (5, [0, 0, 0, 2, 2, 2, 2, 2, 2, 2])) (v := z_X1_init_15) X ha (by decide +kernel) hNn [] [.ref (a + 107), .int 7, .ref (a + 1)] cn_X5_init ci_RX1_17 (by unfold z_X1_init_15; exact x_zc_z _ _) rfl rfl (Nat.le_of_ble_eq_true rfl) ⟨Nat.le_of_ble_eq_true rfl, Nat.le_of_ble_eq_true rfl⟩ ⟨Nat.le_of_ble_eq_true rfl, Nat.le_of_ble_eq_true rfl⟩ dX1_init_33 ?_
  have X := x_re X (.inl (1, [3, 0, 0]) :: .inr (115 + 3, 8) :: (((((((shState ++ shState) ++ shState) ++ shState) ++ shState) ++ shState) ++ shState) ++ shState))
  show bW p l e _ s m args below meth c D tc (fun q => a ≤ q) 2 [((.inl (1, [3, 0, 0]) :: .inr (115 + 3, 8) :: (((((((shState ++ shState) ++ shState) ++ shState) ++ shState) ++ shState) ++ shState) ++ shState)), fun i => a + i)] 121 536 _ 36 [(1, .int 7), (0, .ref (a + 0))] [.ref (a + 107), .int 7, .ref (a + 1)] [z_X1_init_16]
  refine a_aastH (pc := 36) (x0 := .inl (1, [3, 0, 0])) (tl := (((((((shState ++ shState) ++ shState) ++ shState) ++ shState) ++ shState) ++ shState) ++ shState)) (K := 115) (K2 := 15) (n := 8) (j := 7) (kds := [0, 0, 0, 3, 5, 7, 9, 11, 13, 15]) X (by decide) (fun h => by rcases h with h | h <;> revert h <;> decide) rfl rfl rfl rfl rfl dX1_init_36 ?_
  have X := x_re X (.inl (1, [3, 0, 0]) :: .inr (15 + 3, 8) :: (((((((shState ++ shState) ++ shState) ++ shState) ++ shState) ++ shState) ++ shState) ++ shState))
  show bW p l e _ s m args below meth c D tc (fun q => a ≤ q) 2 [((.inl (1, [3, 0, 0]) :: .inr (15 + 3, 8) :: (((((((shState ++ shState) ++ shState) ++ shState) ++ shState) ++ shState) ++ shState) ++ shState)), fun i => a + i)] 121 536 _ 37 [(1, .int 7), (0, .ref (a + 0))] [] [z_X1_init_16]
  refine a_iinc (pc := 37) (v := 8) X 0 [(1, .int 8), (0, .ref (a + 0))] dX1_init_37 rfl (by decide) (by decide) rfl ?_
  refine a_goto (pc := 40) X 15 dX1_init_40 rfl ?_
  show bW p l e _ s m args below meth c D tc (fun q => a ≤ q) 2 [((.inl (1, [3, 0, 0]) :: .inr (15 + 3, 8) :: (((((((shState ++ shState) ++ shState) ++ shState) ++ shState) ++ shState) ++ shState) ++ shState)), fun i => a + i)] 121 536 _ 15 [(1, .int 8), (0, .ref (a + 0))] [] [z_X1_init_16]
  refine a_iload_n (pc := 15) X 0 dX1_init_15 rfl rfl ?_
  refine a_aload_n (pc := 16) X 1 dX1_init_16 rfl rfl ?_
  refine a_getR (pc := 17) (id := 0) (sh := (.inl (1, [3, 0, 0]) :: .inr (15 + 3, 8) :: (((((((shState ++ shState) ++ shState) ++ shState) ++ shState) ++ shState) ++ shState) ++ shState))) (ad := fun i => a + i) X 0 1 1 fl_RX1_11 rfl rfl rfl rfl rfl dX1_init_17 ?_
  refine a_alenR (pc := 20) (id := 1) (n := 8) (o := 15) (x := 8) (sh := (.inl (1, [3, 0, 0]) :: .inr (15 + 3, 8) :: (((((((shState ++ shState) ++ shState) ++ shState) ++ shState) ++ shState) ++ shState) ++ shState))) (ad := fun i => a + i) X 0 rfl rfl rfl rfl dX1_init_20 ?_
  refine a_icmp_ge (pc := 21) X 43 dX1_init_21 rfl (fun _ => ?_) (fun q => absurd (by decide) q)
  have X := x_re X shHistory
  exact a_vret (pc := 43) X trivial dX1_init_43
theorem ko_RX11 : Cond.methodLink RX11 3 Lib.objectInit ∈ x_TB ∧ Cond.instanceMethod Lib.objectInit ∈ x_TB ∧ Cond.code Lib.objectInit ⟨#[0xb1]⟩ 1 none ∈ x_TB := ⟨(x_tb (x_t1 (List.mem_of_getElem? (i := 29) rfl)) rfl), (x_tb (x_t1 (List.mem_of_getElem? (i := 30) rfl)) rfl), (x_tb (x_t1 (List.mem_of_getElem? (i := 31) rfl)) rfl)⟩
theorem nw_RX11_9 : x_nw RX11 9 8 12 [2, 2, 0, 0, 0, 0, 0, 0, 0, 1, 0, 0] := ⟨RX8, TX8, tyX8, rfl, (x_tb (x_t1 (List.mem_of_getElem? (i := 32) rfl)) rfl), (x_tb (x_t1 (List.mem_of_getElem? (i := 33) rfl)) rfl), (x_tb (x_t1 (List.mem_of_getElem? (i := 2) rfl)) rfl), wsIn8, tyX8_ok, fun j hj => by
  match j, hj with
  | 0, _ => exact Or.inr (Or.inr ⟨rfl, rfl⟩)
  | 1, _ => exact Or.inr (Or.inr ⟨rfl, rfl⟩)
  | 2, _ => exact Or.inl ⟨rfl, rfl⟩
  | 3, _ => exact Or.inl ⟨rfl, rfl⟩
  | 4, _ => exact Or.inl ⟨rfl, rfl⟩
  | 5, _ => exact Or.inl ⟨rfl, rfl⟩
  | 6, _ => exact Or.inl ⟨rfl, rfl⟩
  | 7, _ => exact Or.inl ⟨rfl, rfl⟩
  | 8, _ => exact Or.inl ⟨rfl, rfl⟩
  | 9, _ => exact Or.inr (Or.inl ⟨rfl, rfl⟩)
  | 10, _ => exact Or.inl ⟨rfl, rfl⟩
  | 11, _ => exact Or.inl ⟨rfl, rfl⟩
  | j + 12, h => exact absurd h (by omega)⟩
theorem ci_RX11_11 : x_ci RX11 11 yX8_init cX8_init 4 0 := ⟨Or.inl (x_tb (x_t1 (List.mem_of_getElem? (i := 34) rfl)) rfl), (x_tb (x_t1 (List.mem_of_getElem? (i := 35) rfl)) rfl), (x_tb (x_t1 (List.mem_of_getElem? (i := 2) rfl)) rfl), (x_tb (x_t1 (List.mem_of_getElem? (i := 36) rfl)) rfl), by decide, by decide, by decide +kernel, rfl⟩
theorem nw_RX11_16 : x_nw RX11 16 10 5 [2, 2, 2, 0, 0] := ⟨RX10, TX10, tyX10, rfl, (x_tb (x_t1 (List.mem_of_getElem? (i := 151) rfl)) rfl), (x_tb (x_t1 (List.mem_of_getElem? (i := 152) rfl)) rfl), (x_tb (x_t1 (List.mem_of_getElem? (i := 8) rfl)) rfl), wsIn10, tyX10_ok, fun j hj => by
  match j, hj with
  | 0, _ => exact Or.inr (Or.inr ⟨rfl, rfl⟩)
  | 1, _ => exact Or.inr (Or.inr ⟨rfl, rfl⟩)
  | 2, _ => exact Or.inr (Or.inr ⟨rfl, rfl⟩)
  | 3, _ => exact Or.inl ⟨rfl, rfl⟩
  | 4, _ => exact Or.inl ⟨rfl, rfl⟩
  | j + 5, h => exact absurd h (by omega)⟩
theorem ci_RX11_18 : x_ci RX11 18 yX10_init cX10_init 1 0 := ⟨Or.inr (List.mem_of_getElem? (i := 0) rfl), (x_tb (x_t1 (List.mem_of_getElem? (i := 154) rfl)) rfl), (x_tb (x_t1 (List.mem_of_getElem? (i := 8) rfl)) rfl), (x_tb (x_t1 (List.mem_of_getElem? (i := 155) rfl)) rfl), by decide, by decide, by decide +kernel, rfl⟩
theorem nw_RX11_29 : x_nw RX11 29 5 10 [0, 0, 0, 2, 2, 2, 2, 2, 2, 2] := ⟨RX5, TX5, tyX5, rfl, (x_tb (x_t2 (List.mem_of_getElem? (i := 142) rfl)) rfl), (x_tb (x_t2 (List.mem_of_getElem? (i := 14) rfl)) rfl), (x_tb (x_t1 (List.mem_of_getElem? (i := 10) rfl)) rfl), wsIn5, tyX5_ok, fun j hj => by
  match j, hj with
  | 0, _ => exact Or.inl ⟨rfl, rfl⟩
  | 1, _ => exact Or.inl ⟨rfl, rfl⟩
  | 2, _ => exact Or.inl ⟨rfl, rfl⟩
  | 3, _ => exact Or.inr (Or.inr ⟨rfl, rfl⟩)
  | 4, _ => exact Or.inr (Or.inr ⟨rfl, rfl⟩)
  | 5, _ => exact Or.inr (Or.inr ⟨rfl, rfl⟩)
  | 6, _ => exact Or.inr (Or.inr ⟨rfl, rfl⟩)
  | 7, _ => exact Or.inr (Or.inr ⟨rfl, rfl⟩)
  | 8, _ => exact Or.inr (Or.inr ⟨rfl, rfl⟩)
  | 9, _ => exact Or.inr (Or.inr ⟨rfl, rfl⟩)
  | j + 10, h => exact absurd h (by omega)⟩
theorem ci_RX11_31 : x_ci RX11 31 yX5_init cX5_init 1 0 := ⟨Or.inr (List.mem_of_getElem? (i := 4) rfl), (x_tb (x_t2 (List.mem_of_getElem? (i := 16) rfl)) rfl), (x_tb (x_t1 (List.mem_of_getElem? (i := 10) rfl)) rfl), (x_tb (x_t2 (List.mem_of_getElem? (i := 17) rfl)) rfl), by decide, by decide, by decide +kernel, rfl⟩
theorem nw_RX11_36 : x_nw RX11 36 1 3 [2, 0, 0] := ⟨RX1, TX1, tyX1, rfl, (x_tb (x_t2 (List.mem_of_getElem? (i := 144) rfl)) rfl), (x_tb (x_t2 (List.mem_of_getElem? (i := 145) rfl)) rfl), (x_tb (x_t1 (List.mem_of_getElem? (i := 12) rfl)) rfl), wsIn1, tyX1_ok, fun j hj => by
  match j, hj with
  | 0, _ => exact Or.inr (Or.inr ⟨rfl, rfl⟩)
  | 1, _ => exact Or.inl ⟨rfl, rfl⟩
  | 2, _ => exact Or.inl ⟨rfl, rfl⟩
  | j + 3, h => exact absurd h (by omega)⟩
theorem ci_RX11_38 : x_ci RX11 38 yX1_init cX1_init 2 0 := ⟨Or.inl (x_tb (x_t2 (List.mem_of_getElem? (i := 146) rfl)) rfl), (x_tb (x_t2 (List.mem_of_getElem? (i := 147) rfl)) rfl), (x_tb (x_t1 (List.mem_of_getElem? (i := 12) rfl)) rfl), (x_tb (x_t2 (List.mem_of_getElem? (i := 148) rfl)) rfl), by decide, by decide, by decide +kernel, rfl⟩
theorem nw_RX11_43 : x_nw RX11 43 6 2 [2, 0] := ⟨RX6, TX6, tyX6, rfl, (x_tb (x_t2 (List.mem_of_getElem? (i := 164) rfl)) rfl), (x_tb (x_t2 (List.mem_of_getElem? (i := 165) rfl)) rfl), (x_tb (x_t1 (List.mem_of_getElem? (i := 13) rfl)) rfl), wsIn6, tyX6_ok, fun j hj => by
  match j, hj with
  | 0, _ => exact Or.inr (Or.inr ⟨rfl, rfl⟩)
  | 1, _ => exact Or.inl ⟨rfl, rfl⟩
  | j + 2, h => exact absurd h (by omega)⟩
theorem ci_RX11_45 : x_ci RX11 45 yX6_init cX6_init 1 0 := ⟨Or.inr (List.mem_of_getElem? (i := 6) rfl), (x_tb (x_t2 (List.mem_of_getElem? (i := 167) rfl)) rfl), (x_tb (x_t1 (List.mem_of_getElem? (i := 13) rfl)) rfl), (x_tb (x_t2 (List.mem_of_getElem? (i := 168) rfl)) rfl), by decide, by decide, by decide +kernel, rfl⟩
theorem nw_RX11_50 : x_nw RX11 50 0 10 [2, 2, 2, 2, 0, 0, 0, 0, 0, 0] := ⟨RX0, TX0, tyX0, rfl, (x_tb (x_t2 (List.mem_of_getElem? (i := 180) rfl)) rfl), (x_tb (x_t2 (List.mem_of_getElem? (i := 181) rfl)) rfl), (x_tb (x_t1 (List.mem_of_getElem? (i := 14) rfl)) rfl), wsIn0, tyX0_ok, fun j hj => by
  match j, hj with
  | 0, _ => exact Or.inr (Or.inr ⟨rfl, rfl⟩)
  | 1, _ => exact Or.inr (Or.inr ⟨rfl, rfl⟩)
  | 2, _ => exact Or.inr (Or.inr ⟨rfl, rfl⟩)
  | 3, _ => exact Or.inr (Or.inr ⟨rfl, rfl⟩)
  | 4, _ => exact Or.inl ⟨rfl, rfl⟩
  | 5, _ => exact Or.inl ⟨rfl, rfl⟩
  | 6, _ => exact Or.inl ⟨rfl, rfl⟩
  | 7, _ => exact Or.inl ⟨rfl, rfl⟩
  | 8, _ => exact Or.inl ⟨rfl, rfl⟩
  | 9, _ => exact Or.inl ⟨rfl, rfl⟩
  | j + 10, h => exact absurd h (by omega)⟩
theorem ci_RX11_52 : x_ci RX11 52 yX0_init cX0_init 1 0 := ⟨Or.inr (List.mem_of_getElem? (i := 8) rfl), (x_tb (x_t2 (List.mem_of_getElem? (i := 183) rfl)) rfl), (x_tb (x_t1 (List.mem_of_getElem? (i := 14) rfl)) rfl), (x_tb (x_t2 (List.mem_of_getElem? (i := 184) rfl)) rfl), by decide, by decide, by decide +kernel, rfl⟩
theorem nw_RX11_57 : x_nw RX11 57 4 8 [0, 0, 2, 2, 2, 2, 0, 0] := ⟨RX4, TX4, tyX4, rfl, (x_tb (x_t2 (List.mem_of_getElem? (i := 224) rfl)) rfl), (x_tb (x_t2 (List.mem_of_getElem? (i := 82) rfl)) rfl), (x_tb (x_t1 (List.mem_of_getElem? (i := 11) rfl)) rfl), wsIn4, tyX4_ok, fun j hj => by
  match j, hj with
  | 0, _ => exact Or.inl ⟨rfl, rfl⟩
  | 1, _ => exact Or.inl ⟨rfl, rfl⟩
  | 2, _ => exact Or.inr (Or.inr ⟨rfl, rfl⟩)
  | 3, _ => exact Or.inr (Or.inr ⟨rfl, rfl⟩)
  | 4, _ => exact Or.inr (Or.inr ⟨rfl, rfl⟩)
  | 5, _ => exact Or.inr (Or.inr ⟨rfl, rfl⟩)
  | 6, _ => exact Or.inl ⟨rfl, rfl⟩
  | 7, _ => exact Or.inl ⟨rfl, rfl⟩
  | j + 8, h => exact absurd h (by omega)⟩
theorem ci_RX11_59 : x_ci RX11 59 yX4_init cX4_init 1 0 := ⟨Or.inr (List.mem_of_getElem? (i := 9) rfl), (x_tb (x_t2 (List.mem_of_getElem? (i := 84) rfl)) rfl), (x_tb (x_t1 (List.mem_of_getElem? (i := 11) rfl)) rfl), (x_tb (x_t2 (List.mem_of_getElem? (i := 85) rfl)) rfl), by decide, by decide, by decide +kernel, rfl⟩
theorem nw_RX11_64 : x_nw RX11 64 2 12 [2, 2, 2, 2, 2, 2, 0, 2, 0, 0, 0, 0] := ⟨RX2, TX2, tyX2, rfl, (x_tb (x_t2 (List.mem_of_getElem? (i := 226) rfl)) rfl), (x_tb (x_t2 (List.mem_of_getElem? (i := 227) rfl)) rfl), (x_tb (x_t1 (List.mem_of_getElem? (i := 15) rfl)) rfl), wsIn2, tyX2_ok, fun j hj => by
  match j, hj with
  | 0, _ => exact Or.inr (Or.inr ⟨rfl, rfl⟩)
  | 1, _ => exact Or.inr (Or.inr ⟨rfl, rfl⟩)
  | 2, _ => exact Or.inr (Or.inr ⟨rfl, rfl⟩)
  | 3, _ => exact Or.inr (Or.inr ⟨rfl, rfl⟩)
  | 4, _ => exact Or.inr (Or.inr ⟨rfl, rfl⟩)
  | 5, _ => exact Or.inr (Or.inr ⟨rfl, rfl⟩)
  | 6, _ => exact Or.inl ⟨rfl, rfl⟩
  | 7, _ => exact Or.inr (Or.inr ⟨rfl, rfl⟩)
  | 8, _ => exact Or.inl ⟨rfl, rfl⟩
  | 9, _ => exact Or.inl ⟨rfl, rfl⟩
  | 10, _ => exact Or.inl ⟨rfl, rfl⟩
  | 11, _ => exact Or.inl ⟨rfl, rfl⟩
  | j + 12, h => exact absurd h (by omega)⟩
theorem ci_RX11_66 : x_ci RX11 66 yX2_init cX2_init 1 0 := ⟨Or.inr (List.mem_of_getElem? (i := 10) rfl), (x_tb (x_t2 (List.mem_of_getElem? (i := 229) rfl)) rfl), (x_tb (x_t1 (List.mem_of_getElem? (i := 15) rfl)) rfl), (x_tb (x_t2 (List.mem_of_getElem? (i := 230) rfl)) rfl), by decide, by decide, by decide +kernel, rfl⟩
theorem nw_RX11_71 : x_nw RX11 71 7 2 [2, 0] := ⟨RX7, TX7, tyX7, rfl, (x_tb (x_t3 (List.mem_of_getElem? (i := 38) rfl)) rfl), (x_tb (x_t3 (List.mem_of_getElem? (i := 39) rfl)) rfl), (x_tb (x_t1 (List.mem_of_getElem? (i := 16) rfl)) rfl), wsIn7, tyX7_ok, fun j hj => by
  match j, hj with
  | 0, _ => exact Or.inr (Or.inr ⟨rfl, rfl⟩)
  | 1, _ => exact Or.inl ⟨rfl, rfl⟩
  | j + 2, h => exact absurd h (by omega)⟩
theorem ci_RX11_73 : x_ci RX11 73 yX7_init cX7_init 1 0 := ⟨Or.inr (List.mem_of_getElem? (i := 11) rfl), (x_tb (x_t3 (List.mem_of_getElem? (i := 41) rfl)) rfl), (x_tb (x_t1 (List.mem_of_getElem? (i := 16) rfl)) rfl), (x_tb (x_t3 (List.mem_of_getElem? (i := 42) rfl)) rfl), by decide, by decide, by decide +kernel, rfl⟩
theorem dX11_init_0 : decode cX11_init 0 = .ok (.aload_n 0, 1) := by decide +kernel
theorem dX11_init_1 : decode cX11_init 1 = .ok (.invokespecial 3, 3) := by decide +kernel
theorem dX11_init_4 : decode cX11_init 4 = .ok (.aload_n 0, 1) := by decide +kernel
theorem dX11_init_5 : decode cX11_init 5 = .ok (.new 9, 3) := by decide +kernel
theorem dX11_init_8 : decode cX11_init 8 = .ok (.dup, 1) := by decide +kernel
theorem dX11_init_9 : decode cX11_init 9 = .ok (.invokespecial 11, 3) := by decide +kernel
theorem dX11_init_12 : decode cX11_init 12 = .ok (.putfield 12, 3) := by decide +kernel
theorem dX11_init_15 : decode cX11_init 15 = .ok (.aload_n 0, 1) := by decide +kernel
theorem dX11_init_16 : decode cX11_init 16 = .ok (.new 16, 3) := by decide +kernel
theorem dX11_init_19 : decode cX11_init 19 = .ok (.dup, 1) := by decide +kernel
theorem dX11_init_20 : decode cX11_init 20 = .ok (.invokespecial 18, 3) := by decide +kernel
theorem dX11_init_23 : decode cX11_init 23 = .ok (.putfield 19, 3) := by decide +kernel
theorem dX11_init_26 : decode cX11_init 26 = .ok (.aload_n 0, 1) := by decide +kernel
theorem dX11_init_27 : decode cX11_init 27 = .ok (.new 16, 3) := by decide +kernel
theorem dX11_init_30 : decode cX11_init 30 = .ok (.dup, 1) := by decide +kernel
theorem dX11_init_31 : decode cX11_init 31 = .ok (.invokespecial 18, 3) := by decide +kernel
theorem dX11_init_34 : decode cX11_init 34 = .ok (.putfield 23, 3) := by decide +kernel
theorem dX11_init_37 : decode cX11_init 37 = .ok (.aload_n 0, 1) := by decide +kernel
theorem dX11_init_38 : decode cX11_init 38 = .ok (.new 16, 3) := by decide +kernel
theorem dX11_init_41 : decode cX11_init 41 = .ok (.dup, 1) := by decide +kernel
theorem dX11_init_42 : decode cX11_init 42 = .ok (.invokespecial 18, 3) := by decide +kernel
theorem dX11_init_45 : decode cX11_init 45 = .ok (.putfield 26, 3) := by decide +kernel
theorem dX11_init_48 : decode cX11_init 48 = .ok (.aload_n 0, 1) := by decide +kernel
theorem dX11_init_49 : decode cX11_init 49 = .ok (.new 29, 3) := by decide +kernel
theorem dX11_init_52 : decode cX11_init 52 = .ok (.dup, 1) := by decide +kernel
theorem dX11_init_53 : decode cX11_init 53 = .ok (.invokespecial 31, 3) := by decide +kernel
theorem dX11_init_56 : decode cX11_init 56 = .ok (.putfield 32, 3) := by decide +kernel
theorem dX11_init_59 : decode cX11_init 59 = .ok (.aload_n 0, 1) := by decide +kernel
theorem dX11_init_60 : decode cX11_init 60 = .ok (.new 36, 3) := by decide +kernel
theorem dX11_init_63 : decode cX11_init 63 = .ok (.dup, 1) := by decide +kernel
theorem dX11_init_64 : decode cX11_init 64 = .ok (.invokespecial 38, 3) := by decide +kernel
theorem dX11_init_67 : decode cX11_init 67 = .ok (.putfield 39, 3) := by decide +kernel
theorem dX11_init_70 : decode cX11_init 70 = .ok (.aload_n 0, 1) := by decide +kernel
theorem dX11_init_71 : decode cX11_init 71 = .ok (.new 43, 3) := by decide +kernel
theorem dX11_init_74 : decode cX11_init 74 = .ok (.dup, 1) := by decide +kernel
theorem dX11_init_75 : decode cX11_init 75 = .ok (.invokespecial 45, 3) := by decide +kernel
theorem dX11_init_78 : decode cX11_init 78 = .ok (.putfield 46, 3) := by decide +kernel
theorem dX11_init_81 : decode cX11_init 81 = .ok (.aload_n 0, 1) := by decide +kernel
theorem dX11_init_82 : decode cX11_init 82 = .ok (.new 50, 3) := by decide +kernel
theorem dX11_init_85 : decode cX11_init 85 = .ok (.dup, 1) := by decide +kernel
theorem dX11_init_86 : decode cX11_init 86 = .ok (.invokespecial 52, 3) := by decide +kernel
theorem dX11_init_89 : decode cX11_init 89 = .ok (.putfield 53, 3) := by decide +kernel
theorem dX11_init_92 : decode cX11_init 92 = .ok (.aload_n 0, 1) := by decide +kernel
theorem dX11_init_93 : decode cX11_init 93 = .ok (.new 57, 3) := by decide +kernel
theorem dX11_init_96 : decode cX11_init 96 = .ok (.dup, 1) := by decide +kernel
theorem dX11_init_97 : decode cX11_init 97 = .ok (.invokespecial 59, 3) := by decide +kernel
theorem dX11_init_100 : decode cX11_init 100 = .ok (.putfield 60, 3) := by decide +kernel
theorem dX11_init_103 : decode cX11_init 103 = .ok (.aload_n 0, 1) := by decide +kernel
theorem dX11_init_104 : decode cX11_init 104 = .ok (.new 64, 3) := by decide +kernel
theorem dX11_init_107 : decode cX11_init 107 = .ok (.dup, 1) := by decide +kernel
theorem dX11_init_108 : decode cX11_init 108 = .ok (.invokespecial 66, 3) := by decide +kernel
theorem dX11_init_111 : decode cX11_init 111 = .ok (.putfield 67, 3) := by decide +kernel
theorem dX11_init_114 : decode cX11_init 114 = .ok (.aload_n 0, 1) := by decide +kernel
theorem dX11_init_115 : decode cX11_init 115 = .ok (.new 71, 3) := by decide +kernel
theorem dX11_init_118 : decode cX11_init 118 = .ok (.dup, 1) := by decide +kernel
theorem dX11_init_119 : decode cX11_init 119 = .ok (.invokespecial 73, 3) := by decide +kernel
theorem dX11_init_122 : decode cX11_init 122 = .ok (.putfield 74, 3) := by decide +kernel
theorem dX11_init_125 : decode cX11_init 125 = .ok (.return_, 1) := by decide +kernel
def z_X11_init_0 : XM := x_zc x_z 1
def z_X11_init_1 : XM := x_app 1 z_X11_init_0 z_X8_init
def z_X11_init_2 : XM := x_zc z_X11_init_1 5
def z_X11_init_3 : XM := x_app 5 z_X11_init_2 z_X10_init
def z_X11_init_4 : XM := x_zc z_X11_init_3 46
def z_X11_init_5 : XM := x_app 46 z_X11_init_4 z_X10_init
def z_X11_init_6 : XM := x_zc z_X11_init_5 87
def z_X11_init_7 : XM := x_app 87 z_X11_init_6 z_X10_init
def z_X11_init_8 : XM := x_zc z_X11_init_7 128
def z_X11_init_9 : XM := x_app 128 z_X11_init_8 z_X5_init
def z_X11_init_10 : XM := x_zc z_X11_init_9 143
def z_X11_init_11 : XM := x_app 143 z_X11_init_10 z_X1_init
def z_X11_init_12 : XM := x_zc z_X11_init_11 265
def z_X11_init_13 : XM := x_app 265 z_X11_init_12 z_X6_init
def z_X11_init_14 : XM := x_zc z_X11_init_13 282
def z_X11_init_15 : XM := x_app 282 z_X11_init_14 z_X0_init
def z_X11_init_16 : XM := x_zc z_X11_init_15 291
def z_X11_init_17 : XM := x_app 291 z_X11_init_16 z_X4_init
def z_X11_init_18 : XM := x_zc z_X11_init_17 300
def z_X11_init_19 : XM := x_app 300 z_X11_init_18 z_X2_init
def z_X11_init_20 : XM := x_zc z_X11_init_19 315
def z_X11_init_21 : XM := x_app 315 z_X11_init_20 z_X7_init
abbrev z_X11_init : XM := z_X11_init_21
set_option maxRecDepth 100000 in
set_option maxHeartbeats 4000000 in
theorem cn_X11_init {l : Launch} : CN l yX11_init cX11_init 1 5 317 3748 (.inl (11, [2, 2, 2, 2, 2, 2, 2, 2, 2, 2, 2])) shFoldRoads z_X11_init [] := by
  refine CN_of (by decide) rfl (fun _ => Nat.le_of_ble_eq_true rfl) ?_
  intro p e s m args below meth c D tc aK aV a X ha hNn hin
  have X : Cx p s m args meth c cX11_init 1 none RX11 D tc aK aV (fun q => a ≤ q) [([.inl (11, [2, 2, 2, 2, 2, 2, 2, 2, 2, 2, 2])], fun i => a + i)] := X
  show bW p l e (x_RmN 5 317 3748) s m args below meth c D tc (fun q => a ≤ q) 1 [([.inl (11, [2, 2, 2, 2, 2, 2, 2, 2, 2, 2, 2])], fun i => a + i)] 0 0 (MQ below (x_Q none True D tc [(shFoldRoads, fun i => a + i)] [z_X11_init] (fun q => a ≤ q)) args s 317 3748 (fun q => a ≤ q)) 0 [(0, .ref (a + 0))] [] [x_z]
  refine a_aload_n (pc := 0) X 0 dX11_init_0 rfl rfl ?_
  refine a_obj (pc := 1) X ko_RX11 dX11_init_1 (Nat.le_of_ble_eq_true rfl) (Nat.le_of_ble_eq_true rfl) ?_
  refine a_aload_n (pc := 4) X 0 dX11_init_4 rfl rfl ?_
  refine a_new (pc := 5) (kc := 0) (ks := 0) (cur := (.inl (11, [2, 2, 2, 2, 2, 2, 2, 2, 2, 2, 2]) :: [])) X ha (by decide +kernel) nw_RX11_9 dX11_init_5 ⟨Nat.le_of_ble_eq_true rfl, Nat.le_of_ble_eq_true rfl⟩ ?_
  have X := x_re X (.inl (11, [2, 2, 2, 2, 2, 2, 2, 2, 2, 2, 2]) :: [.inl (8, [2, 2, 0, 0, 0, 0, 0, 0, 0, 1, 0, 0])])
  show bW p l e _ s m args below meth c D tc (fun q => a ≤ q) 1 [((.inl (11, [2, 2, 2, 2, 2, 2, 2, 2, 2, 2, 2]) :: [.inl (8, [2, 2, 0, 0, 0, 0, 0, 0, 0, 1, 0, 0])]), fun i => a + i)] 1 12 _ 8 [(0, .ref (a + 0))] [.ref (a + 1), .ref (a + 0)] [z_X11_init_0]
  refine a_dup (pc := 8) X dX11_init_8 rfl ?_
  refine a_cinit (pc := 9) (kc := 1) (ks := 12) (cur := (.inl (11, [2, 2, 2, 2, 2, 2, 2, 2, 2, 2, 2]) :: [])) (k0 := .inl (8, [2, 2, 0, 0, 0, 0, 0, 0, 0, 1, 0, 0])) (v := z_X11_init_0) X ha (by decide +kernel) hNn [] [.ref (a + 1), .ref (a + 0)] cn_X8_init ci_RX11_11 (by unfold z_X11_init_0; exact x_zc_z _ _) rfl rfl (Nat.le_of_ble_eq_true rfl) ⟨Nat.le_of_ble_eq_true rfl, Nat.le_of_ble_eq_true rfl⟩ ⟨Nat.le_of_ble_eq_true rfl, Nat.le_of_ble_eq_true rfl⟩ dX11_init_9 ?_
  have X := x_re X (.inl (11, [2, 2, 2, 2, 2, 2, 2, 2, 2, 2, 2]) :: shTape)
  show bW p l e _ s m args below meth c D tc (fun q => a ≤ q) 1 [((.inl (11, [2, 2, 2, 2, 2, 2, 2, 2, 2, 2, 2]) :: shTape), fun i => a + i)] 4 982 _ 12 [(0, .ref (a + 0))] [.ref (a + 1), .ref (a + 0)] [z_X11_init_1]
  refine a_putR (pc := 12) (kc := 4) (ks := 982) (tl := shTape) (ci := 11) (kds := [2, 2, 2, 2, 2, 2, 2, 2, 2, 2, 2]) (o := 1) X hin fl_RX11_12 (fun _ _ _ h => by cases h; exact ⟨rfl, rfl⟩) rfl (by decide) rfl rfl dX11_init_12 ?_
  have X := x_re X (.inl (11, [3, 2, 2, 2, 2, 2, 2, 2, 2, 2, 2]) :: shTape)
  show bW p l e _ s m args below meth c D tc (fun q => a ≤ q) 1 [((.inl (11, [3, 2, 2, 2, 2, 2, 2, 2, 2, 2, 2]) :: shTape), fun i => a + i)] 4 982 _ 15 [(0, .ref (a + 0))] [] [z_X11_init_1]
  refine a_aload_n (pc := 15) X 0 dX11_init_15 rfl rfl ?_
  refine a_new (pc := 16) (kc := 4) (ks := 982) (cur := (.inl (11, [3, 2, 2, 2, 2, 2, 2, 2, 2, 2, 2]) :: shTape)) X ha (by decide +kernel) nw_RX11_16 dX11_init_16 ⟨Nat.le_of_ble_eq_true rfl, Nat.le_of_ble_eq_true rfl⟩ ?_
  have X := x_re X (.inl (11, [3, 2, 2, 2, 2, 2, 2, 2, 2, 2, 2]) :: (shTape ++ [.inl (10, [2, 2, 2, 0, 0])]))
  show bW p l e _ s m args below meth c D tc (fun q => a ≤ q) 1 [((.inl (11, [3, 2, 2, 2, 2, 2, 2, 2, 2, 2, 2]) :: (shTape ++ [.inl (10, [2, 2, 2, 0, 0])])), fun i => a + i)] 5 987 _ 19 [(0, .ref (a + 0))] [.ref (a + 5), .ref (a + 0)] [z_X11_init_2]
  refine a_dup (pc := 19) X dX11_init_19 rfl ?_
  refine a_cinit (pc := 20) (kc := 5) (ks := 987) (cur := (.inl (11, [3, 2, 2, 2, 2, 2, 2, 2, 2, 2, 2]) :: shTape)) (k0 := .inl (10, [2, 2, 2, 0, 0])) (v := z_X11_init_2) X ha (by decide +kernel) hNn [] [.ref (a + 5), .ref (a + 0)] cn_X10_init ci_RX11_18 (by unfold z_X11_init_2; exact x_zc_z _ _) rfl rfl (Nat.le_of_ble_eq_true rfl) ⟨Nat.le_of_ble_eq_true rfl, Nat.le_of_ble_eq_true rfl⟩ ⟨Nat.le_of_ble_eq_true rfl, Nat.le_of_ble_eq_true rfl⟩ dX11_init_20 ?_
  have X := x_re X (.inl (11, [3, 2, 2, 2, 2, 2, 2, 2, 2, 2, 2]) :: (shTape ++ shWorldF))
  show bW p l e _ s m args below meth c D tc (fun q => a ≤ q) 1 [((.inl (11, [3, 2, 2, 2, 2, 2, 2, 2, 2, 2, 2]) :: (shTape ++ shWorldF)), fun i => a + i)] 45 1329 _ 23 [(0, .ref (a + 0))] [.ref (a + 5), .ref (a + 0)] [z_X11_init_3]
  refine a_putR (pc := 23) (kc := 45) (ks := 1329) (tl := (shTape ++ shWorldF)) (ci := 11) (kds := [3, 2, 2, 2, 2, 2, 2, 2, 2, 2, 2]) (o := 5) X hin fl_RX11_19 (fun _ _ _ h => by cases h; exact ⟨rfl, rfl⟩) rfl (by decide) rfl rfl dX11_init_23 ?_
  have X := x_re X (.inl (11, [3, 7, 2, 2, 2, 2, 2, 2, 2, 2, 2]) :: (shTape ++ shWorldF))
  show bW p l e _ s m args below meth c D tc (fun q => a ≤ q) 1 [((.inl (11, [3, 7, 2, 2, 2, 2, 2, 2, 2, 2, 2]) :: (shTape ++ shWorldF)), fun i => a + i)] 45 1329 _ 26 [(0, .ref (a + 0))] [] [z_X11_init_3]
  refine a_aload_n (pc := 26) X 0 dX11_init_26 rfl rfl ?_
  refine a_new (pc := 27) (kc := 45) (ks := 1329) (cur := (.inl (11, [3, 7, 2, 2, 2, 2, 2, 2, 2, 2, 2]) :: (shTape ++ shWorldF))) X ha (by decide +kernel) nw_RX11_16 dX11_init_27 ⟨Nat.le_of_ble_eq_true rfl, Nat.le_of_ble_eq_true rfl⟩ ?_
  have X := x_re X (.inl (11, [3, 7, 2, 2, 2, 2, 2, 2, 2, 2, 2]) :: ((shTape ++ shWorldF) ++ [.inl (10, [2, 2, 2, 0, 0])]))
  show bW p l e _ s m args below meth c D tc (fun q => a ≤ q) 1 [((.inl (11, [3, 7, 2, 2, 2, 2, 2, 2, 2, 2, 2]) :: ((shTape ++ shWorldF) ++ [.inl (10, [2, 2, 2, 0, 0])])), fun i => a + i)] 46 1334 _ 30 [(0, .ref (a + 0))] [.ref (a + 46), .ref (a + 0)] [z_X11_init_4]
  refine a_dup (pc := 30) X dX11_init_30 rfl ?_
  refine a_cinit (pc := 31) (kc := 46) (ks := 1334) (cur := (.inl (11, [3, 7, 2, 2, 2, 2, 2, 2, 2, 2, 2]) :: (shTape ++ shWorldF))) (k0 := .inl (10, [2, 2, 2, 0, 0])) (v := z_X11_init_4) X ha (by decide +kernel) hNn [] [.ref (a + 46), .ref (a + 0)] cn_X10_init ci_RX11_18 (by unfold z_X11_init_4; exact x_zc_z _ _) rfl rfl (Nat.le_of_ble_eq_true rfl) ⟨Nat.le_of_ble_eq_true rfl, Nat.le_of_ble_eq_true rfl⟩ ⟨Nat.le_of_ble_eq_true rfl, Nat.le_of_ble_eq_true rfl⟩ dX11_init_31 ?_
  have X := x_re X (.inl (11, [3, 7, 2, 2, 2, 2, 2, 2, 2, 2, 2]) :: ((shTape ++ shWorldF) ++ shWorldF))
  show bW p l e _ s m args below meth c D tc (fun q => a ≤ q) 1 [((.inl (11, [3, 7, 2, 2, 2, 2, 2, 2, 2, 2, 2]) :: ((shTape ++ shWorldF) ++ shWorldF)), fun i => a + i)] 86 1676 _ 34 [(0, .ref (a + 0))] [.ref (a + 46), .ref (a + 0)] [z_X11_init_5]
  refine a_putR (pc := 34) (kc := 86) (ks := 1676) (tl := ((shTape ++ shWorldF) ++ shWorldF)) (ci := 11) (kds := [3, 7, 2, 2, 2, 2, 2, 2, 2, 2, 2]) (o := 46) X hin fl_RX11_23 (fun _ _ _ h => by cases h; exact ⟨rfl, rfl⟩) rfl (by decide) rfl rfl dX11_init_34 ?_
  have X := x_re X (.inl (11, [3, 7, 48, 2, 2, 2, 2, 2, 2, 2, 2]) :: ((shTape ++ shWorldF) ++ shWorldF))
  show bW p l e _ s m args below meth c D tc (fun q => a ≤ q) 1 [((.inl (11, [3, 7, 48, 2, 2, 2, 2, 2, 2, 2, 2]) :: ((shTape ++ shWorldF) ++ shWorldF)), fun i => a + i)] 86 1676 _ 37 [(0, .ref (a + 0))] [] [z_X11_init_5]
  refine a_aload_n (pc := 37) X 0 dX11_init_37 rfl rfl ?_
  refine a_new (pc := 38) (kc := 86) (ks := 1676) (cur := (.inl (11, [3, 7, 48, 2, 2, 2, 2, 2, 2, 2, 2]) :: ((shTape ++ shWorldF) ++ shWorldF))) X ha (by decide +kernel) nw_RX11_16 dX11_init_38 ⟨Nat.le_of_ble_eq_true rfl, Nat.le_of_ble_eq_true rfl⟩ ?_
  have X := x_re X (.inl (11, [3, 7, 48, 2, 2, 2, 2, 2, 2, 2, 2]) :: (((shTape ++ shWorldF) ++ shWorldF) ++ [.inl (10, [2, 2, 2, 0, 0])]))
  show bW p l e _ s m args below meth c D tc (fun q => a ≤ q) 1 [((.inl (11, [3, 7, 48, 2, 2, 2, 2, 2, 2, 2, 2]) :: (((shTape ++ shWorldF) ++ shWorldF) ++ [.inl (10, [2, 2, 2, 0, 0])])), fun i => a + i)] 87 1681 _ 41 [(0, .ref (a + 0))] [.ref (a + 87), .ref (a + 0)] [z_X11_init_6]
  refine a_dup (pc := 41) X dX11_init_41 rfl ?_
  refine a_cinit (pc := 42) (kc := 87) (ks := 1681) (cur := (.inl (11, [3, 7, 48, 2, 2, 2, 2, 2, 2, 2, 2]) :: ((shTape ++ shWorldF) ++ shWorldF))) (k0 := .inl (10, [2, 2, 2, 0, 0])) (v := z_X11_init_6) X ha (by decide +kernel) hNn [] [.ref (a + 87), .ref (a + 0)] cn_X10_init ci_RX11_18 (by unfold z_X11_init_6; exact x_zc_z _ _) rfl rfl (Nat.le_of_ble_eq_true rfl) ⟨Nat.le_of_ble_eq_true rfl, Nat.le_of_ble_eq_true rfl⟩ ⟨Nat.le_of_ble_eq_true rfl, Nat.le_of_ble_eq_true rfl⟩ dX11_init_42 ?_
  have X := x_re X (.inl (11, [3, 7, 48, 2, 2, 2, 2, 2, 2, 2, 2]) :: (((shTape ++ shWorldF) ++ shWorldF) ++ shWorldF))
  show bW p l e _ s m args below meth c D tc (fun q => a ≤ q) 1 [((.inl (11, [3, 7, 48, 2, 2, 2, 2, 2, 2, 2, 2]) :: (((shTape ++ shWorldF) ++ shWorldF) ++ shWorldF)), fun i => a + i)] 127 2023 _ 45 [(0, .ref (a + 0))] [.ref (a + 87), .ref (a + 0)] [z_X11_init_7]
  refine a_putR (pc := 45) (kc := 127) (ks := 2023) (tl := (((shTape ++ shWorldF) ++ shWorldF) ++ shWorldF)) (ci := 11) (kds := [3, 7, 48, 2, 2, 2, 2, 2, 2, 2, 2]) (o := 87) X hin fl_RX11_26 (fun _ _ _ h => by cases h; exact ⟨rfl, rfl⟩) rfl (by decide) rfl rfl dX11_init_45 ?_
  have X := x_re X (.inl (11, [3, 7, 48, 89, 2, 2, 2, 2, 2, 2, 2]) :: (((shTape ++ shWorldF) ++ shWorldF) ++ shWorldF))
  show bW p l e _ s m args below meth c D tc (fun q => a ≤ q) 1 [((.inl (11, [3, 7, 48, 89, 2, 2, 2, 2, 2, 2, 2]) :: (((shTape ++ shWorldF) ++ shWorldF) ++ shWorldF)), fun i => a + i)] 127 2023 _ 48 [(0, .ref (a + 0))] [] [z_X11_init_7]
  refine a_aload_n (pc := 48) X 0 dX11_init_48 rfl rfl ?_
  refine a_new (pc := 49) (kc := 127) (ks := 2023) (cur := (.inl (11, [3, 7, 48, 89, 2, 2, 2, 2, 2, 2, 2]) :: (((shTape ++ shWorldF) ++ shWorldF) ++ shWorldF))) X ha (by decide +kernel) nw_RX11_29 dX11_init_49 ⟨Nat.le_of_ble_eq_true rfl, Nat.le_of_ble_eq_true rfl⟩ ?_
  have X := x_re X (.inl (11, [3, 7, 48, 89, 2, 2, 2, 2, 2, 2, 2]) :: ((((shTape ++ shWorldF) ++ shWorldF) ++ shWorldF) ++ [.inl (5, [0, 0, 0, 2, 2, 2, 2, 2, 2, 2])]))
  show bW p l e _ s m args below meth c D tc (fun q => a ≤ q) 1 [((.inl (11, [3, 7, 48, 89, 2, 2, 2, 2, 2, 2, 2]) :: ((((shTape ++ shWorldF) ++ shWorldF) ++ shWorldF) ++ [.inl (5, [0, 0, 0, 2, 2, 2, 2, 2, 2, 2])])), fun i => a + i)] 128 2033 _ 52 [(0, .ref (a + 0))] [.ref (a + 128), .ref (a + 0)] [z_X11_init_8]
  refine a_dup (pc := 52) X dX11_init_52 rfl ?_
  refine a_cinit (pc := 53) (kc := 128) (ks := 2033) (cur := (.inl (11, [3, 7, 48, 89, 2, 2, 2, 2, 2, 2, 2]) :: (((shTape ++ shWorldF) ++ shWorldF) ++ shWorldF))) (k0 := .inl (5, [0, 0, 0, 2, 2, 2, 2, 2, 2, 2])) (v := z_X11_init_8) X ha (by decide +kernel) hNn [] [.ref (a + 128), .ref (a + 0)] cn_X5_init ci_RX11_31 (by unfold z_X11_init_8; exact x_zc_z _ _) rfl rfl (Nat.le_of_ble_eq_true rfl) ⟨Nat.le_of_ble_eq_true rfl, Nat.le_of_ble_eq_true rfl⟩ ⟨Nat.le_of_ble_eq_true rfl, Nat.le_of_ble_eq_true rfl⟩ dX11_init_53 ?_
  have X := x_re X (.inl (11, [3, 7, 48, 89, 2, 2, 2, 2, 2, 2, 2]) :: ((((shTape ++ shWorldF) ++ shWorldF) ++ shWorldF) ++ shState))
  show bW p l e _ s m args below meth c D tc (fun q => a ≤ q) 1 [((.inl (11, [3, 7, 48, 89, 2, 2, 2, 2, 2, 2, 2]) :: ((((shTape ++ shWorldF) ++ shWorldF) ++ shWorldF) ++ shState)), fun i => a + i)] 142 2089 _ 56 [(0, .ref (a + 0))] [.ref (a + 128), .ref (a + 0)] [z_X11_init_9]
  refine a_putR (pc := 56) (kc := 142) (ks := 2089) (tl := ((((shTape ++ shWorldF) ++ shWorldF) ++ shWorldF) ++ shState)) (ci := 11) (kds := [3, 7, 48, 89, 2, 2, 2, 2, 2, 2, 2]) (o := 128) X hin fl_RX11_32 (fun _ _ _ h => by cases h; exact ⟨rfl, rfl⟩) rfl (by decide) rfl rfl dX11_init_56 ?_
  have X := x_re X (.inl (11, [3, 7, 48, 89, 130, 2, 2, 2, 2, 2, 2]) :: ((((shTape ++ shWorldF) ++ shWorldF) ++ shWorldF) ++ shState))
  show bW p l e _ s m args below meth c D tc (fun q => a ≤ q) 1 [((.inl (11, [3, 7, 48, 89, 130, 2, 2, 2, 2, 2, 2]) :: ((((shTape ++ shWorldF) ++ shWorldF) ++ shWorldF) ++ shState)), fun i => a + i)] 142 2089 _ 59 [(0, .ref (a + 0))] [] [z_X11_init_9]
  refine a_aload_n (pc := 59) X 0 dX11_init_59 rfl rfl ?_
  refine a_new (pc := 60) (kc := 142) (ks := 2089) (cur := (.inl (11, [3, 7, 48, 89, 130, 2, 2, 2, 2, 2, 2]) :: ((((shTape ++ shWorldF) ++ shWorldF) ++ shWorldF) ++ shState))) X ha (by decide +kernel) nw_RX11_36 dX11_init_60 ⟨Nat.le_of_ble_eq_true rfl, Nat.le_of_ble_eq_true rfl⟩ ?_
  have X := x_re X (.inl (11, [3, 7, 48, 89, 130, 2, 2, 2, 2, 2, 2]) :: (((((shTape ++ shWorldF) ++ shWorldF) ++ shWorldF) ++ shState) ++ [.inl (1, [2, 0, 0])]))
  show bW p l e _ s m args below meth c D tc (fun q => a ≤ q) 1 [((.inl (11, [3, 7, 48, 89, 130, 2, 2, 2, 2, 2, 2]) :: (((((shTape ++ shWorldF) ++ shWorldF) ++ shWorldF) ++ shState) ++ [.inl (1, [2, 0, 0])])), fun i => a + i)] 143 2092 _ 63 [(0, .ref (a + 0))] [.ref (a + 143), .ref (a + 0)] [z_X11_init_10]
  refine a_dup (pc := 63) X dX11_init_63 rfl ?_
  refine a_cinit (pc := 64) (kc := 143) (ks := 2092) (cur := (.inl (11, [3, 7, 48, 89, 130, 2, 2, 2, 2, 2, 2]) :: ((((shTape ++ shWorldF) ++ shWorldF) ++ shWorldF) ++ shState))) (k0 := .inl (1, [2, 0, 0])) (v := z_X11_init_10) X ha (by decide +kernel) hNn [] [.ref (a + 143), .ref (a + 0)] cn_X1_init ci_RX11_38 (by unfold z_X11_init_10; exact x_zc_z _ _) rfl rfl (Nat.le_of_ble_eq_true rfl) ⟨Nat.le_of_ble_eq_true rfl, Nat.le_of_ble_eq_true rfl⟩ ⟨Nat.le_of_ble_eq_true rfl, Nat.le_of_ble_eq_true rfl⟩ dX11_init_64 ?_
  have X := x_re X (.inl (11, [3, 7, 48, 89, 130, 2, 2, 2, 2, 2, 2]) :: (((((shTape ++ shWorldF) ++ shWorldF) ++ shWorldF) ++ shState) ++ shHistory))
  show bW p l e _ s m args below meth c D tc (fun q => a ≤ q) 1 [((.inl (11, [3, 7, 48, 89, 130, 2, 2, 2, 2, 2, 2]) :: (((((shTape ++ shWorldF) ++ shWorldF) ++ shWorldF) ++ shState) ++ shHistory)), fun i => a + i)] 264 2628 _ 67 [(0, .ref (a + 0))] [.ref (a + 143), .ref (a + 0)] [z_X11_init_11]
  refine a_putR (pc := 67) (kc := 264) (ks := 2628) (tl := (((((shTape ++ shWorldF) ++ shWorldF) ++ shWorldF) ++ shState) ++ shHistory)) (ci := 11) (kds := [3, 7, 48, 89, 130, 2, 2, 2, 2, 2, 2]) (o := 143) X hin fl_RX11_39 (fun _ _ _ h => by cases h; exact ⟨rfl, rfl⟩) rfl (by decide) rfl rfl dX11_init_67 ?_
  have X := x_re X (.inl (11, [3, 7, 48, 89, 130, 145, 2, 2, 2, 2, 2]) :: (((((shTape ++ shWorldF) ++ shWorldF) ++ shWorldF) ++ shState) ++ shHistory))
  show bW p l e _ s m args below meth c D tc (fun q => a ≤ q) 1 [((.inl (11, [3, 7, 48, 89, 130, 145, 2, 2, 2, 2, 2]) :: (((((shTape ++ shWorldF) ++ shWorldF) ++ shWorldF) ++ shState) ++ shHistory)), fun i => a + i)] 264 2628 _ 70 [(0, .ref (a + 0))] [] [z_X11_init_11]
  refine a_aload_n (pc := 70) X 0 dX11_init_70 rfl rfl ?_
  refine a_new (pc := 71) (kc := 264) (ks := 2628) (cur := (.inl (11, [3, 7, 48, 89, 130, 145, 2, 2, 2, 2, 2]) :: (((((shTape ++ shWorldF) ++ shWorldF) ++ shWorldF) ++ shState) ++ shHistory))) X ha (by decide +kernel) nw_RX11_43 dX11_init_71 ⟨Nat.le_of_ble_eq_true rfl, Nat.le_of_ble_eq_true rfl⟩ ?_
  have X := x_re X (.inl (11, [3, 7, 48, 89, 130, 145, 2, 2, 2, 2, 2]) :: ((((((shTape ++ shWorldF) ++ shWorldF) ++ shWorldF) ++ shState) ++ shHistory) ++ [.inl (6, [2, 0])]))
  show bW p l e _ s m args below meth c D tc (fun q => a ≤ q) 1 [((.inl (11, [3, 7, 48, 89, 130, 145, 2, 2, 2, 2, 2]) :: ((((((shTape ++ shWorldF) ++ shWorldF) ++ shWorldF) ++ shState) ++ shHistory) ++ [.inl (6, [2, 0])])), fun i => a + i)] 265 2630 _ 74 [(0, .ref (a + 0))] [.ref (a + 265), .ref (a + 0)] [z_X11_init_12]
  refine a_dup (pc := 74) X dX11_init_74 rfl ?_
  refine a_cinit (pc := 75) (kc := 265) (ks := 2630) (cur := (.inl (11, [3, 7, 48, 89, 130, 145, 2, 2, 2, 2, 2]) :: (((((shTape ++ shWorldF) ++ shWorldF) ++ shWorldF) ++ shState) ++ shHistory))) (k0 := .inl (6, [2, 0])) (v := z_X11_init_12) X ha (by decide +kernel) hNn [] [.ref (a + 265), .ref (a + 0)] cn_X6_init ci_RX11_45 (by unfold z_X11_init_12; exact x_zc_z _ _) rfl rfl (Nat.le_of_ble_eq_true rfl) ⟨Nat.le_of_ble_eq_true rfl, Nat.le_of_ble_eq_true rfl⟩ ⟨Nat.le_of_ble_eq_true rfl, Nat.le_of_ble_eq_true rfl⟩ dX11_init_75 ?_
  have X := x_re X (.inl (11, [3, 7, 48, 89, 130, 145, 2, 2, 2, 2, 2]) :: ((((((shTape ++ shWorldF) ++ shWorldF) ++ shWorldF) ++ shState) ++ shHistory) ++ shSurveyor))
  show bW p l e _ s m args below meth c D tc (fun q => a ≤ q) 1 [((.inl (11, [3, 7, 48, 89, 130, 145, 2, 2, 2, 2, 2]) :: ((((((shTape ++ shWorldF) ++ shWorldF) ++ shWorldF) ++ shState) ++ shHistory) ++ shSurveyor)), fun i => a + i)] 281 2734 _ 78 [(0, .ref (a + 0))] [.ref (a + 265), .ref (a + 0)] [z_X11_init_13]
  refine a_putR (pc := 78) (kc := 281) (ks := 2734) (tl := ((((((shTape ++ shWorldF) ++ shWorldF) ++ shWorldF) ++ shState) ++ shHistory) ++ shSurveyor)) (ci := 11) (kds := [3, 7, 48, 89, 130, 145, 2, 2, 2, 2, 2]) (o := 265) X hin fl_RX11_46 (fun _ _ _ h => by cases h; exact ⟨rfl, rfl⟩) rfl (by decide) rfl rfl dX11_init_78 ?_
  have X := x_re X (.inl (11, [3, 7, 48, 89, 130, 145, 267, 2, 2, 2, 2]) :: ((((((shTape ++ shWorldF) ++ shWorldF) ++ shWorldF) ++ shState) ++ shHistory) ++ shSurveyor))
  show bW p l e _ s m args below meth c D tc (fun q => a ≤ q) 1 [((.inl (11, [3, 7, 48, 89, 130, 145, 267, 2, 2, 2, 2]) :: ((((((shTape ++ shWorldF) ++ shWorldF) ++ shWorldF) ++ shState) ++ shHistory) ++ shSurveyor)), fun i => a + i)] 281 2734 _ 81 [(0, .ref (a + 0))] [] [z_X11_init_13]
  refine a_aload_n (pc := 81) X 0 dX11_init_81 rfl rfl ?_
  refine a_new (pc := 82) (kc := 281) (ks := 2734) (cur := (.inl (11, [3, 7, 48, 89, 130, 145, 267, 2, 2, 2, 2]) :: ((((((shTape ++ shWorldF) ++ shWorldF) ++ shWorldF) ++ shState) ++ shHistory) ++ shSurveyor))) X ha (by decide +kernel) nw_RX11_50 dX11_init_82 ⟨Nat.le_of_ble_eq_true rfl, Nat.le_of_ble_eq_true rfl⟩ ?_
  have X := x_re X (.inl (11, [3, 7, 48, 89, 130, 145, 267, 2, 2, 2, 2]) :: (((((((shTape ++ shWorldF) ++ shWorldF) ++ shWorldF) ++ shState) ++ shHistory) ++ shSurveyor) ++ [.inl (0, [2, 2, 2, 2, 0, 0, 0, 0, 0, 0])]))
  show bW p l e _ s m args below meth c D tc (fun q => a ≤ q) 1 [((.inl (11, [3, 7, 48, 89, 130, 145, 267, 2, 2, 2, 2]) :: (((((((shTape ++ shWorldF) ++ shWorldF) ++ shWorldF) ++ shState) ++ shHistory) ++ shSurveyor) ++ [.inl (0, [2, 2, 2, 2, 0, 0, 0, 0, 0, 0])])), fun i => a + i)] 282 2744 _ 85 [(0, .ref (a + 0))] [.ref (a + 282), .ref (a + 0)] [z_X11_init_14]
  refine a_dup (pc := 85) X dX11_init_85 rfl ?_
  refine a_cinit (pc := 86) (kc := 282) (ks := 2744) (cur := (.inl (11, [3, 7, 48, 89, 130, 145, 267, 2, 2, 2, 2]) :: ((((((shTape ++ shWorldF) ++ shWorldF) ++ shWorldF) ++ shState) ++ shHistory) ++ shSurveyor))) (k0 := .inl (0, [2, 2, 2, 2, 0, 0, 0, 0, 0, 0])) (v := z_X11_init_14) X ha (by decide +kernel) hNn [] [.ref (a + 282), .ref (a + 0)] cn_X0_init ci_RX11_52 (by unfold z_X11_init_14; exact x_zc_z _ _) rfl rfl (Nat.le_of_ble_eq_true rfl) ⟨Nat.le_of_ble_eq_true rfl, Nat.le_of_ble_eq_true rfl⟩ ⟨Nat.le_of_ble_eq_true rfl, Nat.le_of_ble_eq_true rfl⟩ dX11_init_86 ?_
  have X := x_re X (.inl (11, [3, 7, 48, 89, 130, 145, 267, 2, 2, 2, 2]) :: (((((((shTape ++ shWorldF) ++ shWorldF) ++ shWorldF) ++ shState) ++ shHistory) ++ shSurveyor) ++ shBook))
  show bW p l e _ s m args below meth c D tc (fun q => a ≤ q) 1 [((.inl (11, [3, 7, 48, 89, 130, 145, 267, 2, 2, 2, 2]) :: (((((((shTape ++ shWorldF) ++ shWorldF) ++ shWorldF) ++ shState) ++ shHistory) ++ shSurveyor) ++ shBook)), fun i => a + i)] 290 2908 _ 89 [(0, .ref (a + 0))] [.ref (a + 282), .ref (a + 0)] [z_X11_init_15]
  refine a_putR (pc := 89) (kc := 290) (ks := 2908) (tl := (((((((shTape ++ shWorldF) ++ shWorldF) ++ shWorldF) ++ shState) ++ shHistory) ++ shSurveyor) ++ shBook)) (ci := 11) (kds := [3, 7, 48, 89, 130, 145, 267, 2, 2, 2, 2]) (o := 282) X hin fl_RX11_53 (fun _ _ _ h => by cases h; exact ⟨rfl, rfl⟩) rfl (by decide) rfl rfl dX11_init_89 ?_
  have X := x_re X (.inl (11, [3, 7, 48, 89, 130, 145, 267, 284, 2, 2, 2]) :: (((((((shTape ++ shWorldF) ++ shWorldF) ++ shWorldF) ++ shState) ++ shHistory) ++ shSurveyor) ++ shBook))
  show bW p l e _ s m args below meth c D tc (fun q => a ≤ q) 1 [((.inl (11, [3, 7, 48, 89, 130, 145, 267, 284, 2, 2, 2]) :: (((((((shTape ++ shWorldF) ++ shWorldF) ++ shWorldF) ++ shState) ++ shHistory) ++ shSurveyor) ++ shBook)), fun i => a + i)] 290 2908 _ 92 [(0, .ref (a + 0))] [] [z_X11_init_15]
  refine a_aload_n (pc := 92) X 0 dX11_init_92 rfl rfl ?_
  refine a_new (pc := 93) (kc := 290) (ks := 2908) (cur := (.inl (11, [3, 7, 48, 89, 130, 145, 267, 284, 2, 2, 2]) :: (((((((shTape ++ shWorldF) ++ shWorldF) ++ shWorldF) ++ shState) ++ shHistory) ++ shSurveyor) ++ shBook))) X ha (by decide +kernel) nw_RX11_57 dX11_init_93 ⟨Nat.le_of_ble_eq_true rfl, Nat.le_of_ble_eq_true rfl⟩ ?_
  have X := x_re X (.inl (11, [3, 7, 48, 89, 130, 145, 267, 284, 2, 2, 2]) :: ((((((((shTape ++ shWorldF) ++ shWorldF) ++ shWorldF) ++ shState) ++ shHistory) ++ shSurveyor) ++ shBook) ++ [.inl (4, [0, 0, 2, 2, 2, 2, 0, 0])]))
  show bW p l e _ s m args below meth c D tc (fun q => a ≤ q) 1 [((.inl (11, [3, 7, 48, 89, 130, 145, 267, 284, 2, 2, 2]) :: ((((((((shTape ++ shWorldF) ++ shWorldF) ++ shWorldF) ++ shState) ++ shHistory) ++ shSurveyor) ++ shBook) ++ [.inl (4, [0, 0, 2, 2, 2, 2, 0, 0])])), fun i => a + i)] 291 2916 _ 96 [(0, .ref (a + 0))] [.ref (a + 291), .ref (a + 0)] [z_X11_init_16]
  refine a_dup (pc := 96) X dX11_init_96 rfl ?_
  refine a_cinit (pc := 97) (kc := 291) (ks := 2916) (cur := (.inl (11, [3, 7, 48, 89, 130, 145, 267, 284, 2, 2, 2]) :: (((((((shTape ++ shWorldF) ++ shWorldF) ++ shWorldF) ++ shState) ++ shHistory) ++ shSurveyor) ++ shBook))) (k0 := .inl (4, [0, 0, 2, 2, 2, 2, 0, 0])) (v := z_X11_init_16) X ha (by decide +kernel) hNn [] [.ref (a + 291), .ref (a + 0)] cn_X4_init ci_RX11_59 (by unfold z_X11_init_16; exact x_zc_z _ _) rfl rfl (Nat.le_of_ble_eq_true rfl) ⟨Nat.le_of_ble_eq_true rfl, Nat.le_of_ble_eq_true rfl⟩ ⟨Nat.le_of_ble_eq_true rfl, Nat.le_of_ble_eq_true rfl⟩ dX11_init_97 ?_
  have X := x_re X (.inl (11, [3, 7, 48, 89, 130, 145, 267, 284, 2, 2, 2]) :: ((((((((shTape ++ shWorldF) ++ shWorldF) ++ shWorldF) ++ shState) ++ shHistory) ++ shSurveyor) ++ shBook) ++ shSentence))
  show bW p l e _ s m args below meth c D tc (fun q => a ≤ q) 1 [((.inl (11, [3, 7, 48, 89, 130, 145, 267, 284, 2, 2, 2]) :: ((((((((shTape ++ shWorldF) ++ shWorldF) ++ shWorldF) ++ shState) ++ shHistory) ++ shSurveyor) ++ shBook) ++ shSentence)), fun i => a + i)] 299 3080 _ 100 [(0, .ref (a + 0))] [.ref (a + 291), .ref (a + 0)] [z_X11_init_17]
  refine a_putR (pc := 100) (kc := 299) (ks := 3080) (tl := ((((((((shTape ++ shWorldF) ++ shWorldF) ++ shWorldF) ++ shState) ++ shHistory) ++ shSurveyor) ++ shBook) ++ shSentence)) (ci := 11) (kds := [3, 7, 48, 89, 130, 145, 267, 284, 2, 2, 2]) (o := 291) X hin fl_RX11_60 (fun _ _ _ h => by cases h; exact ⟨rfl, rfl⟩) rfl (by decide) rfl rfl dX11_init_100 ?_
  have X := x_re X (.inl (11, [3, 7, 48, 89, 130, 145, 267, 284, 293, 2, 2]) :: ((((((((shTape ++ shWorldF) ++ shWorldF) ++ shWorldF) ++ shState) ++ shHistory) ++ shSurveyor) ++ shBook) ++ shSentence))
  show bW p l e _ s m args below meth c D tc (fun q => a ≤ q) 1 [((.inl (11, [3, 7, 48, 89, 130, 145, 267, 284, 293, 2, 2]) :: ((((((((shTape ++ shWorldF) ++ shWorldF) ++ shWorldF) ++ shState) ++ shHistory) ++ shSurveyor) ++ shBook) ++ shSentence)), fun i => a + i)] 299 3080 _ 103 [(0, .ref (a + 0))] [] [z_X11_init_17]
  refine a_aload_n (pc := 103) X 0 dX11_init_103 rfl rfl ?_
  refine a_new (pc := 104) (kc := 299) (ks := 3080) (cur := (.inl (11, [3, 7, 48, 89, 130, 145, 267, 284, 293, 2, 2]) :: ((((((((shTape ++ shWorldF) ++ shWorldF) ++ shWorldF) ++ shState) ++ shHistory) ++ shSurveyor) ++ shBook) ++ shSentence))) X ha (by decide +kernel) nw_RX11_64 dX11_init_104 ⟨Nat.le_of_ble_eq_true rfl, Nat.le_of_ble_eq_true rfl⟩ ?_
  have X := x_re X (.inl (11, [3, 7, 48, 89, 130, 145, 267, 284, 293, 2, 2]) :: (((((((((shTape ++ shWorldF) ++ shWorldF) ++ shWorldF) ++ shState) ++ shHistory) ++ shSurveyor) ++ shBook) ++ shSentence) ++ [.inl (2, [2, 2, 2, 2, 2, 2, 0, 2, 0, 0, 0, 0])]))
  show bW p l e _ s m args below meth c D tc (fun q => a ≤ q) 1 [((.inl (11, [3, 7, 48, 89, 130, 145, 267, 284, 293, 2, 2]) :: (((((((((shTape ++ shWorldF) ++ shWorldF) ++ shWorldF) ++ shState) ++ shHistory) ++ shSurveyor) ++ shBook) ++ shSentence) ++ [.inl (2, [2, 2, 2, 2, 2, 2, 0, 2, 0, 0, 0, 0])])), fun i => a + i)] 300 3092 _ 107 [(0, .ref (a + 0))] [.ref (a + 300), .ref (a + 0)] [z_X11_init_18]
  refine a_dup (pc := 107) X dX11_init_107 rfl ?_
  refine a_cinit (pc := 108) (kc := 300) (ks := 3092) (cur := (.inl (11, [3, 7, 48, 89, 130, 145, 267, 284, 293, 2, 2]) :: ((((((((shTape ++ shWorldF) ++ shWorldF) ++ shWorldF) ++ shState) ++ shHistory) ++ shSurveyor) ++ shBook) ++ shSentence))) (k0 := .inl (2, [2, 2, 2, 2, 2, 2, 0, 2, 0, 0, 0, 0])) (v := z_X11_init_18) X ha (by decide +kernel) hNn [] [.ref (a + 300), .ref (a + 0)] cn_X2_init ci_RX11_66 (by unfold z_X11_init_18; exact x_zc_z _ _) rfl rfl (Nat.le_of_ble_eq_true rfl) ⟨Nat.le_of_ble_eq_true rfl, Nat.le_of_ble_eq_true rfl⟩ ⟨Nat.le_of_ble_eq_true rfl, Nat.le_of_ble_eq_true rfl⟩ dX11_init_108 ?_
  have X := x_re X (.inl (11, [3, 7, 48, 89, 130, 145, 267, 284, 293, 2, 2]) :: (((((((((shTape ++ shWorldF) ++ shWorldF) ++ shWorldF) ++ shState) ++ shHistory) ++ shSurveyor) ++ shBook) ++ shSentence) ++ shRoads))
  show bW p l e _ s m args below meth c D tc (fun q => a ≤ q) 1 [((.inl (11, [3, 7, 48, 89, 130, 145, 267, 284, 293, 2, 2]) :: (((((((((shTape ++ shWorldF) ++ shWorldF) ++ shWorldF) ++ shState) ++ shHistory) ++ shSurveyor) ++ shBook) ++ shSentence) ++ shRoads)), fun i => a + i)] 314 3713 _ 111 [(0, .ref (a + 0))] [.ref (a + 300), .ref (a + 0)] [z_X11_init_19]
  refine a_putR (pc := 111) (kc := 314) (ks := 3713) (tl := (((((((((shTape ++ shWorldF) ++ shWorldF) ++ shWorldF) ++ shState) ++ shHistory) ++ shSurveyor) ++ shBook) ++ shSentence) ++ shRoads)) (ci := 11) (kds := [3, 7, 48, 89, 130, 145, 267, 284, 293, 2, 2]) (o := 300) X hin fl_RX11_67 (fun _ _ _ h => by cases h; exact ⟨rfl, rfl⟩) rfl (by decide) rfl rfl dX11_init_111 ?_
  have X := x_re X (.inl (11, [3, 7, 48, 89, 130, 145, 267, 284, 293, 302, 2]) :: (((((((((shTape ++ shWorldF) ++ shWorldF) ++ shWorldF) ++ shState) ++ shHistory) ++ shSurveyor) ++ shBook) ++ shSentence) ++ shRoads))
  show bW p l e _ s m args below meth c D tc (fun q => a ≤ q) 1 [((.inl (11, [3, 7, 48, 89, 130, 145, 267, 284, 293, 302, 2]) :: (((((((((shTape ++ shWorldF) ++ shWorldF) ++ shWorldF) ++ shState) ++ shHistory) ++ shSurveyor) ++ shBook) ++ shSentence) ++ shRoads)), fun i => a + i)] 314 3713 _ 114 [(0, .ref (a + 0))] [] [z_X11_init_19]
  refine a_aload_n (pc := 114) X 0 dX11_init_114 rfl rfl ?_
  refine a_new (pc := 115) (kc := 314) (ks := 3713) (cur := (.inl (11, [3, 7, 48, 89, 130, 145, 267, 284, 293, 302, 2]) :: (((((((((shTape ++ shWorldF) ++ shWorldF) ++ shWorldF) ++ shState) ++ shHistory) ++ shSurveyor) ++ shBook) ++ shSentence) ++ shRoads))) X ha (by decide +kernel) nw_RX11_71 dX11_init_115 ⟨Nat.le_of_ble_eq_true rfl, Nat.le_of_ble_eq_true rfl⟩ ?_
  have X := x_re X (.inl (11, [3, 7, 48, 89, 130, 145, 267, 284, 293, 302, 2]) :: ((((((((((shTape ++ shWorldF) ++ shWorldF) ++ shWorldF) ++ shState) ++ shHistory) ++ shSurveyor) ++ shBook) ++ shSentence) ++ shRoads) ++ [.inl (7, [2, 0])]))
  show bW p l e _ s m args below meth c D tc (fun q => a ≤ q) 1 [((.inl (11, [3, 7, 48, 89, 130, 145, 267, 284, 293, 302, 2]) :: ((((((((((shTape ++ shWorldF) ++ shWorldF) ++ shWorldF) ++ shState) ++ shHistory) ++ shSurveyor) ++ shBook) ++ shSentence) ++ shRoads) ++ [.inl (7, [2, 0])])), fun i => a + i)] 315 3715 _ 118 [(0, .ref (a + 0))] [.ref (a + 315), .ref (a + 0)] [z_X11_init_20]
  refine a_dup (pc := 118) X dX11_init_118 rfl ?_
  refine a_cinit (pc := 119) (kc := 315) (ks := 3715) (cur := (.inl (11, [3, 7, 48, 89, 130, 145, 267, 284, 293, 302, 2]) :: (((((((((shTape ++ shWorldF) ++ shWorldF) ++ shWorldF) ++ shState) ++ shHistory) ++ shSurveyor) ++ shBook) ++ shSentence) ++ shRoads))) (k0 := .inl (7, [2, 0])) (v := z_X11_init_20) X ha (by decide +kernel) hNn [] [.ref (a + 315), .ref (a + 0)] cn_X7_init ci_RX11_73 (by unfold z_X11_init_20; exact x_zc_z _ _) rfl rfl (Nat.le_of_ble_eq_true rfl) ⟨Nat.le_of_ble_eq_true rfl, Nat.le_of_ble_eq_true rfl⟩ ⟨Nat.le_of_ble_eq_true rfl, Nat.le_of_ble_eq_true rfl⟩ dX11_init_119 ?_
  have X := x_re X (.inl (11, [3, 7, 48, 89, 130, 145, 267, 284, 293, 302, 2]) :: ((((((((((shTape ++ shWorldF) ++ shWorldF) ++ shWorldF) ++ shState) ++ shHistory) ++ shSurveyor) ++ shBook) ++ shSentence) ++ shRoads) ++ shTag))
  show bW p l e _ s m args below meth c D tc (fun q => a ≤ q) 1 [((.inl (11, [3, 7, 48, 89, 130, 145, 267, 284, 293, 302, 2]) :: ((((((((((shTape ++ shWorldF) ++ shWorldF) ++ shWorldF) ++ shState) ++ shHistory) ++ shSurveyor) ++ shBook) ++ shSentence) ++ shRoads) ++ shTag)), fun i => a + i)] 317 3748 _ 122 [(0, .ref (a + 0))] [.ref (a + 315), .ref (a + 0)] [z_X11_init_21]
  refine a_putR (pc := 122) (kc := 317) (ks := 3748) (tl := ((((((((((shTape ++ shWorldF) ++ shWorldF) ++ shWorldF) ++ shState) ++ shHistory) ++ shSurveyor) ++ shBook) ++ shSentence) ++ shRoads) ++ shTag)) (ci := 11) (kds := [3, 7, 48, 89, 130, 145, 267, 284, 293, 302, 2]) (o := 315) X hin fl_RX11_74 (fun _ _ _ h => by cases h; exact ⟨rfl, rfl⟩) rfl (by decide) rfl rfl dX11_init_122 ?_
  have X := x_re X (.inl (11, [3, 7, 48, 89, 130, 145, 267, 284, 293, 302, 317]) :: ((((((((((shTape ++ shWorldF) ++ shWorldF) ++ shWorldF) ++ shState) ++ shHistory) ++ shSurveyor) ++ shBook) ++ shSentence) ++ shRoads) ++ shTag))
  show bW p l e _ s m args below meth c D tc (fun q => a ≤ q) 1 [((.inl (11, [3, 7, 48, 89, 130, 145, 267, 284, 293, 302, 317]) :: ((((((((((shTape ++ shWorldF) ++ shWorldF) ++ shWorldF) ++ shState) ++ shHistory) ++ shSurveyor) ++ shBook) ++ shSentence) ++ shRoads) ++ shTag)), fun i => a + i)] 317 3748 _ 125 [(0, .ref (a + 0))] [] [z_X11_init_21]
  have X := x_re X shFoldRoads
  exact a_vret (pc := 125) X trivial dX11_init_125
