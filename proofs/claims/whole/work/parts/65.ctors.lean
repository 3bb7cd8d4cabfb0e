theorem dX1_init_0 : decode cX1_init 0 = .ok (.aload_n 0, 1) := by decide +kernel
theorem dX1_init_1 : decode cX1_init 1 = .ok (.invokespecial 3, 3) := by decide +kernel
theorem dX1_init_4 : decode cX1_init 4 = .ok (.aload_n 0, 1) := by decide +kernel
theorem dX1_init_5 : decode cX1_init 5 = .ok (.bipush 8, 2) := by decide +kernel
theorem dX1_init_7 : decode cX1_init 7 = .ok (.anewarray 9, 3) := by decide +kernel
theorem dX1_init_10 : decode cX1_init 10 = .ok (.putfield 11, 3) := by decide +kernel
theorem dX1_init_13 : decode cX1_init 13 = .ok (.iconst 0, 1) := by decide +kernel
theorem dX1_init_14 : decode cX1_init 14 = .ok (.istore_n 1, 1) := by decide +kernel
theorem dX1_init_15 : decode cX1_init 15 = .ok (.iload_n 1, 1) := by decide +kernel
theorem dX1_init_16 : decode cX1_init 16 = .ok (.aload_n 0, 1) := by decide +kernel
theorem dX1_init_17 : decode cX1_init 17 = .ok (.getfield 11, 3) := by decide +kernel
theorem dX1_init_20 : decode cX1_init 20 = .ok (.arraylength, 1) := by decide +kernel
theorem dX1_init_21 : decode cX1_init 21 = .ok (.if_icmp .ge 22, 3) := by decide +kernel
theorem dX1_init_24 : decode cX1_init 24 = .ok (.aload_n 0, 1) := by decide +kernel
theorem dX1_init_25 : decode cX1_init 25 = .ok (.getfield 11, 3) := by decide +kernel
theorem dX1_init_28 : decode cX1_init 28 = .ok (.iload_n 1, 1) := by decide +kernel
theorem dX1_init_29 : decode cX1_init 29 = .ok (.new 9, 3) := by decide +kernel
theorem dX1_init_32 : decode cX1_init 32 = .ok (.dup, 1) := by decide +kernel
theorem dX1_init_33 : decode cX1_init 33 = .ok (.invokespecial 17, 3) := by decide +kernel
theorem dX1_init_36 : decode cX1_init 36 = .ok (.aastore, 1) := by decide +kernel
theorem dX1_init_37 : decode cX1_init 37 = .ok (.iinc 1 1, 3) := by decide +kernel
theorem dX1_init_40 : decode cX1_init 40 = .ok (.goto (-25), 3) := by decide +kernel
theorem dX1_init_43 : decode cX1_init 43 = .ok (.return_, 1) := by decide +kernel
theorem ko_RX1 : Cond.methodLink RX1 3 Lib.objectInit ∈ x_TB ∧ Cond.instanceMethod Lib.objectInit ∈ x_TB ∧ Cond.code Lib.objectInit ⟨#[0xb1]⟩ 1 none ∈ x_TB := ⟨(x_tb (x_t2 (List.mem_of_getElem? (i := 149) rfl)) rfl), (x_tb (x_t1 (List.mem_of_getElem? (i := 30) rfl)) rfl), (x_tb (x_t1 (List.mem_of_getElem? (i := 31) rfl)) rfl)⟩
theorem nw_RX1_9 : x_nw RX1 9 5 10 [0, 0, 0, 2, 2, 2, 2, 2, 2, 2] := ⟨RX5, TX5, tyX5, rfl, (x_tb (x_t2 (List.mem_of_getElem? (i := 150) rfl)) rfl), (x_tb (x_t2 (List.mem_of_getElem? (i := 14) rfl)) rfl), (x_tb (x_t1 (List.mem_of_getElem? (i := 10) rfl)) rfl), wsIn5, tyX5_ok, fun j hj => by
  match j, hj with
  | 0, _ => exact Or.inl ⟨rfl, rfl⟩
  | 1, _ => exact Or.inl ⟨rfl, rfl⟩
  | 2, _ => exact Or.inl ⟨rfl, rfl⟩
  | 3, _ => exact Or.inr (Or.inr ⟨rfl, rfl⟩)
  | 4, _ => exact Or.inr (Or.inr ⟨rfl, rfl⟩)
  | 5, _ => exact Or.inr (Or.inr ⟨rfl, rfl⟩)
  | 6, _ => exact Or.inr (Or.inr ⟨rfl, rfl⟩)
  | 7, _ => exact Or.inr (Or.inr ⟨rfl, rfl⟩)
  | 8, _ => exact Or.inr (Or.inr ⟨rfl, rfl⟩)
  | 9, _ => exact Or.inr (Or.inr ⟨rfl, rfl⟩)
  | j + 10, h => exact absurd h (by omega)⟩
theorem ci_RX1_17 : x_ci RX1 17 yX5_init cX5_init 1 0 := ⟨Or.inr (List.mem_of_getElem? (i := 5) rfl), (x_tb (x_t2 (List.mem_of_getElem? (i := 16) rfl)) rfl), (x_tb (x_t1 (List.mem_of_getElem? (i := 10) rfl)) rfl), (x_tb (x_t2 (List.mem_of_getElem? (i := 17) rfl)) rfl), by decide, by decide, by decide +kernel, rfl⟩
def z_X1_init_0 : XM := x_zc x_z 1
def z_X1_init_1 : XM := x_zc z_X1_init_0 2
def z_X1_init_2 : XM := x_app 2 z_X1_init_1 z_X5_init
def z_X1_init_3 : XM := x_zc z_X1_init_2 17
def z_X1_init_4 : XM := x_app 17 z_X1_init_3 z_X5_init
def z_X1_init_5 : XM := x_zc z_X1_init_4 32
def z_X1_init_6 : XM := x_app 32 z_X1_init_5 z_X5_init
def z_X1_init_7 : XM := x_zc z_X1_init_6 47
def z_X1_init_8 : XM := x_app 47 z_X1_init_7 z_X5_init
def z_X1_init_9 : XM := x_zc z_X1_init_8 62
def z_X1_init_10 : XM := x_app 62 z_X1_init_9 z_X5_init
def z_X1_init_11 : XM := x_zc z_X1_init_10 77
def z_X1_init_12 : XM := x_app 77 z_X1_init_11 z_X5_init
def z_X1_init_13 : XM := x_zc z_X1_init_12 92
def z_X1_init_14 : XM := x_app 92 z_X1_init_13 z_X5_init
def z_X1_init_15 : XM := x_zc z_X1_init_14 107
def z_X1_init_16 : XM := x_app 107 z_X1_init_15 z_X5_init
abbrev z_X1_init : XM := z_X1_init_16
set_option maxRecDepth 100000 in
set_option maxHeartbeats 4000000 in
theorem cn_X1_init {l : Launch} : CN l yX1_init cX1_init 2 3 121 536 (.inl (1, [2, 0, 0])) shHistory z_X1_init [] := by
  refine CN_of (by decide) rfl (fun _ => Nat.le_of_ble_eq_true rfl) ?_
  intro p e s m args below meth c D tc aK aV a X ha hNn hin
  have X : Cx p s m args meth c cX1_init 2 none RX1 D tc aK aV (fun q => a ≤ q) [([.inl (1, [2, 0, 0])], fun i => a + i)] := X
  show bW p l e (x_RmN 3 121 536) s m args below meth c D tc (fun q => a ≤ q) 2 [([.inl (1, [2, 0, 0])], fun i => a + i)] 0 0 (MQ below (x_Q none True D tc [(shHistory, fun i => a + i)] [z_X1_init] (fun q => a ≤ q)) args s 121 536 (fun q => a ≤ q)) 0 [(0, .ref (a + 0))] [] [x_z]
  refine a_aload_n (pc := 0) X 0 dX1_init_0 rfl rfl ?_
  refine a_obj (pc := 1) X ko_RX1 dX1_init_1 (Nat.le_of_ble_eq_true rfl) (Nat.le_of_ble_eq_true rfl) ?_
  refine a_aload_n (pc := 4) X 0 dX1_init_4 rfl rfl ?_
  refine a_bipush (pc := 5) X dX1_init_5 q_bp_8 ?_
  refine a_newq (pc := 7) (kc := 0) (ks := 0) (cur := (.inl (1, [2, 0, 0]) :: [])) (N := 8) X ha rfl hNn (x_tb (x_t2 (List.mem_of_getElem? (i := 150) rfl)) rfl) (by decide) (by decide) (by decide) dX1_init_7 ⟨Nat.le_of_ble_eq_true rfl, Nat.le_of_ble_eq_true rfl⟩ ?_
  have X := x_re X (.inl (1, [2, 0, 0]) :: [.inr (815 + 3, 8)])
  show bW p l e _ s m args below meth c D tc (fun q => a ≤ q) 2 [((.inl (1, [2, 0, 0]) :: [.inr (815 + 3, 8)]), fun i => a + i)] 1 8 _ 10 [(0, .ref (a + 0))] [.ref (a + 1), .ref (a + 0)] [z_X1_init_0]
  refine a_putR (pc := 10) (kc := 1) (ks := 8) (tl := [.inr (815 + 3, 8)]) (ci := 1) (kds := [2, 0, 0]) (o := 1) X hin fl_RX1_11 (fun _ _ _ h => by cases h; exact ⟨rfl, rfl⟩) rfl (by decide) rfl rfl dX1_init_10 ?_
  have X := x_re X (.inl (1, [3, 0, 0]) :: .inr (815 + 3, 8) :: [])
  show bW p l e _ s m args below meth c D tc (fun q => a ≤ q) 2 [((.inl (1, [3, 0, 0]) :: .inr (815 + 3, 8) :: []), fun i => a + i)] 1 8 _ 13 [(0, .ref (a + 0))] [] [z_X1_init_0]
  refine a_iconst (pc := 13) X dX1_init_13 q_ic_0 ?_
  refine a_istore_n (pc := 14) X [(1, .int 0), (0, .ref (a + 0))] dX1_init_14 rfl (by decide) rfl ?_
  show bW p l e _ s m args below meth c D tc (fun q => a ≤ q) 2 [((.inl (1, [3, 0, 0]) :: .inr (815 + 3, 8) :: []), fun i => a + i)] 1 8 _ 15 [(1, .int 0), (0, .ref (a + 0))] [] [z_X1_init_0]
  refine a_iload_n (pc := 15) X 0 dX1_init_15 rfl rfl ?_
  refine a_aload_n (pc := 16) X 1 dX1_init_16 rfl rfl ?_
  refine a_getR (pc := 17) (id := 0) (sh := (.inl (1, [3, 0, 0]) :: .inr (815 + 3, 8) :: [])) (ad := fun i => a + i) X 0 1 1 fl_RX1_11 rfl rfl rfl rfl rfl dX1_init_17 ?_
  refine a_alenR (pc := 20) (id := 1) (n := 8) (o := 815) (x := 8) (sh := (.inl (1, [3, 0, 0]) :: .inr (815 + 3, 8) :: [])) (ad := fun i => a + i) X 0 rfl rfl rfl rfl dX1_init_20 ?_
  refine a_icmp_ge (pc := 21) X 43 dX1_init_21 rfl (fun q => absurd q (by decide)) (fun _ => ?_)
  refine a_aload_n (pc := 24) X 1 dX1_init_24 rfl rfl ?_
  refine a_getR (pc := 25) (id := 0) (sh := (.inl (1, [3, 0, 0]) :: .inr (815 + 3, 8) :: [])) (ad := fun i => a + i) X 0 1 1 fl_RX1_11 rfl rfl rfl rfl rfl dX1_init_25 ?_
  refine a_iload_n (pc := 28) X 0 dX1_init_28 rfl rfl ?_
  refine a_new (pc := 29) (kc := 1) (ks := 8) (cur := (.inl (1, [3, 0, 0]) :: .inr (815 + 3, 8) :: [])) X ha (by decide +kernel) nw_RX1_9 dX1_init_29 ⟨Nat.le_of_ble_eq_true rfl, Nat.le_of_ble_eq_true rfl⟩ ?_
  have X := x_re X ((.inl (1, [3, 0, 0]) :: .inr (815 + 3, 8) :: []) ++ [.inl (5, [0, 0, 0, 2, 2, 2, 2, 2, 2, 2])])
  show bW p l e _ s m args below meth c D tc (fun q => a ≤ q) 2 [(((.inl (1, [3, 0, 0]) :: .inr (815 + 3, 8) :: []) ++ [.inl (5, [0, 0, 0, 2, 2, 2, 2, 2, 2, 2])]), fun i => a + i)] 2 18 _ 32 [(1, .int 0), (0, .ref (a + 0))] [.ref (a + 2), .int 0, .ref (a + 1)] [z_X1_init_1]
  refine a_dup (pc := 32) X dX1_init_32 rfl ?_
  refine a_cinit (pc := 33) (kc := 2) (ks := 18) (cur := (.inl (1, [3, 0, 0]) :: .inr (815 + 3, 8) :: [])) (k0 := .inl (5, [0, 0, 0, 2, 2, 2, 2, 2, 2, 2])) (v := z_X1_init_1) X ha (by decide +kernel) hNn [] [.ref (a + 2), .int 0, .ref (a + 1)] cn_X5_init ci_RX1_17 (by unfold z_X1_init_1; exact x_zc_z _ _) rfl rfl (Nat.le_of_ble_eq_true rfl) ⟨Nat.le_of_ble_eq_true rfl, Nat.le_of_ble_eq_true rfl⟩ ⟨Nat.le_of_ble_eq_true rfl, Nat.le_of_ble_eq_true rfl⟩ dX1_init_33 ?_
  have X := x_re X (.inl (1, [3, 0, 0]) :: .inr (815 + 3, 8) :: shState)
  show bW p l e _ s m args below meth c D tc (fun q => a ≤ q) 2 [((.inl (1, [3, 0, 0]) :: .inr (815 + 3, 8) :: shState), fun i => a + i)] 16 74 _ 36 [(1, .int 0), (0, .ref (a + 0))] [.ref (a + 2), .int 0, .ref (a + 1)] [z_X1_init_2]
  refine a_aastH (pc := 36) (x0 := .inl (1, [3, 0, 0])) (tl := shState) (K := 815) (K2 := 715) (n := 8) (j := 0) (kds := [0, 0, 0, 3, 5, 7, 9, 11, 13, 15]) X (by decide) (fun h => by rcases h with h | h <;> revert h <;> decide) rfl rfl rfl rfl rfl dX1_init_36 ?_
  have X := x_re X (.inl (1, [3, 0, 0]) :: .inr (715 + 3, 8) :: shState)
  show bW p l e _ s m args below meth c D tc (fun q => a ≤ q) 2 [((.inl (1, [3, 0, 0]) :: .inr (715 + 3, 8) :: shState), fun i => a + i)] 16 74 _ 37 [(1, .int 0), (0, .ref (a + 0))] [] [z_X1_init_2]
  refine a_iinc (pc := 37) (v := 1) X 0 [(1, .int 1), (0, .ref (a + 0))] dX1_init_37 rfl (by decide) (by decide) rfl ?_
  refine a_goto (pc := 40) X 15 dX1_init_40 rfl ?_
  show bW p l e _ s m args below meth c D tc (fun q => a ≤ q) 2 [((.inl (1, [3, 0, 0]) :: .inr (715 + 3, 8) :: shState), fun i => a + i)] 16 74 _ 15 [(1, .int 1), (0, .ref (a + 0))] [] [z_X1_init_2]
  refine a_iload_n (pc := 15) X 0 dX1_init_15 rfl rfl ?_
  refine a_aload_n (pc := 16) X 1 dX1_init_16 rfl rfl ?_
  refine a_getR (pc := 17) (id := 0) (sh := (.inl (1, [3, 0, 0]) :: .inr (715 + 3, 8) :: shState)) (ad := fun i => a + i) X 0 1 1 fl_RX1_11 rfl rfl rfl rfl rfl dX1_init_17 ?_
  refine a_alenR (pc := 20) (id := 1) (n := 8) (o := 715) (x := 8) (sh := (.inl (1, [3, 0, 0]) :: .inr (715 + 3, 8) :: shState)) (ad := fun i => a + i) X 0 rfl rfl rfl rfl dX1_init_20 ?_
  refine a_icmp_ge (pc := 21) X 43 dX1_init_21 rfl (fun q => absurd q (by decide)) (fun _ => ?_)
  refine a_aload_n (pc := 24) X 1 dX1_init_24 rfl rfl ?_
  refine a_getR (pc := 25) (id := 0) (sh := (.inl (1, [3, 0, 0]) :: .inr (715 + 3, 8) :: shState)) (ad := fun i => a + i) X 0 1 1 fl_RX1_11 rfl rfl rfl rfl rfl dX1_init_25 ?_
  refine a_iload_n (pc := 28) X 0 dX1_init_28 rfl rfl ?_
  refine a_new (pc := 29) (kc := 16) (ks := 74) (cur := (.inl (1, [3, 0, 0]) :: .inr (715 + 3, 8) :: shState)) X ha (by decide +kernel) nw_RX1_9 dX1_init_29 ⟨Nat.le_of_ble_eq_true rfl, Nat.le_of_ble_eq_true rfl⟩ ?_
  have X := x_re X ((.inl (1, [3, 0, 0]) :: .inr (715 + 3, 8) :: shState) ++ [.inl (5, [0, 0, 0, 2, 2, 2, 2, 2, 2, 2])])
  show bW p l e _ s m args below meth c D tc (fun q => a ≤ q) 2 [(((.inl (1, [3, 0, 0]) :: .inr (715 + 3, 8) :: shState) ++ [.inl (5, [0, 0, 0, 2, 2, 2, 2, 2, 2, 2])]), fun i => a + i)] 17 84 _ 32 [(1, .int 1), (0, .ref (a + 0))] [.ref (a + 17), .int 1, .ref (a + 1)] [z_X1_init_3]
  refine a_dup (pc := 32) X dX1_init_32 rfl ?_
  refine a_cinit (pc := 33) (kc := 17) (ks := 84) (cur := (.inl (1, [3, 0, 0]) :: .inr (715 + 3, 8) :: shState)) (k0 := .inl (5, [0, 0, 0, 2, 2, 2, 2, 2, 2, 2])) (v := z_X1_init_3) X ha (by decide +kernel) hNn [] [.ref (a + 17), .int 1, .ref (a + 1)] cn_X5_init ci_RX1_17 (by unfold z_X1_init_3; exact x_zc_z _ _) rfl rfl (Nat.le_of_ble_eq_true rfl) ⟨Nat.le_of_ble_eq_true rfl, Nat.le_of_ble_eq_true rfl⟩ ⟨Nat.le_of_ble_eq_true rfl, Nat.le_of_ble_eq_true rfl⟩ dX1_init_33 ?_
  have X := x_re X (.inl (1, [3, 0, 0]) :: .inr (715 + 3, 8) :: (shState ++ shState))
  show bW p l e _ s m args below meth c D tc (fun q => a ≤ q) 2 [((.inl (1, [3, 0, 0]) :: .inr (715 + 3, 8) :: (shState ++ shState)), fun i => a + i)] 31 140 _ 36 [(1, .int 1), (0, .ref (a + 0))] [.ref (a + 17), .int 1, .ref (a + 1)] [z_X1_init_4]
  refine a_aastH (pc := 36) (x0 := .inl (1, [3, 0, 0])) (tl := (shState ++ shState)) (K := 715) (K2 := 615) (n := 8) (j := 1) (kds := [0, 0, 0, 3, 5, 7, 9, 11, 13, 15]) X (by decide) (fun h => by rcases h with h | h <;> revert h <;> decide) rfl rfl rfl rfl rfl dX1_init_36 ?_
  have X := x_re X (.inl (1, [3, 0, 0]) :: .inr (615 + 3, 8) :: (shState ++ shState))
  show bW p l e _ s m args below meth c D tc (fun q => a ≤ q) 2 [((.inl (1, [3, 0, 0]) :: .inr (615 + 3, 8) :: (shState ++ shState)), fun i => a + i)] 31 140 _ 37 [(1, .int 1), (0, .ref (a + 0))] [] [z_X1_init_4]
  refine a_iinc (pc := 37) (v := 2) X 0 [(1, .int 2), (0, .ref (a + 0))] dX1_init_37 rfl (by decide) (by decide) rfl ?_
  refine a_goto (pc := 40) X 15 dX1_init_40 rfl ?_
  show bW p l e _ s m args below meth c D tc (fun q => a ≤ q) 2 [((.inl (1, [3, 0, 0]) :: .inr (615 + 3, 8) :: (shState ++ shState)), fun i => a + i)] 31 140 _ 15 [(1, .int 2), (0, .ref (a + 0))] [] [z_X1_init_4]
  refine a_iload_n (pc := 15) X 0 dX1_init_15 rfl rfl ?_
  refine a_aload_n (pc := 16) X 1 dX1_init_16 rfl rfl ?_
  refine a_getR (pc := 17) (id := 0) (sh := (.inl (1, [3, 0, 0]) :: .inr (615 + 3, 8) :: (shState ++ shState))) (ad := fun i => a + i) X 0 1 1 fl_RX1_11 rfl rfl rfl rfl rfl dX1_init_17 ?_
  refine a_alenR (pc := 20) (id := 1) (n := 8) (o := 615) (x := 8) (sh := (.inl (1, [3, 0, 0]) :: .inr (615 + 3, 8) :: (shState ++ shState))) (ad := fun i => a + i) X 0 rfl rfl rfl rfl dX1_init_20 ?_
  refine a_icmp_ge (pc := 21) X 43 dX1_init_21 rfl (fun q => absurd q (by decide)) (fun _ => ?_)
  refine a_aload_n (pc := 24) X 1 dX1_init_24 rfl rfl ?_
  refine a_getR (pc := 25) (id := 0) (sh := (.inl (1, [3, 0, 0]) :: .inr (615 + 3, 8) :: (shState ++ shState))) (ad := fun i => a + i) X 0 1 1 fl_RX1_11 rfl rfl rfl rfl rfl dX1_init_25 ?_
  refine a_iload_n (pc := 28) X 0 dX1_init_28 rfl rfl ?_
  refine a_new (pc := 29) (kc := 31) (ks := 140) (cur := (.inl (1, [3, 0, 0]) :: .inr (615 + 3, 8) :: (shState ++ shState))) X ha (by decide +kernel) nw_RX1_9 dX1_init_29 ⟨Nat.le_of_ble_eq_true rfl, Nat.le_of_ble_eq_true rfl⟩ ?_
  have X := x_re X ((.inl (1, [3, 0, 0]) :: .inr (615 + 3, 8) :: (shState ++ shState)) ++ [.inl (5, [0, 0, 0, 2, 2, 2, 2, 2, 2, 2])])
  show bW p l e _ s m args below meth c D tc (fun q => a ≤ q) 2 [(((.inl (1, [3, 0, 0]) :: .inr (615 + 3, 8) :: (shState ++ shState)) ++ [.inl (5, [0, 0, 0, 2, 2, 2, 2, 2, 2, 2])]), fun i => a + i)] 32 150 _ 32 [(1, .int 2), (0, .ref (a + 0))] [.ref (a + 32), .int 2, .ref (a + 1)] [z_X1_init_5]
  refine a_dup (pc := 32) X dX1_init_32 rfl ?_
  refine a_cinit (pc := 33) (kc := 32) (ks := 150) (cur := (.inl (1, [3, 0, 0]) :: .inr (615 + 3, 8) :: (shState ++ shState))) (k0 := .inl (5, [0, 0, 0, 2, 2, 2, 2, 2, 2, 2])) (v := z_X1_init_5) X ha (by decide +kernel) hNn [] [.ref (a + 32), .int 2, .ref (a + 1)] cn_X5_init ci_RX1_17 (by unfold z_X1_init_5; exact x_zc_z _ _) rfl rfl (Nat.le_of_ble_eq_true rfl) ⟨Nat.le_of_ble_eq_true rfl, Nat.le_of_ble_eq_true rfl⟩ ⟨Nat.le_of_ble_eq_true rfl, Nat.le_of_ble_eq_true rfl⟩ dX1_init_33 ?_
  have X := x_re X (.inl (1, [3, 0, 0]) :: .inr (615 + 3, 8) :: ((shState ++ shState) ++ shState))
  show bW p l e _ s m args below meth c D tc (fun q => a ≤ q) 2 [((.inl (1, [3, 0, 0]) :: .inr (615 + 3, 8) :: ((shState ++ shState) ++ shState)), fun i => a + i)] 46 206 _ 36 [(1, .int 2), (0, .ref (a + 0))] [.ref (a + 32), .int 2, .ref (a + 1)] [z_X1_init_6]
  refine a_aastH (pc := 36) (x0 := .inl (1, [3, 0, 0])) (tl := ((shState ++ shState) ++ shState)) (K := 615) (K2 := 515) (n := 8) (j := 2) (kds := [0, 0, 0, 3, 5, 7, 9, 11, 13, 15]) X (by decide) (fun h => by rcases h with h | h <;> revert h <;> decide) rfl rfl rfl rfl rfl dX1_init_36 ?_
  have X := x_re X (.inl (1, [3, 0, 0]) :: .inr (515 + 3, 8) :: ((shState ++ shState) ++ shState))
  show bW p l e _ s m args below meth c D tc (fun q => a ≤ q) 2 [((.inl (1, [3, 0, 0]) :: .inr (515 + 3, 8) :: ((shState ++ shState) ++ shState)), fun i => a + i)] 46 206 _ 37 [(1, .int 2), (0, .ref (a + 0))] [] [z_X1_init_6]
  refine a_iinc (pc := 37) (v := 3) X 0 [(1, .int 3), (0, .ref (a + 0))] dX1_init_37 rfl (by decide) (by decide) rfl ?_
  refine a_goto (pc := 40) X 15 dX1_init_40 rfl ?_
  show bW p l e _ s m args below meth c D tc (fun q => a ≤ q) 2 [((.inl (1, [3, 0, 0]) :: .inr (515 + 3, 8) :: ((shState ++ shState) ++ shState)), fun i => a + i)] 46 206 _ 15 [(1, .int 3), (0, .ref (a + 0))] [] [z_X1_init_6]
  refine a_iload_n (pc := 15) X 0 dX1_init_15 rfl rfl ?_
  refine a_aload_n (pc := 16) X 1 dX1_init_16 rfl rfl ?_
  refine a_getR (pc := 17) (id := 0) (sh := (.inl (1, [3, 0, 0]) :: .inr (515 + 3, 8) :: ((shState ++ shState) ++ shState))) (ad := fun i => a + i) X 0 1 1 fl_RX1_11 rfl rfl rfl rfl rfl dX1_init_17 ?_
  refine a_alenR (pc := 20) (id := 1) (n := 8) (o := 515) (x := 8) (sh := (.inl (1, [3, 0, 0]) :: .inr (515 + 3, 8) :: ((shState ++ shState) ++ shState))) (ad := fun i => a + i) X 0 rfl rfl rfl rfl dX1_init_20 ?_
  refine a_icmp_ge (pc := 21) X 43 dX1_init_21 rfl (fun q => absurd q (by decide)) (fun _ => ?_)
  refine a_aload_n (pc := 24) X 1 dX1_init_24 rfl rfl ?_
  refine a_getR (pc := 25) (id := 0) (sh := (.inl (1, [3, 0, 0]) :: .inr (515 + 3, 8) :: ((shState ++ shState) ++ shState))) (ad := fun i => a + i) X 0 1 1 fl_RX1_11 rfl rfl rfl rfl rfl dX1_init_25 ?_
  refine a_iload_n (pc := 28) X 0 dX1_init_28 rfl rfl ?_
  refine a_new (pc := 29) (kc := 46) (ks := 206) (cur := (.inl (1, [3, 0, 0]) :: .inr (515 + 3, 8) :: ((shState ++ shState) ++ shState))) X ha (by decide +kernel) nw_RX1_9 dX1_init_29 ⟨Nat.le_of_ble_eq_true rfl, Nat.le_of_ble_eq_true rfl⟩ ?_
  have X := x_re X ((.inl (1, [3, 0, 0]) :: .inr (515 + 3, 8) :: ((shState ++ shState) ++ shState)) ++ [.inl (5, [0, 0, 0, 2, 2, 2, 2, 2, 2, 2])])
  show bW p l e _ s m args below meth c D tc (fun q => a ≤ q) 2 [(((.inl (1, [3, 0, 0]) :: .inr (515 + 3, 8) :: ((shState ++ shState) ++ shState)) ++ [.inl (5, [0, 0, 0, 2, 2, 2, 2, 2, 2, 2])]), fun i => a + i)] 47 216 _ 32 [(1, .int 3), (0, .ref (a + 0))] [.ref (a + 47), .int 3, .ref (a + 1)] [z_X1_init_7]
  refine a_dup (pc := 32) X dX1_init_32 rfl ?_
  refine a_cinit (pc := 33) (kc := 47) (ks := 216) (cur := (.inl (1, [3, 0, 0]) :: .inr (515 + 3, 8) :: ((shState ++ shState) ++ shState))) (k0 := .inl (5, [0, 0, 0, 2, 2, 2, 2, 2, 2, 2])) (v := z_X1_init_7) X ha (by decide +kernel) hNn [] [.ref (a + 47), .int 3, .ref (a + 1)] cn_X5_init ci_RX1_17 (by unfold z_X1_init_7; exact x_zc_z _ _) rfl rfl (Nat.le_of_ble_eq_true rfl) ⟨Nat.le_of_ble_eq_true rfl, Nat.le_of_ble_eq_true rfl⟩ ⟨Nat.le_of_ble_eq_true rfl, Nat.le_of_ble_eq_true rfl⟩ dX1_init_33 ?_
  have X := x_re X (.inl (1, [3, 0, 0]) :: .inr (515 + 3, 8) :: (((shState ++ shState) ++ shState) ++ shState))
  show bW p l e _ s m args below meth c D tc (fun q => a ≤ q) 2 [((.inl (1, [3, 0, 0]) :: .inr (515 + 3, 8) :: (((shState ++ shState) ++ shState) ++ shState)), fun i => a + i)] 61 272 _ 36 [(1, .int 3), (0, .ref (a + 0))] [.ref (a + 47), .int 3, .ref (a + 1)] [z_X1_init_8]
  refine a_aastH (pc := 36) (x0 := .inl (1, [3, 0, 0])) (tl := (((shState ++ shState) ++ shState) ++ shState)) (K := 515) (K2 := 415) (n := 8) (j := 3) (kds := [0, 0, 0, 3, 5, 7, 9, 11, 13, 15]) X (by decide) (fun h => by rcases h with h | h <;> revert h <;> decide) rfl rfl rfl rfl rfl dX1_init_36 ?_
  have X := x_re X (.inl (1, [3, 0, 0]) :: .inr (415 + 3, 8) :: (((shState ++ shState) ++ shState) ++ shState))
  show bW p l e _ s m args below meth c D tc (fun q => a ≤ q) 2 [((.inl (1, [3, 0, 0]) :: .inr (415 + 3, 8) :: (((shState ++ shState) ++ shState) ++ shState)), fun i => a + i)] 61 272 _ 37 [(1, .int 3), (0, .ref (a + 0))] [] [z_X1_init_8]
  refine a_iinc (pc := 37) (v := 4) X 0 [(1, .int 4), (0, .ref (a + 0))] dX1_init_37 rfl (by decide) (by decide) rfl ?_
  refine a_goto (pc := 40) X 15 dX1_init_40 rfl ?_
  show bW p l e _ s m args below meth c D tc (fun q => a ≤ q) 2 [((.inl (1, [3, 0, 0]) :: .inr (415 + 3, 8) :: (((shState ++ shState) ++ shState) ++ shState)), fun i => a + i)] 61 272 _ 15 [(1, .int 4), (0, .ref (a + 0))] [] [z_X1_init_8]
  refine a_iload_n (pc := 15) X 0 dX1_init_15 rfl rfl ?_
  refine a_aload_n (pc := 16) X 1 dX1_init_16 rfl rfl ?_
  refine a_getR (pc := 17) (id := 0) (sh := (.inl (1, [3, 0, 0]) :: .inr (415 + 3, 8) :: (((shState ++ shState) ++ shState) ++ shState))) (ad := fun i => a + i) X 0 1 1 fl_RX1_11 rfl rfl rfl rfl rfl dX1_init_17 ?_
  refine a_alenR (pc := 20) (id := 1) (n := 8) (o := 415) (x := 8) (sh := (.inl (1, [3, 0, 0]) :: .inr (415 + 3, 8) :: (((shState ++ shState) ++ shState) ++ shState))) (ad := fun i => a + i) X 0 rfl rfl rfl rfl dX1_init_20 ?_
  refine a_icmp_ge (pc := 21) X 43 dX1_init_21 rfl (fun q => absurd q (by decide)) (fun _ => ?_)
  refine a_aload_n (pc := 24) X 1 dX1_init_24 rfl rfl ?_
  refine a_getR (pc := 25) (id := 0) (sh := (.inl (1, [3, 0, 0]) :: .inr (415 + 3, 8) :: (((shState ++ shState) ++ shState) ++ shState))) (ad := fun i => a + i) X 0 1 1 fl_RX1_11 rfl rfl rfl rfl rfl dX1_init_25 ?_
  refine a_iload_n (pc := 28) X 0 dX1_init_28 rfl rfl ?_
  refine a_new (pc := 29) (kc := 61) (ks := 272) (cur := (.inl (1, [3, 0, 0]) :: .inr (415 + 3, 8) :: (((shState ++ shState) ++ shState) ++ shState))) X ha (by decide +kernel) nw_RX1_9 dX1_init_29 ⟨Nat.le_of_ble_eq_true rfl, Nat.le_of_ble_eq_true rfl⟩ ?_
  have X := x_re X ((.inl (1, [3, 0, 0]) :: .inr (415 + 3, 8) :: (((shState ++ shState) ++ shState) ++ shState)) ++ [.inl (5, [0, 0, 0, 2, 2, 2, 2, 2, 2, 2])])
  show bW p l e _ s m args below meth c D tc (fun q => a ≤ q) 2 [(((.inl (1, [3, 0, 0]) :: .inr (415 + 3, 8) :: (((shState ++ shState) ++ shState) ++ shState)) ++ [.inl (5, [0, 0, 0, 2, 2, 2, 2, 2, 2, 2])]), fun i => a + i)] 62 282 _ 32 [(1, .int 4), (0, .ref (a + 0))] [.ref (a + 62), .int 4, .ref (a + 1)] [z_X1_init_9]
  refine a_dup (pc := 32) X dX1_init_32 rfl ?_
  refine a_cinit (pc := 33) (kc := 62) (ks := 282) (cur := (.inl (1, [3, 0, 0]) :: .inr (415 + 3, 8) :: (((shState ++ shState) ++ shState) ++ shState))) (k0 := .inl (5, [0, 0, 0, 2, 2, 2, 2, 2, 2, 2])) (v := z_X1_init_9) X ha (by decide +kernel) hNn [] [.ref (a + 62), .int 4, .ref (a + 1)] cn_X5_init ci_RX1_17 (by unfold z_X1_init_9; exact x_zc_z _ _) rfl rfl (Nat.le_of_ble_eq_true rfl) ⟨Nat.le_of_ble_eq_true rfl, Nat.le_of_ble_eq_true rfl⟩ ⟨Nat.le_of_ble_eq_true rfl, Nat.le_of_ble_eq_true rfl⟩ dX1_init_33 ?_
  have X := x_re X (.inl (1, [3, 0, 0]) :: .inr (415 + 3, 8) :: ((((shState ++ shState) ++ shState) ++ shState) ++ shState))
  show bW p l e _ s m args below meth c D tc (fun q => a ≤ q) 2 [((.inl (1, [3, 0, 0]) :: .inr (415 + 3, 8) :: ((((shState ++ shState) ++ shState) ++ shState) ++ shState)), fun i => a + i)] 76 338 _ 36 [(1, .int 4), (0, .ref (a + 0))] [.ref (a + 62), .int 4, .ref (a + 1)] [z_X1_init_10]
  refine a_aastH (pc := 36) (x0 := .inl (1, [3, 0, 0])) (tl := ((((shState ++ shState) ++ shState) ++ shState) ++ shState)) (K := 415) (K2 := 315) (n := 8) (j := 4) (kds := [0, 0, 0, 3, 5, 7, 9, 11, 13, 15]) X (by decide) (fun h => by rcases h with h | h <;> revert h <;> decide) rfl rfl rfl rfl rfl dX1_init_36 ?_
  have X := x_re X (.inl (1, [3, 0, 0]) :: .inr (315 + 3, 8) :: ((((shState ++ shState) ++ shState) ++ shState) ++ shState))
  show bW p l e _ s m args below meth c D tc (fun q => a ≤ q) 2 [((.inl (1, [3, 0, 0]) :: .inr (315 + 3, 8) :: ((((shState ++ shState) ++ shState) ++ shState) ++ shState)), fun i => a + i)] 76 338 _ 37 [(1, .int 4), (0, .ref (a + 0))] [] [z_X1_init_10]
  refine a_iinc (pc := 37) (v := 5) X 0 [(1, .int 5), (0, .ref (a + 0))] dX1_init_37 rfl (by decide) (by decide) rfl ?_
  refine a_goto (pc := 40) X 15 dX1_init_40 rfl ?_
  show bW p l e _ s m args below meth c D tc (fun q => a ≤ q) 2 [((.inl (1, [3, 0, 0]) :: .inr (315 + 3, 8) :: ((((shState ++ shState) ++ shState) ++ shState) ++ shState)), fun i => a + i)] 76 338 _ 15 [(1, .int 5), (0, .ref (a + 0))] [] [z_X1_init_10]
  refine a_iload_n (pc := 15) X 0 dX1_init_15 rfl rfl ?_
  refine a_aload_n (pc := 16) X 1 dX1_init_16 rfl rfl ?_
  refine a_getR (pc := 17) (id := 0) (sh := (.inl (1, [3, 0, 0]) :: .inr (315 + 3, 8) :: ((((shState ++ shState) ++ shState) ++ shState) ++ shState))) (ad := fun i => a + i) X 0 1 1 fl_RX1_11 rfl rfl rfl rfl rfl dX1_init_17 ?_
  refine a_alenR (pc := 20) (id := 1) (n := 8) (o := 315) (x := 8) (sh := (.inl (1, [3, 0, 0]) :: .inr (315 + 3, 8) :: ((((shState ++ shState) ++ shState) ++ shState) ++ shState))) (ad := fun i => a + i) X 0 rfl rfl rfl rfl dX1_init_20 ?_
  refine a_icmp_ge (pc := 21) X 43 dX1_init_21 rfl (fun q => absurd q (by decide)) (fun _ => ?_)
  refine a_aload_n (pc := 24) X 1 dX1_init_24 rfl rfl ?_
  refine a_getR (pc := 25) (id := 0) (sh := (.inl (1, [3, 0, 0]) :: .inr (315 + 3, 8) :: ((((shState ++ shState) ++ shState) ++ shState) ++ shState))) (ad := fun i => a + i) X 0 1 1 fl_RX1_11 rfl rfl rfl rfl rfl dX1_init_25 ?_
  refine a_iload_n (pc := 28) X 0 dX1_init_28 rfl rfl ?_
  refine a_new (pc := 29) (kc := 76) (ks := 338) (cur := (.inl (1, [3, 0, 0]) :: .inr (315 + 3, 8) :: ((((shState ++ shState) ++ shState) ++ shState) ++ shState))) X ha (by decide +kernel) nw_RX1_9 dX1_init_29 ⟨Nat.le_of_ble_eq_true rfl, Nat.le_of_ble_eq_true rfl⟩ ?_
  have X := x_re X ((.inl (1, [3, 0, 0]) :: .inr (315 + 3, 8) :: ((((shState ++ shState) ++ shState) ++ shState) ++ shState)) ++ [.inl (5, [0, 0, 0, 2, 2, 2, 2, 2, 2, 2])])
  show bW p l e _ s m args below meth c D tc (fun q => a ≤ q) 2 [(((.inl (1, [3, 0, 0]) :: .inr (315 + 3, 8) :: ((((shState ++ shState) ++ shState) ++ shState) ++ shState)) ++ [.inl (5, [0, 0, 0, 2, 2, 2, 2, 2, 2, 2])]), fun i => a + i)] 77 348 _ 32 [(1, .int 5), (0, .ref (a + 0))] [.ref (a + 77), .int 5, .ref (a + 1)] [z_X1_init_11]
  refine a_dup (pc := 32) X dX1_init_32 rfl ?_
  refine a_cinit (pc := 33) (kc := 77) (ks := 348) (cur := (.inl (1, [3, 0, 0]) :: .inr (315 + 3, 8) :: ((((shState ++ shState) ++ shState) ++ shState) ++ shState))) (k0 := .inl (5, [0, 0, 0, 2, 2, 2, 2, 2, 2, 2])) (v := z_X1_init_11) X ha (by decide +kernel) hNn [] [.ref (a + 77), .int 5, .ref (a + 1)] cn_X5_init ci_RX1_17 (by unfold z_X1_init_11; exact x_zc_z _ _) rfl rfl (Nat.le_of_ble_eq_true rfl) ⟨Nat.le_of_ble_eq_true rfl, Nat.le_of_ble_eq_true rfl⟩ ⟨Nat.le_of_ble_eq_true rfl, Nat.le_of_ble_eq_true rfl⟩ dX1_init_33 ?_
  have X := x_re X (.inl (1, [3, 0, 0]) :: .inr (315 + 3, 8) :: (((((shState ++ shState) ++ shState) ++ shState) ++ shState) ++ shState))
  show bW p l e _ s m args below meth c D tc (fun q => a ≤ q) 2 [((.inl (1, [3, 0, 0]) :: .inr (315 + 3, 8) :: (((((shState ++ shState) ++ shState) ++ shState) ++ shState) ++ shState)), fun i => a + i)] 91 404 _ 36 [(1, .int 5), (0, .ref (a + 0))] [.ref (a + 77), .int 5, .ref (a + 1)] [z_X1_init_12]
  refine a_aastH (pc := 36) (x0 := .inl (1, [3, 0, 0])) (tl := (((((shState ++ shState) ++ shState) ++ shState) ++ shState) ++ shState)) (K := 315) (K2 := 215) (n := 8) (j := 5) (kds := [0, 0, 0, 3, 5, 7, 9, 11, 13, 15]) X (by decide) (fun h => by rcases h with h | h <;> revert h <;> decide) rfl rfl rfl rfl rfl dX1_init_36 ?_
  have X := x_re X (.inl (1, [3, 0, 0]) :: .inr (215 + 3, 8) :: (((((shState ++ shState) ++ shState) ++ shState) ++ shState) ++ shState))
  show bW p l e _ s m args below meth c D tc (fun q => a ≤ q) 2 [((.inl (1, [3, 0, 0]) :: .inr (215 + 3, 8) :: (((((shState ++ shState) ++ shState) ++ shState) ++ shState) ++ shState)), fun i => a + i)] 91 404 _ 37 [(1, .int 5), (0, .ref (a + 0))] [] [z_X1_init_12]
  refine a_iinc (pc := 37) (v := 6) X 0 [(1, .int 6), (0, .ref (a + 0))] dX1_init_37 rfl (by decide) (by decide) rfl ?_
  refine a_goto (pc := 40) X 15 dX1_init_40 rfl ?_
  show bW p l e _ s m args below meth c D tc (fun q => a ≤ q) 2 [((.inl (1, [3, 0, 0]) :: .inr (215 + 3, 8) :: (((((shState ++ shState) ++ shState) ++ shState) ++ shState) ++ shState)), fun i => a + i)] 91 404 _ 15 [(1, .int 6), (0, .ref (a + 0))] [] [z_X1_init_12]
  refine a_iload_n (pc := 15) X 0 dX1_init_15 rfl rfl ?_
  refine a_aload_n (pc := 16) X 1 dX1_init_16 rfl rfl ?_
  refine a_getR (pc := 17) (id := 0) (sh := (.inl (1, [3, 0, 0]) :: .inr (215 + 3, 8) :: (((((shState ++ shState) ++ shState) ++ shState) ++ shState) ++ shState))) (ad := fun i => a + i) X 0 1 1 fl_RX1_11 rfl rfl rfl rfl rfl dX1_init_17 ?_
  refine a_alenR (pc := 20) (id := 1) (n := 8) (o := 215) (x := 8) (sh := (.inl (1, [3, 0, 0]) :: .inr (215 + 3, 8) :: (((((shState ++ shState) ++ shState) ++ shState) ++ shState) ++ shState))) (ad := fun i => a + i) X 0 rfl rfl rfl rfl dX1_init_20 ?_
  refine a_icmp_ge (pc := 21) X 43 dX1_init_21 rfl (fun q => absurd q (by decide)) (fun _ => ?_)
  refine a_aload_n (pc := 24) X 1 dX1_init_24 rfl rfl ?_
  refine a_getR (pc := 25) (id := 0) (sh := (.inl (1, [3, 0, 0]) :: .inr (215 + 3, 8) :: (((((shState ++ shState) ++ shState) ++ shState) ++ shState) ++ shState))) (ad := fun i => a + i) X 0 1 1 fl_RX1_11 rfl rfl rfl rfl rfl dX1_init_25 ?_
  refine a_iload_n (pc := 28) X 0 dX1_init_28 rfl rfl ?_
  refine a_new (pc := 29) (kc := 91) (ks := 404) (cur := (.inl (1, [3, 0, 0]) :: .inr (215 + 3, 8) :: (((((shState ++ shState) ++ shState) ++ shState) ++ shState) ++ shState))) X ha (by decide +kernel) nw_RX1_9 dX1_init_29 ⟨Nat.le_of_ble_eq_true rfl, Nat.le_of_ble_eq_true rfl⟩ ?_
  have X := x_re X ((.inl (1, [3, 0, 0]) :: .inr (215 + 3, 8) :: (((((shState ++ shState) ++ shState) ++ shState) ++ shState) ++ shState)) ++ [.inl (5, [0, 0, 0, 2, 2, 2, 2, 2, 2, 2])])
  show bW p l e _ s m args below meth c D tc (fun q => a ≤ q) 2 [(((.inl (1, [3, 0, 0]) :: .inr (215 + 3, 8) :: (((((shState ++ shState) ++ shState) ++ shState) ++ shState) ++ shState)) ++ [.inl (5, [0, 0, 0, 2, 2, 2, 2, 2, 2, 2])]), fun i => a + i)] 92 414 _ 32 [(1, .int 6), (0, .ref (a + 0))] [.ref (a + 92), .int 6, .ref (a + 1)] [z_X1_init_13]
  refine a_dup (pc := 32) X dX1_init_32 rfl ?_
  refine a_cinit (pc := 33) (kc := 92) (ks := 414) (cur := (.inl (1, [3, 0, 0]) :: .inr (215 + 3, 8) :: (((((shState ++ shState) ++ shState) ++ shState) ++ shState) ++ shState))) (k0 := .inl (5, [0, 0, 0, 2, 2, 2, 2, 2, 2, 2])) (v := z_X1_init_13) X ha (by decide +kernel) hNn [] [.ref (a + 92), .int 6, .ref (a + 1)] cn_X5_init ci_RX1_17 (by unfold z_X1_init_13; exact x_zc_z _ _) rfl rfl (Nat.le_of_ble_eq_true rfl) ⟨Nat.le_of_ble_eq_true rfl, Nat.le_of_ble_eq_true rfl⟩ ⟨Nat.le_of_ble_eq_true rfl, Nat.le_of_ble_eq_true rfl⟩ dX1_init_33 ?_
  have X := x_re X (.inl (1, [3, 0, 0]) :: .inr (215 + 3, 8) :: ((((((shState ++ shState) ++ shState) ++ shState) ++ shState) ++ shState) ++ shState))
  show bW p l e _ s m args below meth c D tc (fun q => a ≤ q) 2 [((.inl (1, [3, 0, 0]) :: .inr (215 + 3, 8) :: ((((((shState ++ shState) ++ shState) ++ shState) ++ shState) ++ shState) ++ shState)), fun i => a + i)] 106 470 _ 36 [(1, .int 6), (0, .ref (a + 0))] [.ref (a + 92), .int 6, .ref (a + 1)] [z_X1_init_14]
  refine a_aastH (pc := 36) (x0 := .inl (1, [3, 0, 0])) (tl := ((((((shState ++ shState) ++ shState) ++ shState) ++ shState) ++ shState) ++ shState)) (K := 215) (K2 := 115) (n := 8) (j := 6) (kds := [0, 0, 0, 3, 5, 7, 9, 11, 13, 15]) X (by decide) (fun h => by rcases h with h | h <;> revert h <;> decide) rfl rfl rfl rfl rfl dX1_init_36 ?_
  have X := x_re X (.inl (1, [3, 0, 0]) :: .inr (115 + 3, 8) :: ((((((shState ++ shState) ++ shState) ++ shState) ++ shState) ++ shState) ++ shState))
  show bW p l e _ s m args below meth c D tc (fun q => a ≤ q) 2 [((.inl (1, [3, 0, 0]) :: .inr (115 + 3, 8) :: ((((((shState ++ shState) ++ shState) ++ shState) ++ shState) ++ shState) ++ shState)), fun i => a + i)] 106 470 _ 37 [(1, .int 6), (0, .ref (a + 0))] [] [z_X1_init_14]
  refine a_iinc (pc := 37) (v := 7) X 0 [(1, .int 7), (0, .ref (a + 0))] dX1_init_37 rfl (by decide) (by decide) rfl ?_
  refine a_goto (pc := 40) X 15 dX1_init_40 rfl ?_
  show bW p l e _ s m args below meth c D tc (fun q => a ≤ q) 2 [((.inl (1, [3, 0, 0]) :: .inr (115 + 3, 8) :: ((((((shState ++ shState) ++ shState) ++ shState) ++ shState) ++ shState) ++ shState)), fun i => a + i)] 106 470 _ 15 [(1, .int 7), (0, .ref (a + 0))] [] [z_X1_init_14]
  refine a_iload_n (pc := 15) X 0 dX1_init_15 rfl rfl ?_
  refine a_aload_n (pc := 16) X 1 dX1_init_16 rfl rfl ?_
  refine a_getR (pc := 17) (id := 0) (sh := (.inl (1, [3, 0, 0]) :: .inr (115 + 3, 8) :: ((((((shState ++ shState) ++ shState) ++ shState) ++ shState) ++ shState) ++ shState))) (ad := fun i => a + i) X 0 1 1 fl_RX1_11 rfl rfl rfl rfl rfl dX1_init_17 ?_
  refine a_alenR (pc := 20) (id := 1) (n := 8) (o := 115) (x := 8) (sh := (.inl (1, [3, 0, 0]) :: .inr (115 + 3, 8) :: ((((((shState ++ shState) ++ shState) ++ shState) ++ shState) ++ shState) ++ shState))) (ad := fun i => a + i) X 0 rfl rfl rfl rfl dX1_init_20 ?_
  refine a_icmp_ge (pc := 21) X 43 dX1_init_21 rfl (fun q => absurd q (by decide)) (fun _ => ?_)
  refine a_aload_n (pc := 24) X 1 dX1_init_24 rfl rfl ?_
  refine a_getR (pc := 25) (id := 0) (sh := (.inl (1, [3, 0, 0]) :: .inr (115 + 3, 8) :: ((((((shState ++ shState) ++ shState) ++ shState) ++ shState) ++ shState) ++ shState))) (ad := fun i => a + i) X 0 1 1 fl_RX1_11 rfl rfl rfl rfl rfl dX1_init_25 ?_
  refine a_iload_n (pc := 28) X 0 dX1_init_28 rfl rfl ?_
  refine a_new (pc := 29) (kc := 106) (ks := 470) (cur := (.inl (1, [3, 0, 0]) :: .inr (115 + 3, 8) :: ((((((shState ++ shState) ++ shState) ++ shState) ++ shState) ++ shState) ++ shState))) X ha (by decide +kernel) nw_RX1_9 dX1_init_29 ⟨Nat.le_of_ble_eq_true rfl, Nat.le_of_ble_eq_true rfl⟩ ?_
  have X := x_re X ((.inl (1, [3, 0, 0]) :: .inr (115 + 3, 8) :: ((((((shState ++ shState) ++ shState) ++ shState) ++ shState) ++ shState) ++ shState)) ++ [.inl (5, [0, 0, 0, 2, 2, 2, 2, 2, 2, 2])])
  show bW p l e _ s m args below meth c D tc (fun q => a ≤ q) 2 [(((.inl (1, [3, 0, 0]) :: .inr (115 + 3, 8) :: ((((((shState ++ shState) ++ shState) ++ shState) ++ shState) ++ shState) ++ shState)) ++ [.inl (5, [0, 0, 0, 2, 2, 2, 2, 2, 2, 2])]), fun i => a + i)] 107 480 _ 32 [(1, .int 7), (0, .ref (a + 0))] [.ref (a + 107), .int 7, .ref (a + 1)] [z_X1_init_15]
  refine a_dup (pc := 32) X dX1_init_32 rfl ?_
  refine a_cinit (pc := 33) (kc := 107) (ks := 480) (cur := (.inl (1, [3, 0, 0]) :: .inr (115 + 3, 8) :: ((((((shState ++ shState) ++ shState) ++ shState) ++ shState) ++ shState) ++ shState))) (k0 := .inl (5, [0, 0, 0, 2, 2, 2, 2, 2, 2, 2])) (v := z_X1_init_15) X ha (by decide +kernel) hNn [] [.ref (a + 107), .int 7, .ref (a + 1)] cn_X5_init ci_RX1_17 (by unfold z_X1_init_15; exact x_zc_z _ _) rfl rfl (Nat.le_of_ble_eq_true rfl) ⟨Nat.le_of_ble_eq_true rfl, Nat.le_of_ble_eq_true rfl⟩ ⟨Nat.le_of_ble_eq_true rfl, Nat.le_of_ble_eq_true rfl⟩ dX1_init_33 ?_
  have X := x_re X (.inl (1, [3, 0, 0]) :: .inr (115 + 3, 8) :: (((((((shState ++ shState) ++ shState) ++ shState) ++ shState) ++ shState) ++ shState) ++ shState))
  show bW p l e _ s m args below meth c D tc (fun q => a ≤ q) 2 [((.inl (1, [3, 0, 0]) :: .inr (115 + 3, 8) :: (((((((shState ++ shState) ++ shState) ++ shState) ++ shState) ++ shState) ++ shState) ++ shState)), fun i => a + i)] 121 536 _ 36 [(1, .int 7), (0, .ref (a + 0))] [.ref (a + 107), .int 7, .ref (a + 1)] [z_X1_init_16]
  refine a_aastH (pc := 36) (x0 := .inl (1, [3, 0, 0])) (tl := (((((((shState ++ shState) ++ shState) ++ shState) ++ shState) ++ shState) ++ shState) ++ shState)) (K := 115) (K2 := 15) (n := 8) (j := 7) (kds := [0, 0, 0, 3, 5, 7, 9, 11, 13, 15]) X (by decide) (fun h => by rcases h with h | h <;> revert h <;> decide) rfl rfl rfl rfl rfl dX1_init_36 ?_
  have X := x_re X (.inl (1, [3, 0, 0]) :: .inr (15 + 3, 8) :: (((((((shState ++ shState) ++ shState) ++ shState) ++ shState) ++ shState) ++ shState) ++ shState))
  show bW p l e _ s m args below meth c D tc (fun q => a ≤ q) 2 [((.inl (1, [3, 0, 0]) :: .inr (15 + 3, 8) :: (((((((shState ++ shState) ++ shState) ++ shState) ++ shState) ++ shState) ++ shState) ++ shState)), fun i => a + i)] 121 536 _ 37 [(1, .int 7), (0, .ref (a + 0))] [] [z_X1_init_16]
  refine a_iinc (pc := 37) (v := 8) X 0 [(1, .int 8), (0, .ref (a + 0))] dX1_init_37 rfl (by decide) (by decide) rfl ?_
  refine a_goto (pc := 40) X 15 dX1_init_40 rfl ?_
  show bW p l e _ s m args below meth c D tc (fun q => a ≤ q) 2 [((.inl (1, [3, 0, 0]) :: .inr (15 + 3, 8) :: (((((((shState ++ shState) ++ shState) ++ shState) ++ shState) ++ shState) ++ shState) ++ shState)), fun i => a + i)] 121 536 _ 15 [(1, .int 8), (0, .ref (a + 0))] [] [z_X1_init_16]
  refine a_iload_n (pc := 15) X 0 dX1_init_15 rfl rfl ?_
  refine a_aload_n (pc := 16) X 1 dX1_init_16 rfl rfl ?_
  refine a_getR (pc := 17) (id := 0) (sh := (.inl (1, [3, 0, 0]) :: .inr (15 + 3, 8) :: (((((((shState ++ shState) ++ shState) ++ shState) ++ shState) ++ shState) ++ shState) ++ shState))) (ad := fun i => a + i) X 0 1 1 fl_RX1_11 rfl rfl rfl rfl rfl dX1_init_17 ?_
  refine a_alenR (pc := 20) (id := 1) (n := 8) (o := 15) (x := 8) (sh := (.inl (1, [3, 0, 0]) :: .inr (15 + 3, 8) :: (((((((shState ++ shState) ++ shState) ++ shState) ++ shState) ++ shState) ++ shState) ++ shState))) (ad := fun i => a + i) X 0 rfl rfl rfl rfl dX1_init_20 ?_
  refine a_icmp_ge (pc := 21) X 43 dX1_init_21 rfl (fun _ => ?_) (fun q => absurd (by decide) q)
  have X := x_re X shHistory
  exact a_vret (pc := 43) X trivial dX1_init_43
