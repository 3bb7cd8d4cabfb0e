-- Constructors: contracts, written by wip/whole/ctors.py.
theorem x_zc_z (v : XM) (L : Nat) : (x_zc v L).1 L = (fun _ => 0) ∧ (x_zc v L).2 L = (fun _ => 0) := ⟨by funext j; simp [x_zc], by funext j; simp [x_zc]⟩
def z_Row : XM := x_zc x_z 1
def xA (k n : Nat) : List XK := [.inr (k, n)]
theorem ka_int : Cond.arrayClass .int ∈ x_TB := (x_tb (x_t1 (List.mem_of_getElem? (i := 48) rfl)) rfl)
theorem ka_long : Cond.arrayClass .long ∈ x_TB := (x_tb (x_t1 (List.mem_of_getElem? (i := 149) rfl)) rfl)
theorem ka_bool : Cond.arrayClass .boolean ∈ x_TB := (x_tb (x_t7 (List.mem_of_getElem? (i := 114) rfl)) rfl)
theorem dX3_init_0 : decode cX3_init 0 = .ok (.aload_n 0, 1) := by decide +kernel
theorem dX3_init_1 : decode cX3_init 1 = .ok (.invokespecial 1, 3) := by decide +kernel
theorem dX3_init_4 : decode cX3_init 4 = .ok (.aload_n 0, 1) := by decide +kernel
theorem dX3_init_5 : decode cX3_init 5 = .ok (.iload_n 1, 1) := by decide +kernel
theorem dX3_init_6 : decode cX3_init 6 = .ok (.ifCond .ge 7, 3) := by decide +kernel
theorem dX3_init_9 : decode cX3_init 9 = .ok (.iconst 0, 1) := by decide +kernel
theorem dX3_init_10 : decode cX3_init 10 = .ok (.goto 4, 3) := by decide +kernel
theorem dX3_init_13 : decode cX3_init 13 = .ok (.iload_n 1, 1) := by decide +kernel
theorem dX3_init_14 : decode cX3_init 14 = .ok (.newarray .int, 2) := by decide +kernel
theorem dX3_init_16 : decode cX3_init 16 = .ok (.putfield 7, 3) := by decide +kernel
theorem dX3_init_19 : decode cX3_init 19 = .ok (.return_, 1) := by decide +kernel
theorem ko_RX3 : Cond.methodLink RX3 1 Lib.objectInit ∈ x_TB ∧ Cond.instanceMethod Lib.objectInit ∈ x_TB ∧ Cond.code Lib.objectInit ⟨#[0xb1]⟩ 1 none ∈ x_TB := ⟨(x_tb (x_t1 (List.mem_of_getElem? (i := 43) rfl)) rfl), (x_tb (x_t1 (List.mem_of_getElem? (i := 30) rfl)) rfl), (x_tb (x_t1 (List.mem_of_getElem? (i := 31) rfl)) rfl)⟩
set_option maxRecDepth 100000 in
set_option maxHeartbeats 4000000 in
theorem cn_X3_init {l : Launch} {N : Nat} (hN : N ≤ 65536) : CN l yX3_init cX3_init 2 1 1 N (.inl (3, [2])) (shRow N) z_Row [.int (Int32.ofNat N)] := by
  refine CN_of (by decide) rfl (fun _ => Nat.le_of_ble_eq_true rfl) ?_
  intro p e s m args below meth c D tc aK aV a X ha hNn hin
  have X : Cx p s m args meth c cX3_init 2 none RX3 D tc aK aV (fun q => a ≤ q) [([.inl (3, [2])], fun i => a + i)] := X
  show bW p l e (x_RmN 1 1 N) s m args below meth c D tc (fun q => a ≤ q) 2 [([.inl (3, [2])], fun i => a + i)] 0 0 (MQ below (x_Q none True D tc [(shRow N, fun i => a + i)] [z_Row] (fun q => a ≤ q)) args s 1 N (fun q => a ≤ q)) 0 [(0, .ref (a + 0)), (1, .int (Int32.ofNat N))] [] [x_z]
  have hge : (0 : Int32) ≤ Int32.ofNat N := nI_pos' (n := N) (by omega)
  refine a_aload_n (pc := 0) X 0 dX3_init_0 rfl rfl ?_
  refine a_obj (pc := 1) X ko_RX3 dX3_init_1 (Nat.le_of_ble_eq_true rfl) (Nat.le_of_ble_eq_true rfl) ?_
  refine a_aload_n (pc := 4) X 0 dX3_init_4 rfl rfl ?_
  refine a_iload_n (pc := 5) X 1 dX3_init_5 rfl rfl ?_
  refine a_if_ge (pc := 6) X 13 dX3_init_6 rfl (fun _ => ?_) (fun q => absurd hge q)
  refine a_iload_n (pc := 13) X 1 dX3_init_13 rfl rfl ?_
  refine a_newarrI (pc := 14) (kc := 0) (ks := 0) (N := N) X ha rfl (nI_pos (n := N) (by omega)) (nI_clamp (n := N) (by omega)) ka_int dX3_init_14 hN ⟨Nat.le_refl _, Nat.le_of_eq (Nat.zero_add _)⟩ ?_
  have X := x_re X [.inl (3, [2]), .inr (0, N)]
  refine a_putR (pc := 16) (kc := 0 + 1) (ks := 0 + N) (tl := [.inr (0, N)]) (ci := 3) (kds := [2]) (o := 1) X hin fl_RX3_7 (fun _ _ _ h => by cases h; exact ⟨rfl, rfl⟩) rfl (by decide) rfl rfl dX3_init_16 ?_
  have X := x_re X (shRow N)
  rw [Nat.zero_add N]
  exact a_vret (pc := 19) X trivial dX3_init_19
theorem ko_RX5 : Cond.methodLink RX5 3 Lib.objectInit ∈ x_TB ∧ Cond.instanceMethod Lib.objectInit ∈ x_TB ∧ Cond.code Lib.objectInit ⟨#[0xb1]⟩ 1 none ∈ x_TB := ⟨(x_tb (x_t2 (List.mem_of_getElem? (i := 18) rfl)) rfl), (x_tb (x_t1 (List.mem_of_getElem? (i := 30) rfl)) rfl), (x_tb (x_t1 (List.mem_of_getElem? (i := 31) rfl)) rfl)⟩
theorem nw_RX5_15 : x_nw RX5 15 3 1 [2] := ⟨RX3, TX3, tyX3, rfl, (x_tb (x_t2 (List.mem_of_getElem? (i := 19) rfl)) rfl), (x_tb (x_t1 (List.mem_of_getElem? (i := 39) rfl)) rfl), (x_tb (x_t1 (List.mem_of_getElem? (i := 3) rfl)) rfl), wsIn3, tyX3_ok, fun j hj => by
  match j, hj with
  | 0, _ => exact Or.inr (Or.inr ⟨rfl, rfl⟩)
  | j + 1, h => exact absurd h (by omega)⟩
theorem ci_RX5_17 : x_ci RX5 17 yX3_init cX3_init 2 1 := ⟨Or.inl (x_tb (x_t2 (List.mem_of_getElem? (i := 20) rfl)) rfl), (x_tb (x_t1 (List.mem_of_getElem? (i := 41) rfl)) rfl), (x_tb (x_t1 (List.mem_of_getElem? (i := 3) rfl)) rfl), (x_tb (x_t1 (List.mem_of_getElem? (i := 42) rfl)) rfl), by decide, by decide, by decide +kernel, rfl⟩
theorem dX5_init_0 : decode cX5_init 0 = .ok (.aload_n 0, 1) := by decide +kernel
theorem dX5_init_1 : decode cX5_init 1 = .ok (.invokespecial 3, 3) := by decide +kernel
theorem dX5_init_4 : decode cX5_init 4 = .ok (.aload_n 0, 1) := by decide +kernel
theorem dX5_init_5 : decode cX5_init 5 = .ok (.iconst (-1), 1) := by decide +kernel
theorem dX5_init_6 : decode cX5_init 6 = .ok (.putfield 9, 3) := by decide +kernel
theorem dX5_init_9 : decode cX5_init 9 = .ok (.aload_n 0, 1) := by decide +kernel
theorem dX5_init_10 : decode cX5_init 10 = .ok (.new 15, 3) := by decide +kernel
theorem dX5_init_13 : decode cX5_init 13 = .ok (.dup, 1) := by decide +kernel
theorem dX5_init_14 : decode cX5_init 14 = .ok (.iconst 5, 1) := by decide +kernel
theorem dX5_init_15 : decode cX5_init 15 = .ok (.invokespecial 17, 3) := by decide +kernel
theorem dX5_init_18 : decode cX5_init 18 = .ok (.putfield 20, 3) := by decide +kernel
theorem dX5_init_21 : decode cX5_init 21 = .ok (.aload_n 0, 1) := by decide +kernel
theorem dX5_init_22 : decode cX5_init 22 = .ok (.new 15, 3) := by decide +kernel
theorem dX5_init_25 : decode cX5_init 25 = .ok (.dup, 1) := by decide +kernel
theorem dX5_init_26 : decode cX5_init 26 = .ok (.iconst 5, 1) := by decide +kernel
theorem dX5_init_27 : decode cX5_init 27 = .ok (.invokespecial 17, 3) := by decide +kernel
theorem dX5_init_30 : decode cX5_init 30 = .ok (.putfield 24, 3) := by decide +kernel
theorem dX5_init_33 : decode cX5_init 33 = .ok (.aload_n 0, 1) := by decide +kernel
theorem dX5_init_34 : decode cX5_init 34 = .ok (.new 15, 3) := by decide +kernel
theorem dX5_init_37 : decode cX5_init 37 = .ok (.dup, 1) := by decide +kernel
theorem dX5_init_38 : decode cX5_init 38 = .ok (.iconst 5, 1) := by decide +kernel
theorem dX5_init_39 : decode cX5_init 39 = .ok (.invokespecial 17, 3) := by decide +kernel
theorem dX5_init_42 : decode cX5_init 42 = .ok (.putfield 27, 3) := by decide +kernel
theorem dX5_init_45 : decode cX5_init 45 = .ok (.aload_n 0, 1) := by decide +kernel
theorem dX5_init_46 : decode cX5_init 46 = .ok (.new 15, 3) := by decide +kernel
theorem dX5_init_49 : decode cX5_init 49 = .ok (.dup, 1) := by decide +kernel
theorem dX5_init_50 : decode cX5_init 50 = .ok (.iconst 5, 1) := by decide +kernel
theorem dX5_init_51 : decode cX5_init 51 = .ok (.invokespecial 17, 3) := by decide +kernel
theorem dX5_init_54 : decode cX5_init 54 = .ok (.putfield 30, 3) := by decide +kernel
theorem dX5_init_57 : decode cX5_init 57 = .ok (.aload_n 0, 1) := by decide +kernel
theorem dX5_init_58 : decode cX5_init 58 = .ok (.new 15, 3) := by decide +kernel
theorem dX5_init_61 : decode cX5_init 61 = .ok (.dup, 1) := by decide +kernel
theorem dX5_init_62 : decode cX5_init 62 = .ok (.iconst 5, 1) := by decide +kernel
theorem dX5_init_63 : decode cX5_init 63 = .ok (.invokespecial 17, 3) := by decide +kernel
theorem dX5_init_66 : decode cX5_init 66 = .ok (.putfield 33, 3) := by decide +kernel
theorem dX5_init_69 : decode cX5_init 69 = .ok (.aload_n 0, 1) := by decide +kernel
theorem dX5_init_70 : decode cX5_init 70 = .ok (.new 15, 3) := by decide +kernel
theorem dX5_init_73 : decode cX5_init 73 = .ok (.dup, 1) := by decide +kernel
theorem dX5_init_74 : decode cX5_init 74 = .ok (.bipush 12, 2) := by decide +kernel
theorem dX5_init_76 : decode cX5_init 76 = .ok (.invokespecial 17, 3) := by decide +kernel
theorem dX5_init_79 : decode cX5_init 79 = .ok (.putfield 36, 3) := by decide +kernel
theorem dX5_init_82 : decode cX5_init 82 = .ok (.aload_n 0, 1) := by decide +kernel
theorem dX5_init_83 : decode cX5_init 83 = .ok (.new 15, 3) := by decide +kernel
theorem dX5_init_86 : decode cX5_init 86 = .ok (.dup, 1) := by decide +kernel
theorem dX5_init_87 : decode cX5_init 87 = .ok (.bipush 12, 2) := by decide +kernel
theorem dX5_init_89 : decode cX5_init 89 = .ok (.invokespecial 17, 3) := by decide +kernel
theorem dX5_init_92 : decode cX5_init 92 = .ok (.putfield 39, 3) := by decide +kernel
theorem dX5_init_95 : decode cX5_init 95 = .ok (.return_, 1) := by decide +kernel
def z_X5_init_0 : XM := x_si x_z 0 1 (-1)
def z_X5_init_1 : XM := x_zc z_X5_init_0 1
def z_X5_init_2 : XM := x_app 1 z_X5_init_1 z_Row
def z_X5_init_3 : XM := x_zc z_X5_init_2 3
def z_X5_init_4 : XM := x_app 3 z_X5_init_3 z_Row
def z_X5_init_5 : XM := x_zc z_X5_init_4 5
def z_X5_init_6 : XM := x_app 5 z_X5_init_5 z_Row
def z_X5_init_7 : XM := x_zc z_X5_init_6 7
def z_X5_init_8 : XM := x_app 7 z_X5_init_7 z_Row
def z_X5_init_9 : XM := x_zc z_X5_init_8 9
def z_X5_init_10 : XM := x_app 9 z_X5_init_9 z_Row
def z_X5_init_11 : XM := x_zc z_X5_init_10 11
def z_X5_init_12 : XM := x_app 11 z_X5_init_11 z_Row
def z_X5_init_13 : XM := x_zc z_X5_init_12 13
def z_X5_init_14 : XM := x_app 13 z_X5_init_13 z_Row
abbrev z_X5_init : XM := z_X5_init_14
set_option maxRecDepth 100000 in
set_option maxHeartbeats 4000000 in
theorem cn_X5_init {l : Launch} : CN l yX5_init cX5_init 1 2 14 56 (.inl (5, [0, 0, 0, 2, 2, 2, 2, 2, 2, 2])) shState z_X5_init [] := by
  refine CN_of (by decide) rfl (fun _ => Nat.le_of_ble_eq_true rfl) ?_
  intro p e s m args below meth c D tc aK aV a X ha hNn hin
  have X : Cx p s m args meth c cX5_init 1 none RX5 D tc aK aV (fun q => a ≤ q) [([.inl (5, [0, 0, 0, 2, 2, 2, 2, 2, 2, 2])], fun i => a + i)] := X
  show bW p l e (x_RmN 2 14 56) s m args below meth c D tc (fun q => a ≤ q) 1 [([.inl (5, [0, 0, 0, 2, 2, 2, 2, 2, 2, 2])], fun i => a + i)] 0 0 (MQ below (x_Q none True D tc [(shState, fun i => a + i)] [z_X5_init] (fun q => a ≤ q)) args s 14 56 (fun q => a ≤ q)) 0 [(0, .ref (a + 0))] [] [x_z]
  refine a_aload_n (pc := 0) X 0 dX5_init_0 rfl rfl ?_
  refine a_obj (pc := 1) X ko_RX5 dX5_init_1 (Nat.le_of_ble_eq_true rfl) (Nat.le_of_ble_eq_true rfl) ?_
  refine a_aload_n (pc := 4) X 0 dX5_init_4 rfl rfl ?_
  refine a_iconst (pc := 5) X dX5_init_5 q_ic_m1 ?_
  refine a_putI (pc := 6) (id := 0) (sh := (.inl (5, [0, 0, 0, 2, 2, 2, 2, 2, 2, 2]) :: [])) (ad := fun i => a + i) X 0 fl_RX5_9 rfl rfl rfl rfl dX5_init_6 ?_
  show bW p l e _ s m args below meth c D tc (fun q => a ≤ q) 1 [((.inl (5, [0, 0, 0, 2, 2, 2, 2, 2, 2, 2]) :: []), fun i => a + i)] 0 0 _ 9 [(0, .ref (a + 0))] [] [z_X5_init_0]
  refine a_aload_n (pc := 9) X 0 dX5_init_9 rfl rfl ?_
  refine a_new (pc := 10) (kc := 0) (ks := 0) (cur := (.inl (5, [0, 0, 0, 2, 2, 2, 2, 2, 2, 2]) :: [])) X ha (by decide +kernel) nw_RX5_15 dX5_init_10 ⟨Nat.le_of_ble_eq_true rfl, Nat.le_of_ble_eq_true rfl⟩ ?_
  have X := x_re X (.inl (5, [0, 0, 0, 2, 2, 2, 2, 2, 2, 2]) :: [.inl (3, [2])])
  show bW p l e _ s m args below meth c D tc (fun q => a ≤ q) 1 [((.inl (5, [0, 0, 0, 2, 2, 2, 2, 2, 2, 2]) :: [.inl (3, [2])]), fun i => a + i)] 1 1 _ 13 [(0, .ref (a + 0))] [.ref (a + 1), .ref (a + 0)] [z_X5_init_1]
  refine a_dup (pc := 13) X dX5_init_13 rfl ?_
  refine a_iconst (pc := 14) X dX5_init_14 q_ic_5 ?_
  refine a_cinit (pc := 15) (kc := 1) (ks := 1) (cur := (.inl (5, [0, 0, 0, 2, 2, 2, 2, 2, 2, 2]) :: [])) (k0 := .inl (3, [2])) (v := z_X5_init_1) X ha (by decide +kernel) hNn [.int 5] [.ref (a + 1), .ref (a + 0)] (cn_X3_init (N := 5) (by decide)) ci_RX5_17 (by unfold z_X5_init_1; exact x_zc_z _ _) rfl rfl (Nat.le_of_ble_eq_true rfl) ⟨Nat.le_of_ble_eq_true rfl, Nat.le_of_ble_eq_true rfl⟩ ⟨Nat.le_of_ble_eq_true rfl, Nat.le_of_ble_eq_true rfl⟩ dX5_init_15 ?_
  have X := x_re X (.inl (5, [0, 0, 0, 2, 2, 2, 2, 2, 2, 2]) :: shRow 5)
  show bW p l e _ s m args below meth c D tc (fun q => a ≤ q) 1 [((.inl (5, [0, 0, 0, 2, 2, 2, 2, 2, 2, 2]) :: shRow 5), fun i => a + i)] 2 6 _ 18 [(0, .ref (a + 0))] [.ref (a + 1), .ref (a + 0)] [z_X5_init_2]
  refine a_putR (pc := 18) (kc := 2) (ks := 6) (tl := shRow 5) (ci := 5) (kds := [0, 0, 0, 2, 2, 2, 2, 2, 2, 2]) (o := 1) X hin fl_RX5_20 (fun _ _ _ h => by cases h; exact ⟨rfl, rfl⟩) rfl (by decide) rfl rfl dX5_init_18 ?_
  have X := x_re X (.inl (5, [0, 0, 0, 3, 2, 2, 2, 2, 2, 2]) :: shRow 5)
  show bW p l e _ s m args below meth c D tc (fun q => a ≤ q) 1 [((.inl (5, [0, 0, 0, 3, 2, 2, 2, 2, 2, 2]) :: shRow 5), fun i => a + i)] 2 6 _ 21 [(0, .ref (a + 0))] [] [z_X5_init_2]
  refine a_aload_n (pc := 21) X 0 dX5_init_21 rfl rfl ?_
  refine a_new (pc := 22) (kc := 2) (ks := 6) (cur := (.inl (5, [0, 0, 0, 3, 2, 2, 2, 2, 2, 2]) :: shRow 5)) X ha (by decide +kernel) nw_RX5_15 dX5_init_22 ⟨Nat.le_of_ble_eq_true rfl, Nat.le_of_ble_eq_true rfl⟩ ?_
  have X := x_re X (.inl (5, [0, 0, 0, 3, 2, 2, 2, 2, 2, 2]) :: (shRow 5 ++ [.inl (3, [2])]))
  show bW p l e _ s m args below meth c D tc (fun q => a ≤ q) 1 [((.inl (5, [0, 0, 0, 3, 2, 2, 2, 2, 2, 2]) :: (shRow 5 ++ [.inl (3, [2])])), fun i => a + i)] 3 7 _ 25 [(0, .ref (a + 0))] [.ref (a + 3), .ref (a + 0)] [z_X5_init_3]
  refine a_dup (pc := 25) X dX5_init_25 rfl ?_
  refine a_iconst (pc := 26) X dX5_init_26 q_ic_5 ?_
  refine a_cinit (pc := 27) (kc := 3) (ks := 7) (cur := (.inl (5, [0, 0, 0, 3, 2, 2, 2, 2, 2, 2]) :: shRow 5)) (k0 := .inl (3, [2])) (v := z_X5_init_3) X ha (by decide +kernel) hNn [.int 5] [.ref (a + 3), .ref (a + 0)] (cn_X3_init (N := 5) (by decide)) ci_RX5_17 (by unfold z_X5_init_3; exact x_zc_z _ _) rfl rfl (Nat.le_of_ble_eq_true rfl) ⟨Nat.le_of_ble_eq_true rfl, Nat.le_of_ble_eq_true rfl⟩ ⟨Nat.le_of_ble_eq_true rfl, Nat.le_of_ble_eq_true rfl⟩ dX5_init_27 ?_
  have X := x_re X (.inl (5, [0, 0, 0, 3, 2, 2, 2, 2, 2, 2]) :: (shRow 5 ++ shRow 5))
  show bW p l e _ s m args below meth c D tc (fun q => a ≤ q) 1 [((.inl (5, [0, 0, 0, 3, 2, 2, 2, 2, 2, 2]) :: (shRow 5 ++ shRow 5)), fun i => a + i)] 4 12 _ 30 [(0, .ref (a + 0))] [.ref (a + 3), .ref (a + 0)] [z_X5_init_4]
  refine a_putR (pc := 30) (kc := 4) (ks := 12) (tl := (shRow 5 ++ shRow 5)) (ci := 5) (kds := [0, 0, 0, 3, 2, 2, 2, 2, 2, 2]) (o := 3) X hin fl_RX5_24 (fun _ _ _ h => by cases h; exact ⟨rfl, rfl⟩) rfl (by decide) rfl rfl dX5_init_30 ?_
  have X := x_re X (.inl (5, [0, 0, 0, 3, 5, 2, 2, 2, 2, 2]) :: (shRow 5 ++ shRow 5))
  show bW p l e _ s m args below meth c D tc (fun q => a ≤ q) 1 [((.inl (5, [0, 0, 0, 3, 5, 2, 2, 2, 2, 2]) :: (shRow 5 ++ shRow 5)), fun i => a + i)] 4 12 _ 33 [(0, .ref (a + 0))] [] [z_X5_init_4]
  refine a_aload_n (pc := 33) X 0 dX5_init_33 rfl rfl ?_
  refine a_new (pc := 34) (kc := 4) (ks := 12) (cur := (.inl (5, [0, 0, 0, 3, 5, 2, 2, 2, 2, 2]) :: (shRow 5 ++ shRow 5))) X ha (by decide +kernel) nw_RX5_15 dX5_init_34 ⟨Nat.le_of_ble_eq_true rfl, Nat.le_of_ble_eq_true rfl⟩ ?_
  have X := x_re X (.inl (5, [0, 0, 0, 3, 5, 2, 2, 2, 2, 2]) :: ((shRow 5 ++ shRow 5) ++ [.inl (3, [2])]))
  show bW p l e _ s m args below meth c D tc (fun q => a ≤ q) 1 [((.inl (5, [0, 0, 0, 3, 5, 2, 2, 2, 2, 2]) :: ((shRow 5 ++ shRow 5) ++ [.inl (3, [2])])), fun i => a + i)] 5 13 _ 37 [(0, .ref (a + 0))] [.ref (a + 5), .ref (a + 0)] [z_X5_init_5]
  refine a_dup (pc := 37) X dX5_init_37 rfl ?_
  refine a_iconst (pc := 38) X dX5_init_38 q_ic_5 ?_
  refine a_cinit (pc := 39) (kc := 5) (ks := 13) (cur := (.inl (5, [0, 0, 0, 3, 5, 2, 2, 2, 2, 2]) :: (shRow 5 ++ shRow 5))) (k0 := .inl (3, [2])) (v := z_X5_init_5) X ha (by decide +kernel) hNn [.int 5] [.ref (a + 5), .ref (a + 0)] (cn_X3_init (N := 5) (by decide)) ci_RX5_17 (by unfold z_X5_init_5; exact x_zc_z _ _) rfl rfl (Nat.le_of_ble_eq_true rfl) ⟨Nat.le_of_ble_eq_true rfl, Nat.le_of_ble_eq_true rfl⟩ ⟨Nat.le_of_ble_eq_true rfl, Nat.le_of_ble_eq_true rfl⟩ dX5_init_39 ?_
  have X := x_re X (.inl (5, [0, 0, 0, 3, 5, 2, 2, 2, 2, 2]) :: ((shRow 5 ++ shRow 5) ++ shRow 5))
  show bW p l e _ s m args below meth c D tc (fun q => a ≤ q) 1 [((.inl (5, [0, 0, 0, 3, 5, 2, 2, 2, 2, 2]) :: ((shRow 5 ++ shRow 5) ++ shRow 5)), fun i => a + i)] 6 18 _ 42 [(0, .ref (a + 0))] [.ref (a + 5), .ref (a + 0)] [z_X5_init_6]
  refine a_putR (pc := 42) (kc := 6) (ks := 18) (tl := ((shRow 5 ++ shRow 5) ++ shRow 5)) (ci := 5) (kds := [0, 0, 0, 3, 5, 2, 2, 2, 2, 2]) (o := 5) X hin fl_RX5_27 (fun _ _ _ h => by cases h; exact ⟨rfl, rfl⟩) rfl (by decide) rfl rfl dX5_init_42 ?_
  have X := x_re X (.inl (5, [0, 0, 0, 3, 5, 7, 2, 2, 2, 2]) :: ((shRow 5 ++ shRow 5) ++ shRow 5))
  show bW p l e _ s m args below meth c D tc (fun q => a ≤ q) 1 [((.inl (5, [0, 0, 0, 3, 5, 7, 2, 2, 2, 2]) :: ((shRow 5 ++ shRow 5) ++ shRow 5)), fun i => a + i)] 6 18 _ 45 [(0, .ref (a + 0))] [] [z_X5_init_6]
  refine a_aload_n (pc := 45) X 0 dX5_init_45 rfl rfl ?_
  refine a_new (pc := 46) (kc := 6) (ks := 18) (cur := (.inl (5, [0, 0, 0, 3, 5, 7, 2, 2, 2, 2]) :: ((shRow 5 ++ shRow 5) ++ shRow 5))) X ha (by decide +kernel) nw_RX5_15 dX5_init_46 ⟨Nat.le_of_ble_eq_true rfl, Nat.le_of_ble_eq_true rfl⟩ ?_
  have X := x_re X (.inl (5, [0, 0, 0, 3, 5, 7, 2, 2, 2, 2]) :: (((shRow 5 ++ shRow 5) ++ shRow 5) ++ [.inl (3, [2])]))
  show bW p l e _ s m args below meth c D tc (fun q => a ≤ q) 1 [((.inl (5, [0, 0, 0, 3, 5, 7, 2, 2, 2, 2]) :: (((shRow 5 ++ shRow 5) ++ shRow 5) ++ [.inl (3, [2])])), fun i => a + i)] 7 19 _ 49 [(0, .ref (a + 0))] [.ref (a + 7), .ref (a + 0)] [z_X5_init_7]
  refine a_dup (pc := 49) X dX5_init_49 rfl ?_
  refine a_iconst (pc := 50) X dX5_init_50 q_ic_5 ?_
  refine a_cinit (pc := 51) (kc := 7) (ks := 19) (cur := (.inl (5, [0, 0, 0, 3, 5, 7, 2, 2, 2, 2]) :: ((shRow 5 ++ shRow 5) ++ shRow 5))) (k0 := .inl (3, [2])) (v := z_X5_init_7) X ha (by decide +kernel) hNn [.int 5] [.ref (a + 7), .ref (a + 0)] (cn_X3_init (N := 5) (by decide)) ci_RX5_17 (by unfold z_X5_init_7; exact x_zc_z _ _) rfl rfl (Nat.le_of_ble_eq_true rfl) ⟨Nat.le_of_ble_eq_true rfl, Nat.le_of_ble_eq_true rfl⟩ ⟨Nat.le_of_ble_eq_true rfl, Nat.le_of_ble_eq_true rfl⟩ dX5_init_51 ?_
  have X := x_re X (.inl (5, [0, 0, 0, 3, 5, 7, 2, 2, 2, 2]) :: (((shRow 5 ++ shRow 5) ++ shRow 5) ++ shRow 5))
  show bW p l e _ s m args below meth c D tc (fun q => a ≤ q) 1 [((.inl (5, [0, 0, 0, 3, 5, 7, 2, 2, 2, 2]) :: (((shRow 5 ++ shRow 5) ++ shRow 5) ++ shRow 5)), fun i => a + i)] 8 24 _ 54 [(0, .ref (a + 0))] [.ref (a + 7), .ref (a + 0)] [z_X5_init_8]
  refine a_putR (pc := 54) (kc := 8) (ks := 24) (tl := (((shRow 5 ++ shRow 5) ++ shRow 5) ++ shRow 5)) (ci := 5) (kds := [0, 0, 0, 3, 5, 7, 2, 2, 2, 2]) (o := 7) X hin fl_RX5_30 (fun _ _ _ h => by cases h; exact ⟨rfl, rfl⟩) rfl (by decide) rfl rfl dX5_init_54 ?_
  have X := x_re X (.inl (5, [0, 0, 0, 3, 5, 7, 9, 2, 2, 2]) :: (((shRow 5 ++ shRow 5) ++ shRow 5) ++ shRow 5))
  show bW p l e _ s m args below meth c D tc (fun q => a ≤ q) 1 [((.inl (5, [0, 0, 0, 3, 5, 7, 9, 2, 2, 2]) :: (((shRow 5 ++ shRow 5) ++ shRow 5) ++ shRow 5)), fun i => a + i)] 8 24 _ 57 [(0, .ref (a + 0))] [] [z_X5_init_8]
  refine a_aload_n (pc := 57) X 0 dX5_init_57 rfl rfl ?_
  refine a_new (pc := 58) (kc := 8) (ks := 24) (cur := (.inl (5, [0, 0, 0, 3, 5, 7, 9, 2, 2, 2]) :: (((shRow 5 ++ shRow 5) ++ shRow 5) ++ shRow 5))) X ha (by decide +kernel) nw_RX5_15 dX5_init_58 ⟨Nat.le_of_ble_eq_true rfl, Nat.le_of_ble_eq_true rfl⟩ ?_
  have X := x_re X (.inl (5, [0, 0, 0, 3, 5, 7, 9, 2, 2, 2]) :: ((((shRow 5 ++ shRow 5) ++ shRow 5) ++ shRow 5) ++ [.inl (3, [2])]))
  show bW p l e _ s m args below meth c D tc (fun q => a ≤ q) 1 [((.inl (5, [0, 0, 0, 3, 5, 7, 9, 2, 2, 2]) :: ((((shRow 5 ++ shRow 5) ++ shRow 5) ++ shRow 5) ++ [.inl (3, [2])])), fun i => a + i)] 9 25 _ 61 [(0, .ref (a + 0))] [.ref (a + 9), .ref (a + 0)] [z_X5_init_9]
  refine a_dup (pc := 61) X dX5_init_61 rfl ?_
  refine a_iconst (pc := 62) X dX5_init_62 q_ic_5 ?_
  refine a_cinit (pc := 63) (kc := 9) (ks := 25) (cur := (.inl (5, [0, 0, 0, 3, 5, 7, 9, 2, 2, 2]) :: (((shRow 5 ++ shRow 5) ++ shRow 5) ++ shRow 5))) (k0 := .inl (3, [2])) (v := z_X5_init_9) X ha (by decide +kernel) hNn [.int 5] [.ref (a + 9), .ref (a + 0)] (cn_X3_init (N := 5) (by decide)) ci_RX5_17 (by unfold z_X5_init_9; exact x_zc_z _ _) rfl rfl (Nat.le_of_ble_eq_true rfl) ⟨Nat.le_of_ble_eq_true rfl, Nat.le_of_ble_eq_true rfl⟩ ⟨Nat.le_of_ble_eq_true rfl, Nat.le_of_ble_eq_true rfl⟩ dX5_init_63 ?_
  have X := x_re X (.inl (5, [0, 0, 0, 3, 5, 7, 9, 2, 2, 2]) :: ((((shRow 5 ++ shRow 5) ++ shRow 5) ++ shRow 5) ++ shRow 5))
  show bW p l e _ s m args below meth c D tc (fun q => a ≤ q) 1 [((.inl (5, [0, 0, 0, 3, 5, 7, 9, 2, 2, 2]) :: ((((shRow 5 ++ shRow 5) ++ shRow 5) ++ shRow 5) ++ shRow 5)), fun i => a + i)] 10 30 _ 66 [(0, .ref (a + 0))] [.ref (a + 9), .ref (a + 0)] [z_X5_init_10]
  refine a_putR (pc := 66) (kc := 10) (ks := 30) (tl := ((((shRow 5 ++ shRow 5) ++ shRow 5) ++ shRow 5) ++ shRow 5)) (ci := 5) (kds := [0, 0, 0, 3, 5, 7, 9, 2, 2, 2]) (o := 9) X hin fl_RX5_33 (fun _ _ _ h => by cases h; exact ⟨rfl, rfl⟩) rfl (by decide) rfl rfl dX5_init_66 ?_
  have X := x_re X (.inl (5, [0, 0, 0, 3, 5, 7, 9, 11, 2, 2]) :: ((((shRow 5 ++ shRow 5) ++ shRow 5) ++ shRow 5) ++ shRow 5))
  show bW p l e _ s m args below meth c D tc (fun q => a ≤ q) 1 [((.inl (5, [0, 0, 0, 3, 5, 7, 9, 11, 2, 2]) :: ((((shRow 5 ++ shRow 5) ++ shRow 5) ++ shRow 5) ++ shRow 5)), fun i => a + i)] 10 30 _ 69 [(0, .ref (a + 0))] [] [z_X5_init_10]
  refine a_aload_n (pc := 69) X 0 dX5_init_69 rfl rfl ?_
  refine a_new (pc := 70) (kc := 10) (ks := 30) (cur := (.inl (5, [0, 0, 0, 3, 5, 7, 9, 11, 2, 2]) :: ((((shRow 5 ++ shRow 5) ++ shRow 5) ++ shRow 5) ++ shRow 5))) X ha (by decide +kernel) nw_RX5_15 dX5_init_70 ⟨Nat.le_of_ble_eq_true rfl, Nat.le_of_ble_eq_true rfl⟩ ?_
  have X := x_re X (.inl (5, [0, 0, 0, 3, 5, 7, 9, 11, 2, 2]) :: (((((shRow 5 ++ shRow 5) ++ shRow 5) ++ shRow 5) ++ shRow 5) ++ [.inl (3, [2])]))
  show bW p l e _ s m args below meth c D tc (fun q => a ≤ q) 1 [((.inl (5, [0, 0, 0, 3, 5, 7, 9, 11, 2, 2]) :: (((((shRow 5 ++ shRow 5) ++ shRow 5) ++ shRow 5) ++ shRow 5) ++ [.inl (3, [2])])), fun i => a + i)] 11 31 _ 73 [(0, .ref (a + 0))] [.ref (a + 11), .ref (a + 0)] [z_X5_init_11]
  refine a_dup (pc := 73) X dX5_init_73 rfl ?_
  refine a_bipush (pc := 74) X dX5_init_74 q_bp_12 ?_
  refine a_cinit (pc := 76) (kc := 11) (ks := 31) (cur := (.inl (5, [0, 0, 0, 3, 5, 7, 9, 11, 2, 2]) :: ((((shRow 5 ++ shRow 5) ++ shRow 5) ++ shRow 5) ++ shRow 5))) (k0 := .inl (3, [2])) (v := z_X5_init_11) X ha (by decide +kernel) hNn [.int 12] [.ref (a + 11), .ref (a + 0)] (cn_X3_init (N := 12) (by decide)) ci_RX5_17 (by unfold z_X5_init_11; exact x_zc_z _ _) rfl rfl (Nat.le_of_ble_eq_true rfl) ⟨Nat.le_of_ble_eq_true rfl, Nat.le_of_ble_eq_true rfl⟩ ⟨Nat.le_of_ble_eq_true rfl, Nat.le_of_ble_eq_true rfl⟩ dX5_init_76 ?_
  have X := x_re X (.inl (5, [0, 0, 0, 3, 5, 7, 9, 11, 2, 2]) :: (((((shRow 5 ++ shRow 5) ++ shRow 5) ++ shRow 5) ++ shRow 5) ++ shRow 12))
  show bW p l e _ s m args below meth c D tc (fun q => a ≤ q) 1 [((.inl (5, [0, 0, 0, 3, 5, 7, 9, 11, 2, 2]) :: (((((shRow 5 ++ shRow 5) ++ shRow 5) ++ shRow 5) ++ shRow 5) ++ shRow 12)), fun i => a + i)] 12 43 _ 79 [(0, .ref (a + 0))] [.ref (a + 11), .ref (a + 0)] [z_X5_init_12]
  refine a_putR (pc := 79) (kc := 12) (ks := 43) (tl := (((((shRow 5 ++ shRow 5) ++ shRow 5) ++ shRow 5) ++ shRow 5) ++ shRow 12)) (ci := 5) (kds := [0, 0, 0, 3, 5, 7, 9, 11, 2, 2]) (o := 11) X hin fl_RX5_36 (fun _ _ _ h => by cases h; exact ⟨rfl, rfl⟩) rfl (by decide) rfl rfl dX5_init_79 ?_
  have X := x_re X (.inl (5, [0, 0, 0, 3, 5, 7, 9, 11, 13, 2]) :: (((((shRow 5 ++ shRow 5) ++ shRow 5) ++ shRow 5) ++ shRow 5) ++ shRow 12))
  show bW p l e _ s m args below meth c D tc (fun q => a ≤ q) 1 [((.inl (5, [0, 0, 0, 3, 5, 7, 9, 11, 13, 2]) :: (((((shRow 5 ++ shRow 5) ++ shRow 5) ++ shRow 5) ++ shRow 5) ++ shRow 12)), fun i => a + i)] 12 43 _ 82 [(0, .ref (a + 0))] [] [z_X5_init_12]
  refine a_aload_n (pc := 82) X 0 dX5_init_82 rfl rfl ?_
  refine a_new (pc := 83) (kc := 12) (ks := 43) (cur := (.inl (5, [0, 0, 0, 3, 5, 7, 9, 11, 13, 2]) :: (((((shRow 5 ++ shRow 5) ++ shRow 5) ++ shRow 5) ++ shRow 5) ++ shRow 12))) X ha (by decide +kernel) nw_RX5_15 dX5_init_83 ⟨Nat.le_of_ble_eq_true rfl, Nat.le_of_ble_eq_true rfl⟩ ?_
  have X := x_re X (.inl (5, [0, 0, 0, 3, 5, 7, 9, 11, 13, 2]) :: ((((((shRow 5 ++ shRow 5) ++ shRow 5) ++ shRow 5) ++ shRow 5) ++ shRow 12) ++ [.inl (3, [2])]))
  show bW p l e _ s m args below meth c D tc (fun q => a ≤ q) 1 [((.inl (5, [0, 0, 0, 3, 5, 7, 9, 11, 13, 2]) :: ((((((shRow 5 ++ shRow 5) ++ shRow 5) ++ shRow 5) ++ shRow 5) ++ shRow 12) ++ [.inl (3, [2])])), fun i => a + i)] 13 44 _ 86 [(0, .ref (a + 0))] [.ref (a + 13), .ref (a + 0)] [z_X5_init_13]
  refine a_dup (pc := 86) X dX5_init_86 rfl ?_
  refine a_bipush (pc := 87) X dX5_init_87 q_bp_12 ?_
  refine a_cinit (pc := 89) (kc := 13) (ks := 44) (cur := (.inl (5, [0, 0, 0, 3, 5, 7, 9, 11, 13, 2]) :: (((((shRow 5 ++ shRow 5) ++ shRow 5) ++ shRow 5) ++ shRow 5) ++ shRow 12))) (k0 := .inl (3, [2])) (v := z_X5_init_13) X ha (by decide +kernel) hNn [.int 12] [.ref (a + 13), .ref (a + 0)] (cn_X3_init (N := 12) (by decide)) ci_RX5_17 (by unfold z_X5_init_13; exact x_zc_z _ _) rfl rfl (Nat.le_of_ble_eq_true rfl) ⟨Nat.le_of_ble_eq_true rfl, Nat.le_of_ble_eq_true rfl⟩ ⟨Nat.le_of_ble_eq_true rfl, Nat.le_of_ble_eq_true rfl⟩ dX5_init_89 ?_
  have X := x_re X (.inl (5, [0, 0, 0, 3, 5, 7, 9, 11, 13, 2]) :: ((((((shRow 5 ++ shRow 5) ++ shRow 5) ++ shRow 5) ++ shRow 5) ++ shRow 12) ++ shRow 12))
  show bW p l e _ s m args below meth c D tc (fun q => a ≤ q) 1 [((.inl (5, [0, 0, 0, 3, 5, 7, 9, 11, 13, 2]) :: ((((((shRow 5 ++ shRow 5) ++ shRow 5) ++ shRow 5) ++ shRow 5) ++ shRow 12) ++ shRow 12)), fun i => a + i)] 14 56 _ 92 [(0, .ref (a + 0))] [.ref (a + 13), .ref (a + 0)] [z_X5_init_14]
  refine a_putR (pc := 92) (kc := 14) (ks := 56) (tl := ((((((shRow 5 ++ shRow 5) ++ shRow 5) ++ shRow 5) ++ shRow 5) ++ shRow 12) ++ shRow 12)) (ci := 5) (kds := [0, 0, 0, 3, 5, 7, 9, 11, 13, 2]) (o := 13) X hin fl_RX5_39 (fun _ _ _ h => by cases h; exact ⟨rfl, rfl⟩) rfl (by decide) rfl rfl dX5_init_92 ?_
  have X := x_re X (.inl (5, [0, 0, 0, 3, 5, 7, 9, 11, 13, 15]) :: ((((((shRow 5 ++ shRow 5) ++ shRow 5) ++ shRow 5) ++ shRow 5) ++ shRow 12) ++ shRow 12))
  show bW p l e _ s m args below meth c D tc (fun q => a ≤ q) 1 [((.inl (5, [0, 0, 0, 3, 5, 7, 9, 11, 13, 15]) :: ((((((shRow 5 ++ shRow 5) ++ shRow 5) ++ shRow 5) ++ shRow 5) ++ shRow 12) ++ shRow 12)), fun i => a + i)] 14 56 _ 95 [(0, .ref (a + 0))] [] [z_X5_init_14]
  have X := x_re X shState
  exact a_vret (pc := 95) X trivial dX5_init_95
theorem ko_RX9 : Cond.methodLink RX9 3 Lib.objectInit ∈ x_TB ∧ Cond.instanceMethod Lib.objectInit ∈ x_TB ∧ Cond.code Lib.objectInit ⟨#[0xb1]⟩ 1 none ∈ x_TB := ⟨(x_tb (x_t1 (List.mem_of_getElem? (i := 162) rfl)) rfl), (x_tb (x_t1 (List.mem_of_getElem? (i := 30) rfl)) rfl), (x_tb (x_t1 (List.mem_of_getElem? (i := 31) rfl)) rfl)⟩
theorem nw_RX9_15 : x_nw RX9 15 3 1 [2] := ⟨RX3, TX3, tyX3, rfl, (x_tb (x_t1 (List.mem_of_getElem? (i := 163) rfl)) rfl), (x_tb (x_t1 (List.mem_of_getElem? (i := 39) rfl)) rfl), (x_tb (x_t1 (List.mem_of_getElem? (i := 3) rfl)) rfl), wsIn3, tyX3_ok, fun j hj => by
  match j, hj with
  | 0, _ => exact Or.inr (Or.inr ⟨rfl, rfl⟩)
  | j + 1, h => exact absurd h (by omega)⟩
theorem ci_RX9_17 : x_ci RX9 17 yX3_init cX3_init 2 1 := ⟨Or.inl (x_tb (x_t1 (List.mem_of_getElem? (i := 164) rfl)) rfl), (x_tb (x_t1 (List.mem_of_getElem? (i := 41) rfl)) rfl), (x_tb (x_t1 (List.mem_of_getElem? (i := 3) rfl)) rfl), (x_tb (x_t1 (List.mem_of_getElem? (i := 42) rfl)) rfl), by decide, by decide, by decide +kernel, rfl⟩
theorem dX9_init_0 : decode cX9_init 0 = .ok (.aload_n 0, 1) := by decide +kernel
theorem dX9_init_1 : decode cX9_init 1 = .ok (.invokespecial 3, 3) := by decide +kernel
theorem dX9_init_4 : decode cX9_init 4 = .ok (.aload_n 0, 1) := by decide +kernel
theorem dX9_init_5 : decode cX9_init 5 = .ok (.bipush 12, 2) := by decide +kernel
theorem dX9_init_7 : decode cX9_init 7 = .ok (.putfield 9, 3) := by decide +kernel
theorem dX9_init_10 : decode cX9_init 10 = .ok (.aload_n 0, 1) := by decide +kernel
theorem dX9_init_11 : decode cX9_init 11 = .ok (.new 15, 3) := by decide +kernel
theorem dX9_init_14 : decode cX9_init 14 = .ok (.dup, 1) := by decide +kernel
theorem dX9_init_15 : decode cX9_init 15 = .ok (.bipush 12, 2) := by decide +kernel
theorem dX9_init_17 : decode cX9_init 17 = .ok (.invokespecial 17, 3) := by decide +kernel
theorem dX9_init_20 : decode cX9_init 20 = .ok (.putfield 20, 3) := by decide +kernel
theorem dX9_init_23 : decode cX9_init 23 = .ok (.aload_n 0, 1) := by decide +kernel
theorem dX9_init_24 : decode cX9_init 24 = .ok (.new 15, 3) := by decide +kernel
theorem dX9_init_27 : decode cX9_init 27 = .ok (.dup, 1) := by decide +kernel
theorem dX9_init_28 : decode cX9_init 28 = .ok (.bipush 12, 2) := by decide +kernel
theorem dX9_init_30 : decode cX9_init 30 = .ok (.invokespecial 17, 3) := by decide +kernel
theorem dX9_init_33 : decode cX9_init 33 = .ok (.putfield 24, 3) := by decide +kernel
theorem dX9_init_36 : decode cX9_init 36 = .ok (.aload_n 0, 1) := by decide +kernel
theorem dX9_init_37 : decode cX9_init 37 = .ok (.new 15, 3) := by decide +kernel
theorem dX9_init_40 : decode cX9_init 40 = .ok (.dup, 1) := by decide +kernel
theorem dX9_init_41 : decode cX9_init 41 = .ok (.bipush 12, 2) := by decide +kernel
theorem dX9_init_43 : decode cX9_init 43 = .ok (.invokespecial 17, 3) := by decide +kernel
theorem dX9_init_46 : decode cX9_init 46 = .ok (.putfield 27, 3) := by decide +kernel
theorem dX9_init_49 : decode cX9_init 49 = .ok (.aload_n 0, 1) := by decide +kernel
theorem dX9_init_50 : decode cX9_init 50 = .ok (.new 15, 3) := by decide +kernel
theorem dX9_init_53 : decode cX9_init 53 = .ok (.dup, 1) := by decide +kernel
theorem dX9_init_54 : decode cX9_init 54 = .ok (.bipush 12, 2) := by decide +kernel
theorem dX9_init_56 : decode cX9_init 56 = .ok (.invokespecial 17, 3) := by decide +kernel
theorem dX9_init_59 : decode cX9_init 59 = .ok (.putfield 30, 3) := by decide +kernel
theorem dX9_init_62 : decode cX9_init 62 = .ok (.aload_n 0, 1) := by decide +kernel
theorem dX9_init_63 : decode cX9_init 63 = .ok (.new 15, 3) := by decide +kernel
theorem dX9_init_66 : decode cX9_init 66 = .ok (.dup, 1) := by decide +kernel
theorem dX9_init_67 : decode cX9_init 67 = .ok (.bipush 6, 2) := by decide +kernel
theorem dX9_init_69 : decode cX9_init 69 = .ok (.invokespecial 17, 3) := by decide +kernel
theorem dX9_init_72 : decode cX9_init 72 = .ok (.putfield 33, 3) := by decide +kernel
theorem dX9_init_75 : decode cX9_init 75 = .ok (.aload_n 0, 1) := by decide +kernel
theorem dX9_init_76 : decode cX9_init 76 = .ok (.new 15, 3) := by decide +kernel
theorem dX9_init_79 : decode cX9_init 79 = .ok (.dup, 1) := by decide +kernel
theorem dX9_init_80 : decode cX9_init 80 = .ok (.iconst 5, 1) := by decide +kernel
theorem dX9_init_81 : decode cX9_init 81 = .ok (.invokespecial 17, 3) := by decide +kernel
theorem dX9_init_84 : decode cX9_init 84 = .ok (.putfield 36, 3) := by decide +kernel
theorem dX9_init_87 : decode cX9_init 87 = .ok (.aload_n 0, 1) := by decide +kernel
theorem dX9_init_88 : decode cX9_init 88 = .ok (.new 15, 3) := by decide +kernel
theorem dX9_init_91 : decode cX9_init 91 = .ok (.dup, 1) := by decide +kernel
theorem dX9_init_92 : decode cX9_init 92 = .ok (.iconst 5, 1) := by decide +kernel
theorem dX9_init_93 : decode cX9_init 93 = .ok (.invokespecial 17, 3) := by decide +kernel
theorem dX9_init_96 : decode cX9_init 96 = .ok (.putfield 39, 3) := by decide +kernel
theorem dX9_init_99 : decode cX9_init 99 = .ok (.aload_n 0, 1) := by decide +kernel
theorem dX9_init_100 : decode cX9_init 100 = .ok (.bipush 19, 2) := by decide +kernel
theorem dX9_init_102 : decode cX9_init 102 = .ok (.newarray .long, 2) := by decide +kernel
theorem dX9_init_104 : decode cX9_init 104 = .ok (.putfield 42, 3) := by decide +kernel
theorem dX9_init_107 : decode cX9_init 107 = .ok (.return_, 1) := by decide +kernel
def z_X9_init_0 : XM := x_si x_z 0 4 (12)
def z_X9_init_1 : XM := x_zc z_X9_init_0 1
def z_X9_init_2 : XM := x_app 1 z_X9_init_1 z_Row
def z_X9_init_3 : XM := x_zc z_X9_init_2 3
def z_X9_init_4 : XM := x_app 3 z_X9_init_3 z_Row
def z_X9_init_5 : XM := x_zc z_X9_init_4 5
def z_X9_init_6 : XM := x_app 5 z_X9_init_5 z_Row
def z_X9_init_7 : XM := x_zc z_X9_init_6 7
def z_X9_init_8 : XM := x_app 7 z_X9_init_7 z_Row
def z_X9_init_9 : XM := x_zc z_X9_init_8 9
def z_X9_init_10 : XM := x_app 9 z_X9_init_9 z_Row
def z_X9_init_11 : XM := x_zc z_X9_init_10 11
def z_X9_init_12 : XM := x_app 11 z_X9_init_11 z_Row
def z_X9_init_13 : XM := x_zc z_X9_init_12 13
def z_X9_init_14 : XM := x_app 13 z_X9_init_13 z_Row
def z_X9_init_15 : XM := x_zc z_X9_init_14 15
abbrev z_X9_init : XM := z_X9_init_15
set_option maxRecDepth 100000 in
set_option maxHeartbeats 4000000 in
theorem cn_X9_init {l : Launch} : CN l yX9_init cX9_init 1 2 15 90 (.inl (9, [0, 0, 0, 0, 0, 0, 2, 2, 2, 2, 2, 2, 2, 2])) shValley z_X9_init [] := by
  refine CN_of (by decide) rfl (fun _ => Nat.le_of_ble_eq_true rfl) ?_
  intro p e s m args below meth c D tc aK aV a X ha hNn hin
  have X : Cx p s m args meth c cX9_init 1 none RX9 D tc aK aV (fun q => a ≤ q) [([.inl (9, [0, 0, 0, 0, 0, 0, 2, 2, 2, 2, 2, 2, 2, 2])], fun i => a + i)] := X
  show bW p l e (x_RmN 2 15 90) s m args below meth c D tc (fun q => a ≤ q) 1 [([.inl (9, [0, 0, 0, 0, 0, 0, 2, 2, 2, 2, 2, 2, 2, 2])], fun i => a + i)] 0 0 (MQ below (x_Q none True D tc [(shValley, fun i => a + i)] [z_X9_init] (fun q => a ≤ q)) args s 15 90 (fun q => a ≤ q)) 0 [(0, .ref (a + 0))] [] [x_z]
  refine a_aload_n (pc := 0) X 0 dX9_init_0 rfl rfl ?_
  refine a_obj (pc := 1) X ko_RX9 dX9_init_1 (Nat.le_of_ble_eq_true rfl) (Nat.le_of_ble_eq_true rfl) ?_
  refine a_aload_n (pc := 4) X 0 dX9_init_4 rfl rfl ?_
  refine a_bipush (pc := 5) X dX9_init_5 q_bp_12 ?_
  refine a_putI (pc := 7) (id := 0) (sh := (.inl (9, [0, 0, 0, 0, 0, 0, 2, 2, 2, 2, 2, 2, 2, 2]) :: [])) (ad := fun i => a + i) X 0 fl_RX9_9 rfl rfl rfl rfl dX9_init_7 ?_
  show bW p l e _ s m args below meth c D tc (fun q => a ≤ q) 1 [((.inl (9, [0, 0, 0, 0, 0, 0, 2, 2, 2, 2, 2, 2, 2, 2]) :: []), fun i => a + i)] 0 0 _ 10 [(0, .ref (a + 0))] [] [z_X9_init_0]
  refine a_aload_n (pc := 10) X 0 dX9_init_10 rfl rfl ?_
  refine a_new (pc := 11) (kc := 0) (ks := 0) (cur := (.inl (9, [0, 0, 0, 0, 0, 0, 2, 2, 2, 2, 2, 2, 2, 2]) :: [])) X ha (by decide +kernel) nw_RX9_15 dX9_init_11 ⟨Nat.le_of_ble_eq_true rfl, Nat.le_of_ble_eq_true rfl⟩ ?_
  have X := x_re X (.inl (9, [0, 0, 0, 0, 0, 0, 2, 2, 2, 2, 2, 2, 2, 2]) :: [.inl (3, [2])])
  show bW p l e _ s m args below meth c D tc (fun q => a ≤ q) 1 [((.inl (9, [0, 0, 0, 0, 0, 0, 2, 2, 2, 2, 2, 2, 2, 2]) :: [.inl (3, [2])]), fun i => a + i)] 1 1 _ 14 [(0, .ref (a + 0))] [.ref (a + 1), .ref (a + 0)] [z_X9_init_1]
  refine a_dup (pc := 14) X dX9_init_14 rfl ?_
  refine a_bipush (pc := 15) X dX9_init_15 q_bp_12 ?_
  refine a_cinit (pc := 17) (kc := 1) (ks := 1) (cur := (.inl (9, [0, 0, 0, 0, 0, 0, 2, 2, 2, 2, 2, 2, 2, 2]) :: [])) (k0 := .inl (3, [2])) (v := z_X9_init_1) X ha (by decide +kernel) hNn [.int 12] [.ref (a + 1), .ref (a + 0)] (cn_X3_init (N := 12) (by decide)) ci_RX9_17 (by unfold z_X9_init_1; exact x_zc_z _ _) rfl rfl (Nat.le_of_ble_eq_true rfl) ⟨Nat.le_of_ble_eq_true rfl, Nat.le_of_ble_eq_true rfl⟩ ⟨Nat.le_of_ble_eq_true rfl, Nat.le_of_ble_eq_true rfl⟩ dX9_init_17 ?_
  have X := x_re X (.inl (9, [0, 0, 0, 0, 0, 0, 2, 2, 2, 2, 2, 2, 2, 2]) :: shRow 12)
  show bW p l e _ s m args below meth c D tc (fun q => a ≤ q) 1 [((.inl (9, [0, 0, 0, 0, 0, 0, 2, 2, 2, 2, 2, 2, 2, 2]) :: shRow 12), fun i => a + i)] 2 13 _ 20 [(0, .ref (a + 0))] [.ref (a + 1), .ref (a + 0)] [z_X9_init_2]
  refine a_putR (pc := 20) (kc := 2) (ks := 13) (tl := shRow 12) (ci := 9) (kds := [0, 0, 0, 0, 0, 0, 2, 2, 2, 2, 2, 2, 2, 2]) (o := 1) X hin fl_RX9_20 (fun _ _ _ h => by cases h; exact ⟨rfl, rfl⟩) rfl (by decide) rfl rfl dX9_init_20 ?_
  have X := x_re X (.inl (9, [0, 0, 0, 0, 0, 0, 3, 2, 2, 2, 2, 2, 2, 2]) :: shRow 12)
  show bW p l e _ s m args below meth c D tc (fun q => a ≤ q) 1 [((.inl (9, [0, 0, 0, 0, 0, 0, 3, 2, 2, 2, 2, 2, 2, 2]) :: shRow 12), fun i => a + i)] 2 13 _ 23 [(0, .ref (a + 0))] [] [z_X9_init_2]
  refine a_aload_n (pc := 23) X 0 dX9_init_23 rfl rfl ?_
  refine a_new (pc := 24) (kc := 2) (ks := 13) (cur := (.inl (9, [0, 0, 0, 0, 0, 0, 3, 2, 2, 2, 2, 2, 2, 2]) :: shRow 12)) X ha (by decide +kernel) nw_RX9_15 dX9_init_24 ⟨Nat.le_of_ble_eq_true rfl, Nat.le_of_ble_eq_true rfl⟩ ?_
  have X := x_re X (.inl (9, [0, 0, 0, 0, 0, 0, 3, 2, 2, 2, 2, 2, 2, 2]) :: (shRow 12 ++ [.inl (3, [2])]))
  show bW p l e _ s m args below meth c D tc (fun q => a ≤ q) 1 [((.inl (9, [0, 0, 0, 0, 0, 0, 3, 2, 2, 2, 2, 2, 2, 2]) :: (shRow 12 ++ [.inl (3, [2])])), fun i => a + i)] 3 14 _ 27 [(0, .ref (a + 0))] [.ref (a + 3), .ref (a + 0)] [z_X9_init_3]
  refine a_dup (pc := 27) X dX9_init_27 rfl ?_
  refine a_bipush (pc := 28) X dX9_init_28 q_bp_12 ?_
  refine a_cinit (pc := 30) (kc := 3) (ks := 14) (cur := (.inl (9, [0, 0, 0, 0, 0, 0, 3, 2, 2, 2, 2, 2, 2, 2]) :: shRow 12)) (k0 := .inl (3, [2])) (v := z_X9_init_3) X ha (by decide +kernel) hNn [.int 12] [.ref (a + 3), .ref (a + 0)] (cn_X3_init (N := 12) (by decide)) ci_RX9_17 (by unfold z_X9_init_3; exact x_zc_z _ _) rfl rfl (Nat.le_of_ble_eq_true rfl) ⟨Nat.le_of_ble_eq_true rfl, Nat.le_of_ble_eq_true rfl⟩ ⟨Nat.le_of_ble_eq_true rfl, Nat.le_of_ble_eq_true rfl⟩ dX9_init_30 ?_
  have X := x_re X (.inl (9, [0, 0, 0, 0, 0, 0, 3, 2, 2, 2, 2, 2, 2, 2]) :: (shRow 12 ++ shRow 12))
  show bW p l e _ s m args below meth c D tc (fun q => a ≤ q) 1 [((.inl (9, [0, 0, 0, 0, 0, 0, 3, 2, 2, 2, 2, 2, 2, 2]) :: (shRow 12 ++ shRow 12)), fun i => a + i)] 4 26 _ 33 [(0, .ref (a + 0))] [.ref (a + 3), .ref (a + 0)] [z_X9_init_4]
  refine a_putR (pc := 33) (kc := 4) (ks := 26) (tl := (shRow 12 ++ shRow 12)) (ci := 9) (kds := [0, 0, 0, 0, 0, 0, 3, 2, 2, 2, 2, 2, 2, 2]) (o := 3) X hin fl_RX9_24 (fun _ _ _ h => by cases h; exact ⟨rfl, rfl⟩) rfl (by decide) rfl rfl dX9_init_33 ?_
  have X := x_re X (.inl (9, [0, 0, 0, 0, 0, 0, 3, 5, 2, 2, 2, 2, 2, 2]) :: (shRow 12 ++ shRow 12))
  show bW p l e _ s m args below meth c D tc (fun q => a ≤ q) 1 [((.inl (9, [0, 0, 0, 0, 0, 0, 3, 5, 2, 2, 2, 2, 2, 2]) :: (shRow 12 ++ shRow 12)), fun i => a + i)] 4 26 _ 36 [(0, .ref (a + 0))] [] [z_X9_init_4]
  refine a_aload_n (pc := 36) X 0 dX9_init_36 rfl rfl ?_
  refine a_new (pc := 37) (kc := 4) (ks := 26) (cur := (.inl (9, [0, 0, 0, 0, 0, 0, 3, 5, 2, 2, 2, 2, 2, 2]) :: (shRow 12 ++ shRow 12))) X ha (by decide +kernel) nw_RX9_15 dX9_init_37 ⟨Nat.le_of_ble_eq_true rfl, Nat.le_of_ble_eq_true rfl⟩ ?_
  have X := x_re X (.inl (9, [0, 0, 0, 0, 0, 0, 3, 5, 2, 2, 2, 2, 2, 2]) :: ((shRow 12 ++ shRow 12) ++ [.inl (3, [2])]))
  show bW p l e _ s m args below meth c D tc (fun q => a ≤ q) 1 [((.inl (9, [0, 0, 0, 0, 0, 0, 3, 5, 2, 2, 2, 2, 2, 2]) :: ((shRow 12 ++ shRow 12) ++ [.inl (3, [2])])), fun i => a + i)] 5 27 _ 40 [(0, .ref (a + 0))] [.ref (a + 5), .ref (a + 0)] [z_X9_init_5]
  refine a_dup (pc := 40) X dX9_init_40 rfl ?_
  refine a_bipush (pc := 41) X dX9_init_41 q_bp_12 ?_
  refine a_cinit (pc := 43) (kc := 5) (ks := 27) (cur := (.inl (9, [0, 0, 0, 0, 0, 0, 3, 5, 2, 2, 2, 2, 2, 2]) :: (shRow 12 ++ shRow 12))) (k0 := .inl (3, [2])) (v := z_X9_init_5) X ha (by decide +kernel) hNn [.int 12] [.ref (a + 5), .ref (a + 0)] (cn_X3_init (N := 12) (by decide)) ci_RX9_17 (by unfold z_X9_init_5; exact x_zc_z _ _) rfl rfl (Nat.le_of_ble_eq_true rfl) ⟨Nat.le_of_ble_eq_true rfl, Nat.le_of_ble_eq_true rfl⟩ ⟨Nat.le_of_ble_eq_true rfl, Nat.le_of_ble_eq_true rfl⟩ dX9_init_43 ?_
  have X := x_re X (.inl (9, [0, 0, 0, 0, 0, 0, 3, 5, 2, 2, 2, 2, 2, 2]) :: ((shRow 12 ++ shRow 12) ++ shRow 12))
  show bW p l e _ s m args below meth c D tc (fun q => a ≤ q) 1 [((.inl (9, [0, 0, 0, 0, 0, 0, 3, 5, 2, 2, 2, 2, 2, 2]) :: ((shRow 12 ++ shRow 12) ++ shRow 12)), fun i => a + i)] 6 39 _ 46 [(0, .ref (a + 0))] [.ref (a + 5), .ref (a + 0)] [z_X9_init_6]
  refine a_putR (pc := 46) (kc := 6) (ks := 39) (tl := ((shRow 12 ++ shRow 12) ++ shRow 12)) (ci := 9) (kds := [0, 0, 0, 0, 0, 0, 3, 5, 2, 2, 2, 2, 2, 2]) (o := 5) X hin fl_RX9_27 (fun _ _ _ h => by cases h; exact ⟨rfl, rfl⟩) rfl (by decide) rfl rfl dX9_init_46 ?_
  have X := x_re X (.inl (9, [0, 0, 0, 0, 0, 0, 3, 5, 7, 2, 2, 2, 2, 2]) :: ((shRow 12 ++ shRow 12) ++ shRow 12))
  show bW p l e _ s m args below meth c D tc (fun q => a ≤ q) 1 [((.inl (9, [0, 0, 0, 0, 0, 0, 3, 5, 7, 2, 2, 2, 2, 2]) :: ((shRow 12 ++ shRow 12) ++ shRow 12)), fun i => a + i)] 6 39 _ 49 [(0, .ref (a + 0))] [] [z_X9_init_6]
  refine a_aload_n (pc := 49) X 0 dX9_init_49 rfl rfl ?_
  refine a_new (pc := 50) (kc := 6) (ks := 39) (cur := (.inl (9, [0, 0, 0, 0, 0, 0, 3, 5, 7, 2, 2, 2, 2, 2]) :: ((shRow 12 ++ shRow 12) ++ shRow 12))) X ha (by decide +kernel) nw_RX9_15 dX9_init_50 ⟨Nat.le_of_ble_eq_true rfl, Nat.le_of_ble_eq_true rfl⟩ ?_
  have X := x_re X (.inl (9, [0, 0, 0, 0, 0, 0, 3, 5, 7, 2, 2, 2, 2, 2]) :: (((shRow 12 ++ shRow 12) ++ shRow 12) ++ [.inl (3, [2])]))
  show bW p l e _ s m args below meth c D tc (fun q => a ≤ q) 1 [((.inl (9, [0, 0, 0, 0, 0, 0, 3, 5, 7, 2, 2, 2, 2, 2]) :: (((shRow 12 ++ shRow 12) ++ shRow 12) ++ [.inl (3, [2])])), fun i => a + i)] 7 40 _ 53 [(0, .ref (a + 0))] [.ref (a + 7), .ref (a + 0)] [z_X9_init_7]
  refine a_dup (pc := 53) X dX9_init_53 rfl ?_
  refine a_bipush (pc := 54) X dX9_init_54 q_bp_12 ?_
  refine a_cinit (pc := 56) (kc := 7) (ks := 40) (cur := (.inl (9, [0, 0, 0, 0, 0, 0, 3, 5, 7, 2, 2, 2, 2, 2]) :: ((shRow 12 ++ shRow 12) ++ shRow 12))) (k0 := .inl (3, [2])) (v := z_X9_init_7) X ha (by decide +kernel) hNn [.int 12] [.ref (a + 7), .ref (a + 0)] (cn_X3_init (N := 12) (by decide)) ci_RX9_17 (by unfold z_X9_init_7; exact x_zc_z _ _) rfl rfl (Nat.le_of_ble_eq_true rfl) ⟨Nat.le_of_ble_eq_true rfl, Nat.le_of_ble_eq_true rfl⟩ ⟨Nat.le_of_ble_eq_true rfl, Nat.le_of_ble_eq_true rfl⟩ dX9_init_56 ?_
  have X := x_re X (.inl (9, [0, 0, 0, 0, 0, 0, 3, 5, 7, 2, 2, 2, 2, 2]) :: (((shRow 12 ++ shRow 12) ++ shRow 12) ++ shRow 12))
  show bW p l e _ s m args below meth c D tc (fun q => a ≤ q) 1 [((.inl (9, [0, 0, 0, 0, 0, 0, 3, 5, 7, 2, 2, 2, 2, 2]) :: (((shRow 12 ++ shRow 12) ++ shRow 12) ++ shRow 12)), fun i => a + i)] 8 52 _ 59 [(0, .ref (a + 0))] [.ref (a + 7), .ref (a + 0)] [z_X9_init_8]
  refine a_putR (pc := 59) (kc := 8) (ks := 52) (tl := (((shRow 12 ++ shRow 12) ++ shRow 12) ++ shRow 12)) (ci := 9) (kds := [0, 0, 0, 0, 0, 0, 3, 5, 7, 2, 2, 2, 2, 2]) (o := 7) X hin fl_RX9_30 (fun _ _ _ h => by cases h; exact ⟨rfl, rfl⟩) rfl (by decide) rfl rfl dX9_init_59 ?_
  have X := x_re X (.inl (9, [0, 0, 0, 0, 0, 0, 3, 5, 7, 9, 2, 2, 2, 2]) :: (((shRow 12 ++ shRow 12) ++ shRow 12) ++ shRow 12))
  show bW p l e _ s m args below meth c D tc (fun q => a ≤ q) 1 [((.inl (9, [0, 0, 0, 0, 0, 0, 3, 5, 7, 9, 2, 2, 2, 2]) :: (((shRow 12 ++ shRow 12) ++ shRow 12) ++ shRow 12)), fun i => a + i)] 8 52 _ 62 [(0, .ref (a + 0))] [] [z_X9_init_8]
  refine a_aload_n (pc := 62) X 0 dX9_init_62 rfl rfl ?_
  refine a_new (pc := 63) (kc := 8) (ks := 52) (cur := (.inl (9, [0, 0, 0, 0, 0, 0, 3, 5, 7, 9, 2, 2, 2, 2]) :: (((shRow 12 ++ shRow 12) ++ shRow 12) ++ shRow 12))) X ha (by decide +kernel) nw_RX9_15 dX9_init_63 ⟨Nat.le_of_ble_eq_true rfl, Nat.le_of_ble_eq_true rfl⟩ ?_
  have X := x_re X (.inl (9, [0, 0, 0, 0, 0, 0, 3, 5, 7, 9, 2, 2, 2, 2]) :: ((((shRow 12 ++ shRow 12) ++ shRow 12) ++ shRow 12) ++ [.inl (3, [2])]))
  show bW p l e _ s m args below meth c D tc (fun q => a ≤ q) 1 [((.inl (9, [0, 0, 0, 0, 0, 0, 3, 5, 7, 9, 2, 2, 2, 2]) :: ((((shRow 12 ++ shRow 12) ++ shRow 12) ++ shRow 12) ++ [.inl (3, [2])])), fun i => a + i)] 9 53 _ 66 [(0, .ref (a + 0))] [.ref (a + 9), .ref (a + 0)] [z_X9_init_9]
  refine a_dup (pc := 66) X dX9_init_66 rfl ?_
  refine a_bipush (pc := 67) X dX9_init_67 q_bp_6 ?_
  refine a_cinit (pc := 69) (kc := 9) (ks := 53) (cur := (.inl (9, [0, 0, 0, 0, 0, 0, 3, 5, 7, 9, 2, 2, 2, 2]) :: (((shRow 12 ++ shRow 12) ++ shRow 12) ++ shRow 12))) (k0 := .inl (3, [2])) (v := z_X9_init_9) X ha (by decide +kernel) hNn [.int 6] [.ref (a + 9), .ref (a + 0)] (cn_X3_init (N := 6) (by decide)) ci_RX9_17 (by unfold z_X9_init_9; exact x_zc_z _ _) rfl rfl (Nat.le_of_ble_eq_true rfl) ⟨Nat.le_of_ble_eq_true rfl, Nat.le_of_ble_eq_true rfl⟩ ⟨Nat.le_of_ble_eq_true rfl, Nat.le_of_ble_eq_true rfl⟩ dX9_init_69 ?_
  have X := x_re X (.inl (9, [0, 0, 0, 0, 0, 0, 3, 5, 7, 9, 2, 2, 2, 2]) :: ((((shRow 12 ++ shRow 12) ++ shRow 12) ++ shRow 12) ++ shRow 6))
  show bW p l e _ s m args below meth c D tc (fun q => a ≤ q) 1 [((.inl (9, [0, 0, 0, 0, 0, 0, 3, 5, 7, 9, 2, 2, 2, 2]) :: ((((shRow 12 ++ shRow 12) ++ shRow 12) ++ shRow 12) ++ shRow 6)), fun i => a + i)] 10 59 _ 72 [(0, .ref (a + 0))] [.ref (a + 9), .ref (a + 0)] [z_X9_init_10]
  refine a_putR (pc := 72) (kc := 10) (ks := 59) (tl := ((((shRow 12 ++ shRow 12) ++ shRow 12) ++ shRow 12) ++ shRow 6)) (ci := 9) (kds := [0, 0, 0, 0, 0, 0, 3, 5, 7, 9, 2, 2, 2, 2]) (o := 9) X hin fl_RX9_33 (fun _ _ _ h => by cases h; exact ⟨rfl, rfl⟩) rfl (by decide) rfl rfl dX9_init_72 ?_
  have X := x_re X (.inl (9, [0, 0, 0, 0, 0, 0, 3, 5, 7, 9, 11, 2, 2, 2]) :: ((((shRow 12 ++ shRow 12) ++ shRow 12) ++ shRow 12) ++ shRow 6))
  show bW p l e _ s m args below meth c D tc (fun q => a ≤ q) 1 [((.inl (9, [0, 0, 0, 0, 0, 0, 3, 5, 7, 9, 11, 2, 2, 2]) :: ((((shRow 12 ++ shRow 12) ++ shRow 12) ++ shRow 12) ++ shRow 6)), fun i => a + i)] 10 59 _ 75 [(0, .ref (a + 0))] [] [z_X9_init_10]
  refine a_aload_n (pc := 75) X 0 dX9_init_75 rfl rfl ?_
  refine a_new (pc := 76) (kc := 10) (ks := 59) (cur := (.inl (9, [0, 0, 0, 0, 0, 0, 3, 5, 7, 9, 11, 2, 2, 2]) :: ((((shRow 12 ++ shRow 12) ++ shRow 12) ++ shRow 12) ++ shRow 6))) X ha (by decide +kernel) nw_RX9_15 dX9_init_76 ⟨Nat.le_of_ble_eq_true rfl, Nat.le_of_ble_eq_true rfl⟩ ?_
  have X := x_re X (.inl (9, [0, 0, 0, 0, 0, 0, 3, 5, 7, 9, 11, 2, 2, 2]) :: (((((shRow 12 ++ shRow 12) ++ shRow 12) ++ shRow 12) ++ shRow 6) ++ [.inl (3, [2])]))
  show bW p l e _ s m args below meth c D tc (fun q => a ≤ q) 1 [((.inl (9, [0, 0, 0, 0, 0, 0, 3, 5, 7, 9, 11, 2, 2, 2]) :: (((((shRow 12 ++ shRow 12) ++ shRow 12) ++ shRow 12) ++ shRow 6) ++ [.inl (3, [2])])), fun i => a + i)] 11 60 _ 79 [(0, .ref (a + 0))] [.ref (a + 11), .ref (a + 0)] [z_X9_init_11]
  refine a_dup (pc := 79) X dX9_init_79 rfl ?_
  refine a_iconst (pc := 80) X dX9_init_80 q_ic_5 ?_
  refine a_cinit (pc := 81) (kc := 11) (ks := 60) (cur := (.inl (9, [0, 0, 0, 0, 0, 0, 3, 5, 7, 9, 11, 2, 2, 2]) :: ((((shRow 12 ++ shRow 12) ++ shRow 12) ++ shRow 12) ++ shRow 6))) (k0 := .inl (3, [2])) (v := z_X9_init_11) X ha (by decide +kernel) hNn [.int 5] [.ref (a + 11), .ref (a + 0)] (cn_X3_init (N := 5) (by decide)) ci_RX9_17 (by unfold z_X9_init_11; exact x_zc_z _ _) rfl rfl (Nat.le_of_ble_eq_true rfl) ⟨Nat.le_of_ble_eq_true rfl, Nat.le_of_ble_eq_true rfl⟩ ⟨Nat.le_of_ble_eq_true rfl, Nat.le_of_ble_eq_true rfl⟩ dX9_init_81 ?_
  have X := x_re X (.inl (9, [0, 0, 0, 0, 0, 0, 3, 5, 7, 9, 11, 2, 2, 2]) :: (((((shRow 12 ++ shRow 12) ++ shRow 12) ++ shRow 12) ++ shRow 6) ++ shRow 5))
  show bW p l e _ s m args below meth c D tc (fun q => a ≤ q) 1 [((.inl (9, [0, 0, 0, 0, 0, 0, 3, 5, 7, 9, 11, 2, 2, 2]) :: (((((shRow 12 ++ shRow 12) ++ shRow 12) ++ shRow 12) ++ shRow 6) ++ shRow 5)), fun i => a + i)] 12 65 _ 84 [(0, .ref (a + 0))] [.ref (a + 11), .ref (a + 0)] [z_X9_init_12]
  refine a_putR (pc := 84) (kc := 12) (ks := 65) (tl := (((((shRow 12 ++ shRow 12) ++ shRow 12) ++ shRow 12) ++ shRow 6) ++ shRow 5)) (ci := 9) (kds := [0, 0, 0, 0, 0, 0, 3, 5, 7, 9, 11, 2, 2, 2]) (o := 11) X hin fl_RX9_36 (fun _ _ _ h => by cases h; exact ⟨rfl, rfl⟩) rfl (by decide) rfl rfl dX9_init_84 ?_
  have X := x_re X (.inl (9, [0, 0, 0, 0, 0, 0, 3, 5, 7, 9, 11, 13, 2, 2]) :: (((((shRow 12 ++ shRow 12) ++ shRow 12) ++ shRow 12) ++ shRow 6) ++ shRow 5))
  show bW p l e _ s m args below meth c D tc (fun q => a ≤ q) 1 [((.inl (9, [0, 0, 0, 0, 0, 0, 3, 5, 7, 9, 11, 13, 2, 2]) :: (((((shRow 12 ++ shRow 12) ++ shRow 12) ++ shRow 12) ++ shRow 6) ++ shRow 5)), fun i => a + i)] 12 65 _ 87 [(0, .ref (a + 0))] [] [z_X9_init_12]
  refine a_aload_n (pc := 87) X 0 dX9_init_87 rfl rfl ?_
  refine a_new (pc := 88) (kc := 12) (ks := 65) (cur := (.inl (9, [0, 0, 0, 0, 0, 0, 3, 5, 7, 9, 11, 13, 2, 2]) :: (((((shRow 12 ++ shRow 12) ++ shRow 12) ++ shRow 12) ++ shRow 6) ++ shRow 5))) X ha (by decide +kernel) nw_RX9_15 dX9_init_88 ⟨Nat.le_of_ble_eq_true rfl, Nat.le_of_ble_eq_true rfl⟩ ?_
  have X := x_re X (.inl (9, [0, 0, 0, 0, 0, 0, 3, 5, 7, 9, 11, 13, 2, 2]) :: ((((((shRow 12 ++ shRow 12) ++ shRow 12) ++ shRow 12) ++ shRow 6) ++ shRow 5) ++ [.inl (3, [2])]))
  show bW p l e _ s m args below meth c D tc (fun q => a ≤ q) 1 [((.inl (9, [0, 0, 0, 0, 0, 0, 3, 5, 7, 9, 11, 13, 2, 2]) :: ((((((shRow 12 ++ shRow 12) ++ shRow 12) ++ shRow 12) ++ shRow 6) ++ shRow 5) ++ [.inl (3, [2])])), fun i => a + i)] 13 66 _ 91 [(0, .ref (a + 0))] [.ref (a + 13), .ref (a + 0)] [z_X9_init_13]
  refine a_dup (pc := 91) X dX9_init_91 rfl ?_
  refine a_iconst (pc := 92) X dX9_init_92 q_ic_5 ?_
  refine a_cinit (pc := 93) (kc := 13) (ks := 66) (cur := (.inl (9, [0, 0, 0, 0, 0, 0, 3, 5, 7, 9, 11, 13, 2, 2]) :: (((((shRow 12 ++ shRow 12) ++ shRow 12) ++ shRow 12) ++ shRow 6) ++ shRow 5))) (k0 := .inl (3, [2])) (v := z_X9_init_13) X ha (by decide +kernel) hNn [.int 5] [.ref (a + 13), .ref (a + 0)] (cn_X3_init (N := 5) (by decide)) ci_RX9_17 (by unfold z_X9_init_13; exact x_zc_z _ _) rfl rfl (Nat.le_of_ble_eq_true rfl) ⟨Nat.le_of_ble_eq_true rfl, Nat.le_of_ble_eq_true rfl⟩ ⟨Nat.le_of_ble_eq_true rfl, Nat.le_of_ble_eq_true rfl⟩ dX9_init_93 ?_
  have X := x_re X (.inl (9, [0, 0, 0, 0, 0, 0, 3, 5, 7, 9, 11, 13, 2, 2]) :: ((((((shRow 12 ++ shRow 12) ++ shRow 12) ++ shRow 12) ++ shRow 6) ++ shRow 5) ++ shRow 5))
  show bW p l e _ s m args below meth c D tc (fun q => a ≤ q) 1 [((.inl (9, [0, 0, 0, 0, 0, 0, 3, 5, 7, 9, 11, 13, 2, 2]) :: ((((((shRow 12 ++ shRow 12) ++ shRow 12) ++ shRow 12) ++ shRow 6) ++ shRow 5) ++ shRow 5)), fun i => a + i)] 14 71 _ 96 [(0, .ref (a + 0))] [.ref (a + 13), .ref (a + 0)] [z_X9_init_14]
  refine a_putR (pc := 96) (kc := 14) (ks := 71) (tl := ((((((shRow 12 ++ shRow 12) ++ shRow 12) ++ shRow 12) ++ shRow 6) ++ shRow 5) ++ shRow 5)) (ci := 9) (kds := [0, 0, 0, 0, 0, 0, 3, 5, 7, 9, 11, 13, 2, 2]) (o := 13) X hin fl_RX9_39 (fun _ _ _ h => by cases h; exact ⟨rfl, rfl⟩) rfl (by decide) rfl rfl dX9_init_96 ?_
  have X := x_re X (.inl (9, [0, 0, 0, 0, 0, 0, 3, 5, 7, 9, 11, 13, 15, 2]) :: ((((((shRow 12 ++ shRow 12) ++ shRow 12) ++ shRow 12) ++ shRow 6) ++ shRow 5) ++ shRow 5))
  show bW p l e _ s m args below meth c D tc (fun q => a ≤ q) 1 [((.inl (9, [0, 0, 0, 0, 0, 0, 3, 5, 7, 9, 11, 13, 15, 2]) :: ((((((shRow 12 ++ shRow 12) ++ shRow 12) ++ shRow 12) ++ shRow 6) ++ shRow 5) ++ shRow 5)), fun i => a + i)] 14 71 _ 99 [(0, .ref (a + 0))] [] [z_X9_init_14]
  refine a_aload_n (pc := 99) X 0 dX9_init_99 rfl rfl ?_
  refine a_bipush (pc := 100) X dX9_init_100 q_bp_19 ?_
  refine a_newarrL (pc := 102) (kc := 14) (ks := 71) (cur := (.inl (9, [0, 0, 0, 0, 0, 0, 3, 5, 7, 9, 11, 13, 15, 2]) :: ((((((shRow 12 ++ shRow 12) ++ shRow 12) ++ shRow 12) ++ shRow 6) ++ shRow 5) ++ shRow 5))) (N := 19) X ha (by decide +kernel) (by decide) (by decide) ka_long dX9_init_102 (by decide) ⟨Nat.le_of_ble_eq_true rfl, Nat.le_of_ble_eq_true rfl⟩ ?_
  have X := x_re X (.inl (9, [0, 0, 0, 0, 0, 0, 3, 5, 7, 9, 11, 13, 15, 2]) :: (((((((shRow 12 ++ shRow 12) ++ shRow 12) ++ shRow 12) ++ shRow 6) ++ shRow 5) ++ shRow 5) ++ xA 1 19))
  show bW p l e _ s m args below meth c D tc (fun q => a ≤ q) 1 [((.inl (9, [0, 0, 0, 0, 0, 0, 3, 5, 7, 9, 11, 13, 15, 2]) :: (((((((shRow 12 ++ shRow 12) ++ shRow 12) ++ shRow 12) ++ shRow 6) ++ shRow 5) ++ shRow 5) ++ xA 1 19)), fun i => a + i)] 15 90 _ 104 [(0, .ref (a + 0))] [.ref (a + 15), .ref (a + 0)] [z_X9_init_15]
  refine a_putR (pc := 104) (kc := 15) (ks := 90) (tl := (((((((shRow 12 ++ shRow 12) ++ shRow 12) ++ shRow 12) ++ shRow 6) ++ shRow 5) ++ shRow 5) ++ xA 1 19)) (ci := 9) (kds := [0, 0, 0, 0, 0, 0, 3, 5, 7, 9, 11, 13, 15, 2]) (o := 15) X hin fl_RX9_42 (fun _ _ _ h => by cases h; exact ⟨rfl, rfl⟩) rfl (by decide) rfl rfl dX9_init_104 ?_
  have X := x_re X (.inl (9, [0, 0, 0, 0, 0, 0, 3, 5, 7, 9, 11, 13, 15, 17]) :: (((((((shRow 12 ++ shRow 12) ++ shRow 12) ++ shRow 12) ++ shRow 6) ++ shRow 5) ++ shRow 5) ++ xA 1 19))
  show bW p l e _ s m args below meth c D tc (fun q => a ≤ q) 1 [((.inl (9, [0, 0, 0, 0, 0, 0, 3, 5, 7, 9, 11, 13, 15, 17]) :: (((((((shRow 12 ++ shRow 12) ++ shRow 12) ++ shRow 12) ++ shRow 6) ++ shRow 5) ++ shRow 5) ++ xA 1 19)), fun i => a + i)] 15 90 _ 107 [(0, .ref (a + 0))] [] [z_X9_init_15]
  have X := x_re X shValley
  exact a_vret (pc := 107) X trivial dX9_init_107
theorem ko_RX4 : Cond.methodLink RX4 3 Lib.objectInit ∈ x_TB ∧ Cond.instanceMethod Lib.objectInit ∈ x_TB ∧ Cond.code Lib.objectInit ⟨#[0xb1]⟩ 1 none ∈ x_TB := ⟨(x_tb (x_t2 (List.mem_of_getElem? (i := 86) rfl)) rfl), (x_tb (x_t1 (List.mem_of_getElem? (i := 30) rfl)) rfl), (x_tb (x_t1 (List.mem_of_getElem? (i := 31) rfl)) rfl)⟩
theorem nw_RX4_9 : x_nw RX4 9 3 1 [2] := ⟨RX3, TX3, tyX3, rfl, (x_tb (x_t2 (List.mem_of_getElem? (i := 87) rfl)) rfl), (x_tb (x_t1 (List.mem_of_getElem? (i := 39) rfl)) rfl), (x_tb (x_t1 (List.mem_of_getElem? (i := 3) rfl)) rfl), wsIn3, tyX3_ok, fun j hj => by
  match j, hj with
  | 0, _ => exact Or.inr (Or.inr ⟨rfl, rfl⟩)
  | j + 1, h => exact absurd h (by omega)⟩
theorem ci_RX4_13 : x_ci RX4 13 yX3_init cX3_init 2 1 := ⟨Or.inl (x_tb (x_t2 (List.mem_of_getElem? (i := 88) rfl)) rfl), (x_tb (x_t1 (List.mem_of_getElem? (i := 41) rfl)) rfl), (x_tb (x_t1 (List.mem_of_getElem? (i := 3) rfl)) rfl), (x_tb (x_t1 (List.mem_of_getElem? (i := 42) rfl)) rfl), by decide, by decide, by decide +kernel, rfl⟩
theorem dX4_init_0 : decode cX4_init 0 = .ok (.aload_n 0, 1) := by decide +kernel
theorem dX4_init_1 : decode cX4_init 1 = .ok (.invokespecial 3, 3) := by decide +kernel
theorem dX4_init_4 : decode cX4_init 4 = .ok (.aload_n 0, 1) := by decide +kernel
theorem dX4_init_5 : decode cX4_init 5 = .ok (.new 9, 3) := by decide +kernel
theorem dX4_init_8 : decode cX4_init 8 = .ok (.dup, 1) := by decide +kernel
theorem dX4_init_9 : decode cX4_init 9 = .ok (.bipush 40, 2) := by decide +kernel
theorem dX4_init_11 : decode cX4_init 11 = .ok (.invokespecial 13, 3) := by decide +kernel
theorem dX4_init_14 : decode cX4_init 14 = .ok (.putfield 16, 3) := by decide +kernel
theorem dX4_init_17 : decode cX4_init 17 = .ok (.aload_n 0, 1) := by decide +kernel
theorem dX4_init_18 : decode cX4_init 18 = .ok (.new 9, 3) := by decide +kernel
theorem dX4_init_21 : decode cX4_init 21 = .ok (.dup, 1) := by decide +kernel
theorem dX4_init_22 : decode cX4_init 22 = .ok (.bipush 40, 2) := by decide +kernel
theorem dX4_init_24 : decode cX4_init 24 = .ok (.invokespecial 13, 3) := by decide +kernel
theorem dX4_init_27 : decode cX4_init 27 = .ok (.putfield 20, 3) := by decide +kernel
theorem dX4_init_30 : decode cX4_init 30 = .ok (.aload_n 0, 1) := by decide +kernel
theorem dX4_init_31 : decode cX4_init 31 = .ok (.new 9, 3) := by decide +kernel
theorem dX4_init_34 : decode cX4_init 34 = .ok (.dup, 1) := by decide +kernel
theorem dX4_init_35 : decode cX4_init 35 = .ok (.bipush 40, 2) := by decide +kernel
theorem dX4_init_37 : decode cX4_init 37 = .ok (.invokespecial 13, 3) := by decide +kernel
theorem dX4_init_40 : decode cX4_init 40 = .ok (.putfield 23, 3) := by decide +kernel
theorem dX4_init_43 : decode cX4_init 43 = .ok (.aload_n 0, 1) := by decide +kernel
theorem dX4_init_44 : decode cX4_init 44 = .ok (.new 9, 3) := by decide +kernel
theorem dX4_init_47 : decode cX4_init 47 = .ok (.dup, 1) := by decide +kernel
theorem dX4_init_48 : decode cX4_init 48 = .ok (.bipush 40, 2) := by decide +kernel
theorem dX4_init_50 : decode cX4_init 50 = .ok (.invokespecial 13, 3) := by decide +kernel
theorem dX4_init_53 : decode cX4_init 53 = .ok (.putfield 26, 3) := by decide +kernel
theorem dX4_init_56 : decode cX4_init 56 = .ok (.return_, 1) := by decide +kernel
def z_X4_init_0 : XM := x_zc x_z 1
def z_X4_init_1 : XM := x_app 1 z_X4_init_0 z_Row
def z_X4_init_2 : XM := x_zc z_X4_init_1 3
def z_X4_init_3 : XM := x_app 3 z_X4_init_2 z_Row
def z_X4_init_4 : XM := x_zc z_X4_init_3 5
def z_X4_init_5 : XM := x_app 5 z_X4_init_4 z_Row
def z_X4_init_6 : XM := x_zc z_X4_init_5 7
def z_X4_init_7 : XM := x_app 7 z_X4_init_6 z_Row
abbrev z_X4_init : XM := z_X4_init_7
set_option maxRecDepth 100000 in
set_option maxHeartbeats 4000000 in
theorem cn_X4_init {l : Launch} : CN l yX4_init cX4_init 1 2 8 164 (.inl (4, [0, 0, 2, 2, 2, 2, 0, 0])) shSentence z_X4_init [] := by
  refine CN_of (by decide) rfl (fun _ => Nat.le_of_ble_eq_true rfl) ?_
  intro p e s m args below meth c D tc aK aV a X ha hNn hin
  have X : Cx p s m args meth c cX4_init 1 none RX4 D tc aK aV (fun q => a ≤ q) [([.inl (4, [0, 0, 2, 2, 2, 2, 0, 0])], fun i => a + i)] := X
  show bW p l e (x_RmN 2 8 164) s m args below meth c D tc (fun q => a ≤ q) 1 [([.inl (4, [0, 0, 2, 2, 2, 2, 0, 0])], fun i => a + i)] 0 0 (MQ below (x_Q none True D tc [(shSentence, fun i => a + i)] [z_X4_init] (fun q => a ≤ q)) args s 8 164 (fun q => a ≤ q)) 0 [(0, .ref (a + 0))] [] [x_z]
  refine a_aload_n (pc := 0) X 0 dX4_init_0 rfl rfl ?_
  refine a_obj (pc := 1) X ko_RX4 dX4_init_1 (Nat.le_of_ble_eq_true rfl) (Nat.le_of_ble_eq_true rfl) ?_
  refine a_aload_n (pc := 4) X 0 dX4_init_4 rfl rfl ?_
  refine a_new (pc := 5) (kc := 0) (ks := 0) (cur := (.inl (4, [0, 0, 2, 2, 2, 2, 0, 0]) :: [])) X ha (by decide +kernel) nw_RX4_9 dX4_init_5 ⟨Nat.le_of_ble_eq_true rfl, Nat.le_of_ble_eq_true rfl⟩ ?_
  have X := x_re X (.inl (4, [0, 0, 2, 2, 2, 2, 0, 0]) :: [.inl (3, [2])])
  show bW p l e _ s m args below meth c D tc (fun q => a ≤ q) 1 [((.inl (4, [0, 0, 2, 2, 2, 2, 0, 0]) :: [.inl (3, [2])]), fun i => a + i)] 1 1 _ 8 [(0, .ref (a + 0))] [.ref (a + 1), .ref (a + 0)] [z_X4_init_0]
  refine a_dup (pc := 8) X dX4_init_8 rfl ?_
  refine a_bipush (pc := 9) X dX4_init_9 q_bp_40 ?_
  refine a_cinit (pc := 11) (kc := 1) (ks := 1) (cur := (.inl (4, [0, 0, 2, 2, 2, 2, 0, 0]) :: [])) (k0 := .inl (3, [2])) (v := z_X4_init_0) X ha (by decide +kernel) hNn [.int 40] [.ref (a + 1), .ref (a + 0)] (cn_X3_init (N := 40) (by decide)) ci_RX4_13 (by unfold z_X4_init_0; exact x_zc_z _ _) rfl rfl (Nat.le_of_ble_eq_true rfl) ⟨Nat.le_of_ble_eq_true rfl, Nat.le_of_ble_eq_true rfl⟩ ⟨Nat.le_of_ble_eq_true rfl, Nat.le_of_ble_eq_true rfl⟩ dX4_init_11 ?_
  have X := x_re X (.inl (4, [0, 0, 2, 2, 2, 2, 0, 0]) :: shRow 40)
  show bW p l e _ s m args below meth c D tc (fun q => a ≤ q) 1 [((.inl (4, [0, 0, 2, 2, 2, 2, 0, 0]) :: shRow 40), fun i => a + i)] 2 41 _ 14 [(0, .ref (a + 0))] [.ref (a + 1), .ref (a + 0)] [z_X4_init_1]
  refine a_putR (pc := 14) (kc := 2) (ks := 41) (tl := shRow 40) (ci := 4) (kds := [0, 0, 2, 2, 2, 2, 0, 0]) (o := 1) X hin fl_RX4_16 (fun _ _ _ h => by cases h; exact ⟨rfl, rfl⟩) rfl (by decide) rfl rfl dX4_init_14 ?_
  have X := x_re X (.inl (4, [0, 0, 3, 2, 2, 2, 0, 0]) :: shRow 40)
  show bW p l e _ s m args below meth c D tc (fun q => a ≤ q) 1 [((.inl (4, [0, 0, 3, 2, 2, 2, 0, 0]) :: shRow 40), fun i => a + i)] 2 41 _ 17 [(0, .ref (a + 0))] [] [z_X4_init_1]
  refine a_aload_n (pc := 17) X 0 dX4_init_17 rfl rfl ?_
  refine a_new (pc := 18) (kc := 2) (ks := 41) (cur := (.inl (4, [0, 0, 3, 2, 2, 2, 0, 0]) :: shRow 40)) X ha (by decide +kernel) nw_RX4_9 dX4_init_18 ⟨Nat.le_of_ble_eq_true rfl, Nat.le_of_ble_eq_true rfl⟩ ?_
  have X := x_re X (.inl (4, [0, 0, 3, 2, 2, 2, 0, 0]) :: (shRow 40 ++ [.inl (3, [2])]))
  show bW p l e _ s m args below meth c D tc (fun q => a ≤ q) 1 [((.inl (4, [0, 0, 3, 2, 2, 2, 0, 0]) :: (shRow 40 ++ [.inl (3, [2])])), fun i => a + i)] 3 42 _ 21 [(0, .ref (a + 0))] [.ref (a + 3), .ref (a + 0)] [z_X4_init_2]
  refine a_dup (pc := 21) X dX4_init_21 rfl ?_
  refine a_bipush (pc := 22) X dX4_init_22 q_bp_40 ?_
  refine a_cinit (pc := 24) (kc := 3) (ks := 42) (cur := (.inl (4, [0, 0, 3, 2, 2, 2, 0, 0]) :: shRow 40)) (k0 := .inl (3, [2])) (v := z_X4_init_2) X ha (by decide +kernel) hNn [.int 40] [.ref (a + 3), .ref (a + 0)] (cn_X3_init (N := 40) (by decide)) ci_RX4_13 (by unfold z_X4_init_2; exact x_zc_z _ _) rfl rfl (Nat.le_of_ble_eq_true rfl) ⟨Nat.le_of_ble_eq_true rfl, Nat.le_of_ble_eq_true rfl⟩ ⟨Nat.le_of_ble_eq_true rfl, Nat.le_of_ble_eq_true rfl⟩ dX4_init_24 ?_
  have X := x_re X (.inl (4, [0, 0, 3, 2, 2, 2, 0, 0]) :: (shRow 40 ++ shRow 40))
  show bW p l e _ s m args below meth c D tc (fun q => a ≤ q) 1 [((.inl (4, [0, 0, 3, 2, 2, 2, 0, 0]) :: (shRow 40 ++ shRow 40)), fun i => a + i)] 4 82 _ 27 [(0, .ref (a + 0))] [.ref (a + 3), .ref (a + 0)] [z_X4_init_3]
  refine a_putR (pc := 27) (kc := 4) (ks := 82) (tl := (shRow 40 ++ shRow 40)) (ci := 4) (kds := [0, 0, 3, 2, 2, 2, 0, 0]) (o := 3) X hin fl_RX4_20 (fun _ _ _ h => by cases h; exact ⟨rfl, rfl⟩) rfl (by decide) rfl rfl dX4_init_27 ?_
  have X := x_re X (.inl (4, [0, 0, 3, 5, 2, 2, 0, 0]) :: (shRow 40 ++ shRow 40))
  show bW p l e _ s m args below meth c D tc (fun q => a ≤ q) 1 [((.inl (4, [0, 0, 3, 5, 2, 2, 0, 0]) :: (shRow 40 ++ shRow 40)), fun i => a + i)] 4 82 _ 30 [(0, .ref (a + 0))] [] [z_X4_init_3]
  refine a_aload_n (pc := 30) X 0 dX4_init_30 rfl rfl ?_
  refine a_new (pc := 31) (kc := 4) (ks := 82) (cur := (.inl (4, [0, 0, 3, 5, 2, 2, 0, 0]) :: (shRow 40 ++ shRow 40))) X ha (by decide +kernel) nw_RX4_9 dX4_init_31 ⟨Nat.le_of_ble_eq_true rfl, Nat.le_of_ble_eq_true rfl⟩ ?_
  have X := x_re X (.inl (4, [0, 0, 3, 5, 2, 2, 0, 0]) :: ((shRow 40 ++ shRow 40) ++ [.inl (3, [2])]))
  show bW p l e _ s m args below meth c D tc (fun q => a ≤ q) 1 [((.inl (4, [0, 0, 3, 5, 2, 2, 0, 0]) :: ((shRow 40 ++ shRow 40) ++ [.inl (3, [2])])), fun i => a + i)] 5 83 _ 34 [(0, .ref (a + 0))] [.ref (a + 5), .ref (a + 0)] [z_X4_init_4]
  refine a_dup (pc := 34) X dX4_init_34 rfl ?_
  refine a_bipush (pc := 35) X dX4_init_35 q_bp_40 ?_
  refine a_cinit (pc := 37) (kc := 5) (ks := 83) (cur := (.inl (4, [0, 0, 3, 5, 2, 2, 0, 0]) :: (shRow 40 ++ shRow 40))) (k0 := .inl (3, [2])) (v := z_X4_init_4) X ha (by decide +kernel) hNn [.int 40] [.ref (a + 5), .ref (a + 0)] (cn_X3_init (N := 40) (by decide)) ci_RX4_13 (by unfold z_X4_init_4; exact x_zc_z _ _) rfl rfl (Nat.le_of_ble_eq_true rfl) ⟨Nat.le_of_ble_eq_true rfl, Nat.le_of_ble_eq_true rfl⟩ ⟨Nat.le_of_ble_eq_true rfl, Nat.le_of_ble_eq_true rfl⟩ dX4_init_37 ?_
  have X := x_re X (.inl (4, [0, 0, 3, 5, 2, 2, 0, 0]) :: ((shRow 40 ++ shRow 40) ++ shRow 40))
  show bW p l e _ s m args below meth c D tc (fun q => a ≤ q) 1 [((.inl (4, [0, 0, 3, 5, 2, 2, 0, 0]) :: ((shRow 40 ++ shRow 40) ++ shRow 40)), fun i => a + i)] 6 123 _ 40 [(0, .ref (a + 0))] [.ref (a + 5), .ref (a + 0)] [z_X4_init_5]
  refine a_putR (pc := 40) (kc := 6) (ks := 123) (tl := ((shRow 40 ++ shRow 40) ++ shRow 40)) (ci := 4) (kds := [0, 0, 3, 5, 2, 2, 0, 0]) (o := 5) X hin fl_RX4_23 (fun _ _ _ h => by cases h; exact ⟨rfl, rfl⟩) rfl (by decide) rfl rfl dX4_init_40 ?_
  have X := x_re X (.inl (4, [0, 0, 3, 5, 7, 2, 0, 0]) :: ((shRow 40 ++ shRow 40) ++ shRow 40))
  show bW p l e _ s m args below meth c D tc (fun q => a ≤ q) 1 [((.inl (4, [0, 0, 3, 5, 7, 2, 0, 0]) :: ((shRow 40 ++ shRow 40) ++ shRow 40)), fun i => a + i)] 6 123 _ 43 [(0, .ref (a + 0))] [] [z_X4_init_5]
  refine a_aload_n (pc := 43) X 0 dX4_init_43 rfl rfl ?_
  refine a_new (pc := 44) (kc := 6) (ks := 123) (cur := (.inl (4, [0, 0, 3, 5, 7, 2, 0, 0]) :: ((shRow 40 ++ shRow 40) ++ shRow 40))) X ha (by decide +kernel) nw_RX4_9 dX4_init_44 ⟨Nat.le_of_ble_eq_true rfl, Nat.le_of_ble_eq_true rfl⟩ ?_
  have X := x_re X (.inl (4, [0, 0, 3, 5, 7, 2, 0, 0]) :: (((shRow 40 ++ shRow 40) ++ shRow 40) ++ [.inl (3, [2])]))
  show bW p l e _ s m args below meth c D tc (fun q => a ≤ q) 1 [((.inl (4, [0, 0, 3, 5, 7, 2, 0, 0]) :: (((shRow 40 ++ shRow 40) ++ shRow 40) ++ [.inl (3, [2])])), fun i => a + i)] 7 124 _ 47 [(0, .ref (a + 0))] [.ref (a + 7), .ref (a + 0)] [z_X4_init_6]
  refine a_dup (pc := 47) X dX4_init_47 rfl ?_
  refine a_bipush (pc := 48) X dX4_init_48 q_bp_40 ?_
  refine a_cinit (pc := 50) (kc := 7) (ks := 124) (cur := (.inl (4, [0, 0, 3, 5, 7, 2, 0, 0]) :: ((shRow 40 ++ shRow 40) ++ shRow 40))) (k0 := .inl (3, [2])) (v := z_X4_init_6) X ha (by decide +kernel) hNn [.int 40] [.ref (a + 7), .ref (a + 0)] (cn_X3_init (N := 40) (by decide)) ci_RX4_13 (by unfold z_X4_init_6; exact x_zc_z _ _) rfl rfl (Nat.le_of_ble_eq_true rfl) ⟨Nat.le_of_ble_eq_true rfl, Nat.le_of_ble_eq_true rfl⟩ ⟨Nat.le_of_ble_eq_true rfl, Nat.le_of_ble_eq_true rfl⟩ dX4_init_50 ?_
  have X := x_re X (.inl (4, [0, 0, 3, 5, 7, 2, 0, 0]) :: (((shRow 40 ++ shRow 40) ++ shRow 40) ++ shRow 40))
  show bW p l e _ s m args below meth c D tc (fun q => a ≤ q) 1 [((.inl (4, [0, 0, 3, 5, 7, 2, 0, 0]) :: (((shRow 40 ++ shRow 40) ++ shRow 40) ++ shRow 40)), fun i => a + i)] 8 164 _ 53 [(0, .ref (a + 0))] [.ref (a + 7), .ref (a + 0)] [z_X4_init_7]
  refine a_putR (pc := 53) (kc := 8) (ks := 164) (tl := (((shRow 40 ++ shRow 40) ++ shRow 40) ++ shRow 40)) (ci := 4) (kds := [0, 0, 3, 5, 7, 2, 0, 0]) (o := 7) X hin fl_RX4_26 (fun _ _ _ h => by cases h; exact ⟨rfl, rfl⟩) rfl (by decide) rfl rfl dX4_init_53 ?_
  have X := x_re X (.inl (4, [0, 0, 3, 5, 7, 9, 0, 0]) :: (((shRow 40 ++ shRow 40) ++ shRow 40) ++ shRow 40))
  show bW p l e _ s m args below meth c D tc (fun q => a ≤ q) 1 [((.inl (4, [0, 0, 3, 5, 7, 9, 0, 0]) :: (((shRow 40 ++ shRow 40) ++ shRow 40) ++ shRow 40)), fun i => a + i)] 8 164 _ 56 [(0, .ref (a + 0))] [] [z_X4_init_7]
  have X := x_re X shSentence
  exact a_vret (pc := 56) X trivial dX4_init_56
theorem ko_RX10 : Cond.methodLink RX10 3 Lib.objectInit ∈ x_TB ∧ Cond.instanceMethod Lib.objectInit ∈ x_TB ∧ Cond.code Lib.objectInit ⟨#[0xb1]⟩ 1 none ∈ x_TB := ⟨(x_tb (x_t1 (List.mem_of_getElem? (i := 156) rfl)) rfl), (x_tb (x_t1 (List.mem_of_getElem? (i := 30) rfl)) rfl), (x_tb (x_t1 (List.mem_of_getElem? (i := 31) rfl)) rfl)⟩
theorem nw_RX10_9 : x_nw RX10 9 9 14 [0, 0, 0, 0, 0, 0, 2, 2, 2, 2, 2, 2, 2, 2] := ⟨RX9, TX9, tyX9, rfl, (x_tb (x_t1 (List.mem_of_getElem? (i := 157) rfl)) rfl), (x_tb (x_t1 (List.mem_of_getElem? (i := 158) rfl)) rfl), (x_tb (x_t1 (List.mem_of_getElem? (i := 9) rfl)) rfl), wsIn9, tyX9_ok, fun j hj => by
  match j, hj with
  | 0, _ => exact Or.inl ⟨rfl, rfl⟩
  | 1, _ => exact Or.inl ⟨rfl, rfl⟩
  | 2, _ => exact Or.inl ⟨rfl, rfl⟩
  | 3, _ => exact Or.inl ⟨rfl, rfl⟩
  | 4, _ => exact Or.inl ⟨rfl, rfl⟩
  | 5, _ => exact Or.inl ⟨rfl, rfl⟩
  | 6, _ => exact Or.inr (Or.inr ⟨rfl, rfl⟩)
  | 7, _ => exact Or.inr (Or.inr ⟨rfl, rfl⟩)
  | 8, _ => exact Or.inr (Or.inr ⟨rfl, rfl⟩)
  | 9, _ => exact Or.inr (Or.inr ⟨rfl, rfl⟩)
  | 10, _ => exact Or.inr (Or.inr ⟨rfl, rfl⟩)
  | 11, _ => exact Or.inr (Or.inr ⟨rfl, rfl⟩)
  | 12, _ => exact Or.inr (Or.inr ⟨rfl, rfl⟩)
  | 13, _ => exact Or.inr (Or.inr ⟨rfl, rfl⟩)
  | j + 14, h => exact absurd h (by omega)⟩
theorem ci_RX10_11 : x_ci RX10 11 yX9_init cX9_init 1 0 := ⟨Or.inr (List.mem_of_getElem? (i := 1) rfl), (x_tb (x_t1 (List.mem_of_getElem? (i := 160) rfl)) rfl), (x_tb (x_t1 (List.mem_of_getElem? (i := 9) rfl)) rfl), (x_tb (x_t1 (List.mem_of_getElem? (i := 161) rfl)) rfl), by decide, by decide, by decide +kernel, rfl⟩
theorem nw_RX10_18 : x_nw RX10 18 5 10 [0, 0, 0, 2, 2, 2, 2, 2, 2, 2] := ⟨RX5, TX5, tyX5, rfl, (x_tb (x_t2 (List.mem_of_getElem? (i := 13) rfl)) rfl), (x_tb (x_t2 (List.mem_of_getElem? (i := 14) rfl)) rfl), (x_tb (x_t1 (List.mem_of_getElem? (i := 10) rfl)) rfl), wsIn5, tyX5_ok, fun j hj => by
  match j, hj with
  | 0, _ => exact Or.inl ⟨rfl, rfl⟩
  | 1, _ => exact Or.inl ⟨rfl, rfl⟩
  | 2, _ => exact Or.inl ⟨rfl, rfl⟩
  | 3, _ => exact Or.inr (Or.inr ⟨rfl, rfl⟩)
  | 4, _ => exact Or.inr (Or.inr ⟨rfl, rfl⟩)
  | 5, _ => exact Or.inr (Or.inr ⟨rfl, rfl⟩)
  | 6, _ => exact Or.inr (Or.inr ⟨rfl, rfl⟩)
  | 7, _ => exact Or.inr (Or.inr ⟨rfl, rfl⟩)
  | 8, _ => exact Or.inr (Or.inr ⟨rfl, rfl⟩)
  | 9, _ => exact Or.inr (Or.inr ⟨rfl, rfl⟩)
  | j + 10, h => exact absurd h (by omega)⟩
theorem ci_RX10_20 : x_ci RX10 20 yX5_init cX5_init 1 0 := ⟨Or.inr (List.mem_of_getElem? (i := 2) rfl), (x_tb (x_t2 (List.mem_of_getElem? (i := 16) rfl)) rfl), (x_tb (x_t1 (List.mem_of_getElem? (i := 10) rfl)) rfl), (x_tb (x_t2 (List.mem_of_getElem? (i := 17) rfl)) rfl), by decide, by decide, by decide +kernel, rfl⟩
theorem nw_RX10_25 : x_nw RX10 25 4 8 [0, 0, 2, 2, 2, 2, 0, 0] := ⟨RX4, TX4, tyX4, rfl, (x_tb (x_t2 (List.mem_of_getElem? (i := 81) rfl)) rfl), (x_tb (x_t2 (List.mem_of_getElem? (i := 82) rfl)) rfl), (x_tb (x_t1 (List.mem_of_getElem? (i := 11) rfl)) rfl), wsIn4, tyX4_ok, fun j hj => by
  match j, hj with
  | 0, _ => exact Or.inl ⟨rfl, rfl⟩
  | 1, _ => exact Or.inl ⟨rfl, rfl⟩
  | 2, _ => exact Or.inr (Or.inr ⟨rfl, rfl⟩)
  | 3, _ => exact Or.inr (Or.inr ⟨rfl, rfl⟩)
  | 4, _ => exact Or.inr (Or.inr ⟨rfl, rfl⟩)
  | 5, _ => exact Or.inr (Or.inr ⟨rfl, rfl⟩)
  | 6, _ => exact Or.inl ⟨rfl, rfl⟩
  | 7, _ => exact Or.inl ⟨rfl, rfl⟩
  | j + 8, h => exact absurd h (by omega)⟩
theorem ci_RX10_27 : x_ci RX10 27 yX4_init cX4_init 1 0 := ⟨Or.inr (List.mem_of_getElem? (i := 3) rfl), (x_tb (x_t2 (List.mem_of_getElem? (i := 84) rfl)) rfl), (x_tb (x_t1 (List.mem_of_getElem? (i := 11) rfl)) rfl), (x_tb (x_t2 (List.mem_of_getElem? (i := 85) rfl)) rfl), by decide, by decide, by decide +kernel, rfl⟩
theorem dX10_init_0 : decode cX10_init 0 = .ok (.aload_n 0, 1) := by decide +kernel
theorem dX10_init_1 : decode cX10_init 1 = .ok (.invokespecial 3, 3) := by decide +kernel
theorem dX10_init_4 : decode cX10_init 4 = .ok (.aload_n 0, 1) := by decide +kernel
theorem dX10_init_5 : decode cX10_init 5 = .ok (.new 9, 3) := by decide +kernel
theorem dX10_init_8 : decode cX10_init 8 = .ok (.dup, 1) := by decide +kernel
theorem dX10_init_9 : decode cX10_init 9 = .ok (.invokespecial 11, 3) := by decide +kernel
theorem dX10_init_12 : decode cX10_init 12 = .ok (.putfield 12, 3) := by decide +kernel
theorem dX10_init_15 : decode cX10_init 15 = .ok (.aload_n 0, 1) := by decide +kernel
theorem dX10_init_16 : decode cX10_init 16 = .ok (.new 18, 3) := by decide +kernel
theorem dX10_init_19 : decode cX10_init 19 = .ok (.dup, 1) := by decide +kernel
theorem dX10_init_20 : decode cX10_init 20 = .ok (.invokespecial 20, 3) := by decide +kernel
theorem dX10_init_23 : decode cX10_init 23 = .ok (.putfield 21, 3) := by decide +kernel
theorem dX10_init_26 : decode cX10_init 26 = .ok (.aload_n 0, 1) := by decide +kernel
theorem dX10_init_27 : decode cX10_init 27 = .ok (.new 25, 3) := by decide +kernel
theorem dX10_init_30 : decode cX10_init 30 = .ok (.dup, 1) := by decide +kernel
theorem dX10_init_31 : decode cX10_init 31 = .ok (.invokespecial 27, 3) := by decide +kernel
theorem dX10_init_34 : decode cX10_init 34 = .ok (.putfield 28, 3) := by decide +kernel
theorem dX10_init_37 : decode cX10_init 37 = .ok (.return_, 1) := by decide +kernel
def z_X10_init_0 : XM := x_zc x_z 1
def z_X10_init_1 : XM := x_app 1 z_X10_init_0 z_X9_init
def z_X10_init_2 : XM := x_zc z_X10_init_1 17
def z_X10_init_3 : XM := x_app 17 z_X10_init_2 z_X5_init
def z_X10_init_4 : XM := x_zc z_X10_init_3 32
def z_X10_init_5 : XM := x_app 32 z_X10_init_4 z_X4_init
abbrev z_X10_init : XM := z_X10_init_5
set_option maxRecDepth 100000 in
set_option maxHeartbeats 4000000 in
theorem cn_X10_init {l : Launch} : CN l yX10_init cX10_init 1 3 40 342 (.inl (10, [2, 2, 2, 0, 0])) shWorldF z_X10_init [] := by
  refine CN_of (by decide) rfl (fun _ => Nat.le_of_ble_eq_true rfl) ?_
  intro p e s m args below meth c D tc aK aV a X ha hNn hin
  have X : Cx p s m args meth c cX10_init 1 none RX10 D tc aK aV (fun q => a ≤ q) [([.inl (10, [2, 2, 2, 0, 0])], fun i => a + i)] := X
  show bW p l e (x_RmN 3 40 342) s m args below meth c D tc (fun q => a ≤ q) 1 [([.inl (10, [2, 2, 2, 0, 0])], fun i => a + i)] 0 0 (MQ below (x_Q none True D tc [(shWorldF, fun i => a + i)] [z_X10_init] (fun q => a ≤ q)) args s 40 342 (fun q => a ≤ q)) 0 [(0, .ref (a + 0))] [] [x_z]
  refine a_aload_n (pc := 0) X 0 dX10_init_0 rfl rfl ?_
  refine a_obj (pc := 1) X ko_RX10 dX10_init_1 (Nat.le_of_ble_eq_true rfl) (Nat.le_of_ble_eq_true rfl) ?_
  refine a_aload_n (pc := 4) X 0 dX10_init_4 rfl rfl ?_
  refine a_new (pc := 5) (kc := 0) (ks := 0) (cur := (.inl (10, [2, 2, 2, 0, 0]) :: [])) X ha (by decide +kernel) nw_RX10_9 dX10_init_5 ⟨Nat.le_of_ble_eq_true rfl, Nat.le_of_ble_eq_true rfl⟩ ?_
  have X := x_re X (.inl (10, [2, 2, 2, 0, 0]) :: [.inl (9, [0, 0, 0, 0, 0, 0, 2, 2, 2, 2, 2, 2, 2, 2])])
  show bW p l e _ s m args below meth c D tc (fun q => a ≤ q) 1 [((.inl (10, [2, 2, 2, 0, 0]) :: [.inl (9, [0, 0, 0, 0, 0, 0, 2, 2, 2, 2, 2, 2, 2, 2])]), fun i => a + i)] 1 14 _ 8 [(0, .ref (a + 0))] [.ref (a + 1), .ref (a + 0)] [z_X10_init_0]
  refine a_dup (pc := 8) X dX10_init_8 rfl ?_
  refine a_cinit (pc := 9) (kc := 1) (ks := 14) (cur := (.inl (10, [2, 2, 2, 0, 0]) :: [])) (k0 := .inl (9, [0, 0, 0, 0, 0, 0, 2, 2, 2, 2, 2, 2, 2, 2])) (v := z_X10_init_0) X ha (by decide +kernel) hNn [] [.ref (a + 1), .ref (a + 0)] cn_X9_init ci_RX10_11 (by unfold z_X10_init_0; exact x_zc_z _ _) rfl rfl (Nat.le_of_ble_eq_true rfl) ⟨Nat.le_of_ble_eq_true rfl, Nat.le_of_ble_eq_true rfl⟩ ⟨Nat.le_of_ble_eq_true rfl, Nat.le_of_ble_eq_true rfl⟩ dX10_init_9 ?_
  have X := x_re X (.inl (10, [2, 2, 2, 0, 0]) :: shValley)
  show bW p l e _ s m args below meth c D tc (fun q => a ≤ q) 1 [((.inl (10, [2, 2, 2, 0, 0]) :: shValley), fun i => a + i)] 16 104 _ 12 [(0, .ref (a + 0))] [.ref (a + 1), .ref (a + 0)] [z_X10_init_1]
  refine a_putR (pc := 12) (kc := 16) (ks := 104) (tl := shValley) (ci := 10) (kds := [2, 2, 2, 0, 0]) (o := 1) X hin fl_RX10_12 (fun _ _ _ h => by cases h; exact ⟨rfl, rfl⟩) rfl (by decide) rfl rfl dX10_init_12 ?_
  have X := x_re X (.inl (10, [3, 2, 2, 0, 0]) :: shValley)
  show bW p l e _ s m args below meth c D tc (fun q => a ≤ q) 1 [((.inl (10, [3, 2, 2, 0, 0]) :: shValley), fun i => a + i)] 16 104 _ 15 [(0, .ref (a + 0))] [] [z_X10_init_1]
  refine a_aload_n (pc := 15) X 0 dX10_init_15 rfl rfl ?_
  refine a_new (pc := 16) (kc := 16) (ks := 104) (cur := (.inl (10, [3, 2, 2, 0, 0]) :: shValley)) X ha (by decide +kernel) nw_RX10_18 dX10_init_16 ⟨Nat.le_of_ble_eq_true rfl, Nat.le_of_ble_eq_true rfl⟩ ?_
  have X := x_re X (.inl (10, [3, 2, 2, 0, 0]) :: (shValley ++ [.inl (5, [0, 0, 0, 2, 2, 2, 2, 2, 2, 2])]))
  show bW p l e _ s m args below meth c D tc (fun q => a ≤ q) 1 [((.inl (10, [3, 2, 2, 0, 0]) :: (shValley ++ [.inl (5, [0, 0, 0, 2, 2, 2, 2, 2, 2, 2])])), fun i => a + i)] 17 114 _ 19 [(0, .ref (a + 0))] [.ref (a + 17), .ref (a + 0)] [z_X10_init_2]
  refine a_dup (pc := 19) X dX10_init_19 rfl ?_
  refine a_cinit (pc := 20) (kc := 17) (ks := 114) (cur := (.inl (10, [3, 2, 2, 0, 0]) :: shValley)) (k0 := .inl (5, [0, 0, 0, 2, 2, 2, 2, 2, 2, 2])) (v := z_X10_init_2) X ha (by decide +kernel) hNn [] [.ref (a + 17), .ref (a + 0)] cn_X5_init ci_RX10_20 (by unfold z_X10_init_2; exact x_zc_z _ _) rfl rfl (Nat.le_of_ble_eq_true rfl) ⟨Nat.le_of_ble_eq_true rfl, Nat.le_of_ble_eq_true rfl⟩ ⟨Nat.le_of_ble_eq_true rfl, Nat.le_of_ble_eq_true rfl⟩ dX10_init_20 ?_
  have X := x_re X (.inl (10, [3, 2, 2, 0, 0]) :: (shValley ++ shState))
  show bW p l e _ s m args below meth c D tc (fun q => a ≤ q) 1 [((.inl (10, [3, 2, 2, 0, 0]) :: (shValley ++ shState)), fun i => a + i)] 31 170 _ 23 [(0, .ref (a + 0))] [.ref (a + 17), .ref (a + 0)] [z_X10_init_3]
  refine a_putR (pc := 23) (kc := 31) (ks := 170) (tl := (shValley ++ shState)) (ci := 10) (kds := [3, 2, 2, 0, 0]) (o := 17) X hin fl_RX10_21 (fun _ _ _ h => by cases h; exact ⟨rfl, rfl⟩) rfl (by decide) rfl rfl dX10_init_23 ?_
  have X := x_re X (.inl (10, [3, 19, 2, 0, 0]) :: (shValley ++ shState))
  show bW p l e _ s m args below meth c D tc (fun q => a ≤ q) 1 [((.inl (10, [3, 19, 2, 0, 0]) :: (shValley ++ shState)), fun i => a + i)] 31 170 _ 26 [(0, .ref (a + 0))] [] [z_X10_init_3]
  refine a_aload_n (pc := 26) X 0 dX10_init_26 rfl rfl ?_
  refine a_new (pc := 27) (kc := 31) (ks := 170) (cur := (.inl (10, [3, 19, 2, 0, 0]) :: (shValley ++ shState))) X ha (by decide +kernel) nw_RX10_25 dX10_init_27 ⟨Nat.le_of_ble_eq_true rfl, Nat.le_of_ble_eq_true rfl⟩ ?_
  have X := x_re X (.inl (10, [3, 19, 2, 0, 0]) :: ((shValley ++ shState) ++ [.inl (4, [0, 0, 2, 2, 2, 2, 0, 0])]))
  show bW p l e _ s m args below meth c D tc (fun q => a ≤ q) 1 [((.inl (10, [3, 19, 2, 0, 0]) :: ((shValley ++ shState) ++ [.inl (4, [0, 0, 2, 2, 2, 2, 0, 0])])), fun i => a + i)] 32 178 _ 30 [(0, .ref (a + 0))] [.ref (a + 32), .ref (a + 0)] [z_X10_init_4]
  refine a_dup (pc := 30) X dX10_init_30 rfl ?_
  refine a_cinit (pc := 31) (kc := 32) (ks := 178) (cur := (.inl (10, [3, 19, 2, 0, 0]) :: (shValley ++ shState))) (k0 := .inl (4, [0, 0, 2, 2, 2, 2, 0, 0])) (v := z_X10_init_4) X ha (by decide +kernel) hNn [] [.ref (a + 32), .ref (a + 0)] cn_X4_init ci_RX10_27 (by unfold z_X10_init_4; exact x_zc_z _ _) rfl rfl (Nat.le_of_ble_eq_true rfl) ⟨Nat.le_of_ble_eq_true rfl, Nat.le_of_ble_eq_true rfl⟩ ⟨Nat.le_of_ble_eq_true rfl, Nat.le_of_ble_eq_true rfl⟩ dX10_init_31 ?_
  have X := x_re X (.inl (10, [3, 19, 2, 0, 0]) :: ((shValley ++ shState) ++ shSentence))
  show bW p l e _ s m args below meth c D tc (fun q => a ≤ q) 1 [((.inl (10, [3, 19, 2, 0, 0]) :: ((shValley ++ shState) ++ shSentence)), fun i => a + i)] 40 342 _ 34 [(0, .ref (a + 0))] [.ref (a + 32), .ref (a + 0)] [z_X10_init_5]
  refine a_putR (pc := 34) (kc := 40) (ks := 342) (tl := ((shValley ++ shState) ++ shSentence)) (ci := 10) (kds := [3, 19, 2, 0, 0]) (o := 32) X hin fl_RX10_28 (fun _ _ _ h => by cases h; exact ⟨rfl, rfl⟩) rfl (by decide) rfl rfl dX10_init_34 ?_
  have X := x_re X (.inl (10, [3, 19, 34, 0, 0]) :: ((shValley ++ shState) ++ shSentence))
  show bW p l e _ s m args below meth c D tc (fun q => a ≤ q) 1 [((.inl (10, [3, 19, 34, 0, 0]) :: ((shValley ++ shState) ++ shSentence)), fun i => a + i)] 40 342 _ 37 [(0, .ref (a + 0))] [] [z_X10_init_5]
  have X := x_re X shWorldF
  exact a_vret (pc := 37) X trivial dX10_init_37
theorem ko_RX6 : Cond.methodLink RX6 3 Lib.objectInit ∈ x_TB ∧ Cond.instanceMethod Lib.objectInit ∈ x_TB ∧ Cond.code Lib.objectInit ⟨#[0xb1]⟩ 1 none ∈ x_TB := ⟨(x_tb (x_t2 (List.mem_of_getElem? (i := 169) rfl)) rfl), (x_tb (x_t1 (List.mem_of_getElem? (i := 30) rfl)) rfl), (x_tb (x_t1 (List.mem_of_getElem? (i := 31) rfl)) rfl)⟩
theorem nw_RX6_9 : x_nw RX6 9 9 14 [0, 0, 0, 0, 0, 0, 2, 2, 2, 2, 2, 2, 2, 2] := ⟨RX9, TX9, tyX9, rfl, (x_tb (x_t2 (List.mem_of_getElem? (i := 170) rfl)) rfl), (x_tb (x_t1 (List.mem_of_getElem? (i := 158) rfl)) rfl), (x_tb (x_t1 (List.mem_of_getElem? (i := 9) rfl)) rfl), wsIn9, tyX9_ok, fun j hj => by
  match j, hj with
  | 0, _ => exact Or.inl ⟨rfl, rfl⟩
  | 1, _ => exact Or.inl ⟨rfl, rfl⟩
  | 2, _ => exact Or.inl ⟨rfl, rfl⟩
  | 3, _ => exact Or.inl ⟨rfl, rfl⟩
  | 4, _ => exact Or.inl ⟨rfl, rfl⟩
  | 5, _ => exact Or.inl ⟨rfl, rfl⟩
  | 6, _ => exact Or.inr (Or.inr ⟨rfl, rfl⟩)
  | 7, _ => exact Or.inr (Or.inr ⟨rfl, rfl⟩)
  | 8, _ => exact Or.inr (Or.inr ⟨rfl, rfl⟩)
  | 9, _ => exact Or.inr (Or.inr ⟨rfl, rfl⟩)
  | 10, _ => exact Or.inr (Or.inr ⟨rfl, rfl⟩)
  | 11, _ => exact Or.inr (Or.inr ⟨rfl, rfl⟩)
  | 12, _ => exact Or.inr (Or.inr ⟨rfl, rfl⟩)
  | 13, _ => exact Or.inr (Or.inr ⟨rfl, rfl⟩)
  | j + 14, h => exact absurd h (by omega)⟩
theorem ci_RX6_11 : x_ci RX6 11 yX9_init cX9_init 1 0 := ⟨Or.inr (List.mem_of_getElem? (i := 7) rfl), (x_tb (x_t1 (List.mem_of_getElem? (i := 160) rfl)) rfl), (x_tb (x_t1 (List.mem_of_getElem? (i := 9) rfl)) rfl), (x_tb (x_t1 (List.mem_of_getElem? (i := 161) rfl)) rfl), by decide, by decide, by decide +kernel, rfl⟩
theorem dX6_init_0 : decode cX6_init 0 = .ok (.aload_n 0, 1) := by decide +kernel
theorem dX6_init_1 : decode cX6_init 1 = .ok (.invokespecial 3, 3) := by decide +kernel
theorem dX6_init_4 : decode cX6_init 4 = .ok (.aload_n 0, 1) := by decide +kernel
theorem dX6_init_5 : decode cX6_init 5 = .ok (.new 9, 3) := by decide +kernel
theorem dX6_init_8 : decode cX6_init 8 = .ok (.dup, 1) := by decide +kernel
theorem dX6_init_9 : decode cX6_init 9 = .ok (.invokespecial 11, 3) := by decide +kernel
theorem dX6_init_12 : decode cX6_init 12 = .ok (.putfield 12, 3) := by decide +kernel
theorem dX6_init_15 : decode cX6_init 15 = .ok (.return_, 1) := by decide +kernel
def z_X6_init_0 : XM := x_zc x_z 1
def z_X6_init_1 : XM := x_app 1 z_X6_init_0 z_X9_init
abbrev z_X6_init : XM := z_X6_init_1
set_option maxRecDepth 100000 in
set_option maxHeartbeats 4000000 in
theorem cn_X6_init {l : Launch} : CN l yX6_init cX6_init 1 3 16 104 (.inl (6, [2, 0])) shSurveyor z_X6_init [] := by
  refine CN_of (by decide) rfl (fun _ => Nat.le_of_ble_eq_true rfl) ?_
  intro p e s m args below meth c D tc aK aV a X ha hNn hin
  have X : Cx p s m args meth c cX6_init 1 none RX6 D tc aK aV (fun q => a ≤ q) [([.inl (6, [2, 0])], fun i => a + i)] := X
  show bW p l e (x_RmN 3 16 104) s m args below meth c D tc (fun q => a ≤ q) 1 [([.inl (6, [2, 0])], fun i => a + i)] 0 0 (MQ below (x_Q none True D tc [(shSurveyor, fun i => a + i)] [z_X6_init] (fun q => a ≤ q)) args s 16 104 (fun q => a ≤ q)) 0 [(0, .ref (a + 0))] [] [x_z]
  refine a_aload_n (pc := 0) X 0 dX6_init_0 rfl rfl ?_
  refine a_obj (pc := 1) X ko_RX6 dX6_init_1 (Nat.le_of_ble_eq_true rfl) (Nat.le_of_ble_eq_true rfl) ?_
  refine a_aload_n (pc := 4) X 0 dX6_init_4 rfl rfl ?_
  refine a_new (pc := 5) (kc := 0) (ks := 0) (cur := (.inl (6, [2, 0]) :: [])) X ha (by decide +kernel) nw_RX6_9 dX6_init_5 ⟨Nat.le_of_ble_eq_true rfl, Nat.le_of_ble_eq_true rfl⟩ ?_
  have X := x_re X (.inl (6, [2, 0]) :: [.inl (9, [0, 0, 0, 0, 0, 0, 2, 2, 2, 2, 2, 2, 2, 2])])
  show bW p l e _ s m args below meth c D tc (fun q => a ≤ q) 1 [((.inl (6, [2, 0]) :: [.inl (9, [0, 0, 0, 0, 0, 0, 2, 2, 2, 2, 2, 2, 2, 2])]), fun i => a + i)] 1 14 _ 8 [(0, .ref (a + 0))] [.ref (a + 1), .ref (a + 0)] [z_X6_init_0]
  refine a_dup (pc := 8) X dX6_init_8 rfl ?_
  refine a_cinit (pc := 9) (kc := 1) (ks := 14) (cur := (.inl (6, [2, 0]) :: [])) (k0 := .inl (9, [0, 0, 0, 0, 0, 0, 2, 2, 2, 2, 2, 2, 2, 2])) (v := z_X6_init_0) X ha (by decide +kernel) hNn [] [.ref (a + 1), .ref (a + 0)] cn_X9_init ci_RX6_11 (by unfold z_X6_init_0; exact x_zc_z _ _) rfl rfl (Nat.le_of_ble_eq_true rfl) ⟨Nat.le_of_ble_eq_true rfl, Nat.le_of_ble_eq_true rfl⟩ ⟨Nat.le_of_ble_eq_true rfl, Nat.le_of_ble_eq_true rfl⟩ dX6_init_9 ?_
  have X := x_re X (.inl (6, [2, 0]) :: shValley)
  show bW p l e _ s m args below meth c D tc (fun q => a ≤ q) 1 [((.inl (6, [2, 0]) :: shValley), fun i => a + i)] 16 104 _ 12 [(0, .ref (a + 0))] [.ref (a + 1), .ref (a + 0)] [z_X6_init_1]
  refine a_putR (pc := 12) (kc := 16) (ks := 104) (tl := shValley) (ci := 6) (kds := [2, 0]) (o := 1) X hin fl_RX6_12 (fun _ _ _ h => by cases h; exact ⟨rfl, rfl⟩) rfl (by decide) rfl rfl dX6_init_12 ?_
  have X := x_re X (.inl (6, [3, 0]) :: shValley)
  show bW p l e _ s m args below meth c D tc (fun q => a ≤ q) 1 [((.inl (6, [3, 0]) :: shValley), fun i => a + i)] 16 104 _ 15 [(0, .ref (a + 0))] [] [z_X6_init_1]
  have X := x_re X shSurveyor
  exact a_vret (pc := 15) X trivial dX6_init_15
theorem ko_RX0 : Cond.methodLink RX0 3 Lib.objectInit ∈ x_TB ∧ Cond.instanceMethod Lib.objectInit ∈ x_TB ∧ Cond.code Lib.objectInit ⟨#[0xb1]⟩ 1 none ∈ x_TB := ⟨(x_tb (x_t2 (List.mem_of_getElem? (i := 185) rfl)) rfl), (x_tb (x_t1 (List.mem_of_getElem? (i := 30) rfl)) rfl), (x_tb (x_t1 (List.mem_of_getElem? (i := 31) rfl)) rfl)⟩
theorem nw_RX0_9 : x_nw RX0 9 3 1 [2] := ⟨RX3, TX3, tyX3, rfl, (x_tb (x_t2 (List.mem_of_getElem? (i := 186) rfl)) rfl), (x_tb (x_t1 (List.mem_of_getElem? (i := 39) rfl)) rfl), (x_tb (x_t1 (List.mem_of_getElem? (i := 3) rfl)) rfl), wsIn3, tyX3_ok, fun j hj => by
  match j, hj with
  | 0, _ => exact Or.inr (Or.inr ⟨rfl, rfl⟩)
  | j + 1, h => exact absurd h (by omega)⟩
theorem ci_RX0_11 : x_ci RX0 11 yX3_init cX3_init 2 1 := ⟨Or.inl (x_tb (x_t2 (List.mem_of_getElem? (i := 187) rfl)) rfl), (x_tb (x_t1 (List.mem_of_getElem? (i := 41) rfl)) rfl), (x_tb (x_t1 (List.mem_of_getElem? (i := 3) rfl)) rfl), (x_tb (x_t1 (List.mem_of_getElem? (i := 42) rfl)) rfl), by decide, by decide, by decide +kernel, rfl⟩
theorem dX0_init_0 : decode cX0_init 0 = .ok (.aload_n 0, 1) := by decide +kernel
theorem dX0_init_1 : decode cX0_init 1 = .ok (.invokespecial 3, 3) := by decide +kernel
theorem dX0_init_4 : decode cX0_init 4 = .ok (.aload_n 0, 1) := by decide +kernel
theorem dX0_init_5 : decode cX0_init 5 = .ok (.new 9, 3) := by decide +kernel
theorem dX0_init_8 : decode cX0_init 8 = .ok (.dup, 1) := by decide +kernel
theorem dX0_init_9 : decode cX0_init 9 = .ok (.bipush 40, 2) := by decide +kernel
theorem dX0_init_11 : decode cX0_init 11 = .ok (.invokespecial 11, 3) := by decide +kernel
theorem dX0_init_14 : decode cX0_init 14 = .ok (.putfield 14, 3) := by decide +kernel
theorem dX0_init_17 : decode cX0_init 17 = .ok (.aload_n 0, 1) := by decide +kernel
theorem dX0_init_18 : decode cX0_init 18 = .ok (.new 9, 3) := by decide +kernel
theorem dX0_init_21 : decode cX0_init 21 = .ok (.dup, 1) := by decide +kernel
theorem dX0_init_22 : decode cX0_init 22 = .ok (.bipush 40, 2) := by decide +kernel
theorem dX0_init_24 : decode cX0_init 24 = .ok (.invokespecial 11, 3) := by decide +kernel
theorem dX0_init_27 : decode cX0_init 27 = .ok (.putfield 20, 3) := by decide +kernel
theorem dX0_init_30 : decode cX0_init 30 = .ok (.aload_n 0, 1) := by decide +kernel
theorem dX0_init_31 : decode cX0_init 31 = .ok (.new 9, 3) := by decide +kernel
theorem dX0_init_34 : decode cX0_init 34 = .ok (.dup, 1) := by decide +kernel
theorem dX0_init_35 : decode cX0_init 35 = .ok (.bipush 40, 2) := by decide +kernel
theorem dX0_init_37 : decode cX0_init 37 = .ok (.invokespecial 11, 3) := by decide +kernel
theorem dX0_init_40 : decode cX0_init 40 = .ok (.putfield 23, 3) := by decide +kernel
theorem dX0_init_43 : decode cX0_init 43 = .ok (.aload_n 0, 1) := by decide +kernel
theorem dX0_init_44 : decode cX0_init 44 = .ok (.new 9, 3) := by decide +kernel
theorem dX0_init_47 : decode cX0_init 47 = .ok (.dup, 1) := by decide +kernel
theorem dX0_init_48 : decode cX0_init 48 = .ok (.bipush 40, 2) := by decide +kernel
theorem dX0_init_50 : decode cX0_init 50 = .ok (.invokespecial 11, 3) := by decide +kernel
theorem dX0_init_53 : decode cX0_init 53 = .ok (.putfield 26, 3) := by decide +kernel
theorem dX0_init_56 : decode cX0_init 56 = .ok (.return_, 1) := by decide +kernel
def z_X0_init_0 : XM := x_zc x_z 1
def z_X0_init_1 : XM := x_app 1 z_X0_init_0 z_Row
def z_X0_init_2 : XM := x_zc z_X0_init_1 3
def z_X0_init_3 : XM := x_app 3 z_X0_init_2 z_Row
def z_X0_init_4 : XM := x_zc z_X0_init_3 5
def z_X0_init_5 : XM := x_app 5 z_X0_init_4 z_Row
def z_X0_init_6 : XM := x_zc z_X0_init_5 7
def z_X0_init_7 : XM := x_app 7 z_X0_init_6 z_Row
abbrev z_X0_init : XM := z_X0_init_7
set_option maxRecDepth 100000 in
set_option maxHeartbeats 4000000 in
theorem cn_X0_init {l : Launch} : CN l yX0_init cX0_init 1 2 8 164 (.inl (0, [2, 2, 2, 2, 0, 0, 0, 0, 0, 0])) shBook z_X0_init [] := by
  refine CN_of (by decide) rfl (fun _ => Nat.le_of_ble_eq_true rfl) ?_
  intro p e s m args below meth c D tc aK aV a X ha hNn hin
  have X : Cx p s m args meth c cX0_init 1 none RX0 D tc aK aV (fun q => a ≤ q) [([.inl (0, [2, 2, 2, 2, 0, 0, 0, 0, 0, 0])], fun i => a + i)] := X
  show bW p l e (x_RmN 2 8 164) s m args below meth c D tc (fun q => a ≤ q) 1 [([.inl (0, [2, 2, 2, 2, 0, 0, 0, 0, 0, 0])], fun i => a + i)] 0 0 (MQ below (x_Q none True D tc [(shBook, fun i => a + i)] [z_X0_init] (fun q => a ≤ q)) args s 8 164 (fun q => a ≤ q)) 0 [(0, .ref (a + 0))] [] [x_z]
  refine a_aload_n (pc := 0) X 0 dX0_init_0 rfl rfl ?_
  refine a_obj (pc := 1) X ko_RX0 dX0_init_1 (Nat.le_of_ble_eq_true rfl) (Nat.le_of_ble_eq_true rfl) ?_
  refine a_aload_n (pc := 4) X 0 dX0_init_4 rfl rfl ?_
  refine a_new (pc := 5) (kc := 0) (ks := 0) (cur := (.inl (0, [2, 2, 2, 2, 0, 0, 0, 0, 0, 0]) :: [])) X ha (by decide +kernel) nw_RX0_9 dX0_init_5 ⟨Nat.le_of_ble_eq_true rfl, Nat.le_of_ble_eq_true rfl⟩ ?_
  have X := x_re X (.inl (0, [2, 2, 2, 2, 0, 0, 0, 0, 0, 0]) :: [.inl (3, [2])])
  show bW p l e _ s m args below meth c D tc (fun q => a ≤ q) 1 [((.inl (0, [2, 2, 2, 2, 0, 0, 0, 0, 0, 0]) :: [.inl (3, [2])]), fun i => a + i)] 1 1 _ 8 [(0, .ref (a + 0))] [.ref (a + 1), .ref (a + 0)] [z_X0_init_0]
  refine a_dup (pc := 8) X dX0_init_8 rfl ?_
  refine a_bipush (pc := 9) X dX0_init_9 q_bp_40 ?_
  refine a_cinit (pc := 11) (kc := 1) (ks := 1) (cur := (.inl (0, [2, 2, 2, 2, 0, 0, 0, 0, 0, 0]) :: [])) (k0 := .inl (3, [2])) (v := z_X0_init_0) X ha (by decide +kernel) hNn [.int 40] [.ref (a + 1), .ref (a + 0)] (cn_X3_init (N := 40) (by decide)) ci_RX0_11 (by unfold z_X0_init_0; exact x_zc_z _ _) rfl rfl (Nat.le_of_ble_eq_true rfl) ⟨Nat.le_of_ble_eq_true rfl, Nat.le_of_ble_eq_true rfl⟩ ⟨Nat.le_of_ble_eq_true rfl, Nat.le_of_ble_eq_true rfl⟩ dX0_init_11 ?_
  have X := x_re X (.inl (0, [2, 2, 2, 2, 0, 0, 0, 0, 0, 0]) :: shRow 40)
  show bW p l e _ s m args below meth c D tc (fun q => a ≤ q) 1 [((.inl (0, [2, 2, 2, 2, 0, 0, 0, 0, 0, 0]) :: shRow 40), fun i => a + i)] 2 41 _ 14 [(0, .ref (a + 0))] [.ref (a + 1), .ref (a + 0)] [z_X0_init_1]
  refine a_putR (pc := 14) (kc := 2) (ks := 41) (tl := shRow 40) (ci := 0) (kds := [2, 2, 2, 2, 0, 0, 0, 0, 0, 0]) (o := 1) X hin fl_RX0_14 (fun _ _ _ h => by cases h; exact ⟨rfl, rfl⟩) rfl (by decide) rfl rfl dX0_init_14 ?_
  have X := x_re X (.inl (0, [3, 2, 2, 2, 0, 0, 0, 0, 0, 0]) :: shRow 40)
  show bW p l e _ s m args below meth c D tc (fun q => a ≤ q) 1 [((.inl (0, [3, 2, 2, 2, 0, 0, 0, 0, 0, 0]) :: shRow 40), fun i => a + i)] 2 41 _ 17 [(0, .ref (a + 0))] [] [z_X0_init_1]
  refine a_aload_n (pc := 17) X 0 dX0_init_17 rfl rfl ?_
  refine a_new (pc := 18) (kc := 2) (ks := 41) (cur := (.inl (0, [3, 2, 2, 2, 0, 0, 0, 0, 0, 0]) :: shRow 40)) X ha (by decide +kernel) nw_RX0_9 dX0_init_18 ⟨Nat.le_of_ble_eq_true rfl, Nat.le_of_ble_eq_true rfl⟩ ?_
  have X := x_re X (.inl (0, [3, 2, 2, 2, 0, 0, 0, 0, 0, 0]) :: (shRow 40 ++ [.inl (3, [2])]))
  show bW p l e _ s m args below meth c D tc (fun q => a ≤ q) 1 [((.inl (0, [3, 2, 2, 2, 0, 0, 0, 0, 0, 0]) :: (shRow 40 ++ [.inl (3, [2])])), fun i => a + i)] 3 42 _ 21 [(0, .ref (a + 0))] [.ref (a + 3), .ref (a + 0)] [z_X0_init_2]
  refine a_dup (pc := 21) X dX0_init_21 rfl ?_
  refine a_bipush (pc := 22) X dX0_init_22 q_bp_40 ?_
  refine a_cinit (pc := 24) (kc := 3) (ks := 42) (cur := (.inl (0, [3, 2, 2, 2, 0, 0, 0, 0, 0, 0]) :: shRow 40)) (k0 := .inl (3, [2])) (v := z_X0_init_2) X ha (by decide +kernel) hNn [.int 40] [.ref (a + 3), .ref (a + 0)] (cn_X3_init (N := 40) (by decide)) ci_RX0_11 (by unfold z_X0_init_2; exact x_zc_z _ _) rfl rfl (Nat.le_of_ble_eq_true rfl) ⟨Nat.le_of_ble_eq_true rfl, Nat.le_of_ble_eq_true rfl⟩ ⟨Nat.le_of_ble_eq_true rfl, Nat.le_of_ble_eq_true rfl⟩ dX0_init_24 ?_
  have X := x_re X (.inl (0, [3, 2, 2, 2, 0, 0, 0, 0, 0, 0]) :: (shRow 40 ++ shRow 40))
  show bW p l e _ s m args below meth c D tc (fun q => a ≤ q) 1 [((.inl (0, [3, 2, 2, 2, 0, 0, 0, 0, 0, 0]) :: (shRow 40 ++ shRow 40)), fun i => a + i)] 4 82 _ 27 [(0, .ref (a + 0))] [.ref (a + 3), .ref (a + 0)] [z_X0_init_3]
  refine a_putR (pc := 27) (kc := 4) (ks := 82) (tl := (shRow 40 ++ shRow 40)) (ci := 0) (kds := [3, 2, 2, 2, 0, 0, 0, 0, 0, 0]) (o := 3) X hin fl_RX0_20 (fun _ _ _ h => by cases h; exact ⟨rfl, rfl⟩) rfl (by decide) rfl rfl dX0_init_27 ?_
  have X := x_re X (.inl (0, [3, 5, 2, 2, 0, 0, 0, 0, 0, 0]) :: (shRow 40 ++ shRow 40))
  show bW p l e _ s m args below meth c D tc (fun q => a ≤ q) 1 [((.inl (0, [3, 5, 2, 2, 0, 0, 0, 0, 0, 0]) :: (shRow 40 ++ shRow 40)), fun i => a + i)] 4 82 _ 30 [(0, .ref (a + 0))] [] [z_X0_init_3]
  refine a_aload_n (pc := 30) X 0 dX0_init_30 rfl rfl ?_
  refine a_new (pc := 31) (kc := 4) (ks := 82) (cur := (.inl (0, [3, 5, 2, 2, 0, 0, 0, 0, 0, 0]) :: (shRow 40 ++ shRow 40))) X ha (by decide +kernel) nw_RX0_9 dX0_init_31 ⟨Nat.le_of_ble_eq_true rfl, Nat.le_of_ble_eq_true rfl⟩ ?_
  have X := x_re X (.inl (0, [3, 5, 2, 2, 0, 0, 0, 0, 0, 0]) :: ((shRow 40 ++ shRow 40) ++ [.inl (3, [2])]))
  show bW p l e _ s m args below meth c D tc (fun q => a ≤ q) 1 [((.inl (0, [3, 5, 2, 2, 0, 0, 0, 0, 0, 0]) :: ((shRow 40 ++ shRow 40) ++ [.inl (3, [2])])), fun i => a + i)] 5 83 _ 34 [(0, .ref (a + 0))] [.ref (a + 5), .ref (a + 0)] [z_X0_init_4]
  refine a_dup (pc := 34) X dX0_init_34 rfl ?_
  refine a_bipush (pc := 35) X dX0_init_35 q_bp_40 ?_
  refine a_cinit (pc := 37) (kc := 5) (ks := 83) (cur := (.inl (0, [3, 5, 2, 2, 0, 0, 0, 0, 0, 0]) :: (shRow 40 ++ shRow 40))) (k0 := .inl (3, [2])) (v := z_X0_init_4) X ha (by decide +kernel) hNn [.int 40] [.ref (a + 5), .ref (a + 0)] (cn_X3_init (N := 40) (by decide)) ci_RX0_11 (by unfold z_X0_init_4; exact x_zc_z _ _) rfl rfl (Nat.le_of_ble_eq_true rfl) ⟨Nat.le_of_ble_eq_true rfl, Nat.le_of_ble_eq_true rfl⟩ ⟨Nat.le_of_ble_eq_true rfl, Nat.le_of_ble_eq_true rfl⟩ dX0_init_37 ?_
  have X := x_re X (.inl (0, [3, 5, 2, 2, 0, 0, 0, 0, 0, 0]) :: ((shRow 40 ++ shRow 40) ++ shRow 40))
  show bW p l e _ s m args below meth c D tc (fun q => a ≤ q) 1 [((.inl (0, [3, 5, 2, 2, 0, 0, 0, 0, 0, 0]) :: ((shRow 40 ++ shRow 40) ++ shRow 40)), fun i => a + i)] 6 123 _ 40 [(0, .ref (a + 0))] [.ref (a + 5), .ref (a + 0)] [z_X0_init_5]
  refine a_putR (pc := 40) (kc := 6) (ks := 123) (tl := ((shRow 40 ++ shRow 40) ++ shRow 40)) (ci := 0) (kds := [3, 5, 2, 2, 0, 0, 0, 0, 0, 0]) (o := 5) X hin fl_RX0_23 (fun _ _ _ h => by cases h; exact ⟨rfl, rfl⟩) rfl (by decide) rfl rfl dX0_init_40 ?_
  have X := x_re X (.inl (0, [3, 5, 7, 2, 0, 0, 0, 0, 0, 0]) :: ((shRow 40 ++ shRow 40) ++ shRow 40))
  show bW p l e _ s m args below meth c D tc (fun q => a ≤ q) 1 [((.inl (0, [3, 5, 7, 2, 0, 0, 0, 0, 0, 0]) :: ((shRow 40 ++ shRow 40) ++ shRow 40)), fun i => a + i)] 6 123 _ 43 [(0, .ref (a + 0))] [] [z_X0_init_5]
  refine a_aload_n (pc := 43) X 0 dX0_init_43 rfl rfl ?_
  refine a_new (pc := 44) (kc := 6) (ks := 123) (cur := (.inl (0, [3, 5, 7, 2, 0, 0, 0, 0, 0, 0]) :: ((shRow 40 ++ shRow 40) ++ shRow 40))) X ha (by decide +kernel) nw_RX0_9 dX0_init_44 ⟨Nat.le_of_ble_eq_true rfl, Nat.le_of_ble_eq_true rfl⟩ ?_
  have X := x_re X (.inl (0, [3, 5, 7, 2, 0, 0, 0, 0, 0, 0]) :: (((shRow 40 ++ shRow 40) ++ shRow 40) ++ [.inl (3, [2])]))
  show bW p l e _ s m args below meth c D tc (fun q => a ≤ q) 1 [((.inl (0, [3, 5, 7, 2, 0, 0, 0, 0, 0, 0]) :: (((shRow 40 ++ shRow 40) ++ shRow 40) ++ [.inl (3, [2])])), fun i => a + i)] 7 124 _ 47 [(0, .ref (a + 0))] [.ref (a + 7), .ref (a + 0)] [z_X0_init_6]
  refine a_dup (pc := 47) X dX0_init_47 rfl ?_
  refine a_bipush (pc := 48) X dX0_init_48 q_bp_40 ?_
  refine a_cinit (pc := 50) (kc := 7) (ks := 124) (cur := (.inl (0, [3, 5, 7, 2, 0, 0, 0, 0, 0, 0]) :: ((shRow 40 ++ shRow 40) ++ shRow 40))) (k0 := .inl (3, [2])) (v := z_X0_init_6) X ha (by decide +kernel) hNn [.int 40] [.ref (a + 7), .ref (a + 0)] (cn_X3_init (N := 40) (by decide)) ci_RX0_11 (by unfold z_X0_init_6; exact x_zc_z _ _) rfl rfl (Nat.le_of_ble_eq_true rfl) ⟨Nat.le_of_ble_eq_true rfl, Nat.le_of_ble_eq_true rfl⟩ ⟨Nat.le_of_ble_eq_true rfl, Nat.le_of_ble_eq_true rfl⟩ dX0_init_50 ?_
  have X := x_re X (.inl (0, [3, 5, 7, 2, 0, 0, 0, 0, 0, 0]) :: (((shRow 40 ++ shRow 40) ++ shRow 40) ++ shRow 40))
  show bW p l e _ s m args below meth c D tc (fun q => a ≤ q) 1 [((.inl (0, [3, 5, 7, 2, 0, 0, 0, 0, 0, 0]) :: (((shRow 40 ++ shRow 40) ++ shRow 40) ++ shRow 40)), fun i => a + i)] 8 164 _ 53 [(0, .ref (a + 0))] [.ref (a + 7), .ref (a + 0)] [z_X0_init_7]
  refine a_putR (pc := 53) (kc := 8) (ks := 164) (tl := (((shRow 40 ++ shRow 40) ++ shRow 40) ++ shRow 40)) (ci := 0) (kds := [3, 5, 7, 2, 0, 0, 0, 0, 0, 0]) (o := 7) X hin fl_RX0_26 (fun _ _ _ h => by cases h; exact ⟨rfl, rfl⟩) rfl (by decide) rfl rfl dX0_init_53 ?_
  have X := x_re X (.inl (0, [3, 5, 7, 9, 0, 0, 0, 0, 0, 0]) :: (((shRow 40 ++ shRow 40) ++ shRow 40) ++ shRow 40))
  show bW p l e _ s m args below meth c D tc (fun q => a ≤ q) 1 [((.inl (0, [3, 5, 7, 9, 0, 0, 0, 0, 0, 0]) :: (((shRow 40 ++ shRow 40) ++ shRow 40) ++ shRow 40)), fun i => a + i)] 8 164 _ 56 [(0, .ref (a + 0))] [] [z_X0_init_7]
  have X := x_re X shBook
  exact a_vret (pc := 56) X trivial dX0_init_56
theorem ko_RX2 : Cond.methodLink RX2 3 Lib.objectInit ∈ x_TB ∧ Cond.instanceMethod Lib.objectInit ∈ x_TB ∧ Cond.code Lib.objectInit ⟨#[0xb1]⟩ 1 none ∈ x_TB := ⟨(x_tb (x_t2 (List.mem_of_getElem? (i := 231) rfl)) rfl), (x_tb (x_t1 (List.mem_of_getElem? (i := 30) rfl)) rfl), (x_tb (x_t1 (List.mem_of_getElem? (i := 31) rfl)) rfl)⟩
theorem nw_RX2_9 : x_nw RX2 9 3 1 [2] := ⟨RX3, TX3, tyX3, rfl, (x_tb (x_t2 (List.mem_of_getElem? (i := 232) rfl)) rfl), (x_tb (x_t1 (List.mem_of_getElem? (i := 39) rfl)) rfl), (x_tb (x_t1 (List.mem_of_getElem? (i := 3) rfl)) rfl), wsIn3, tyX3_ok, fun j hj => by
  match j, hj with
  | 0, _ => exact Or.inr (Or.inr ⟨rfl, rfl⟩)
  | j + 1, h => exact absurd h (by omega)⟩
theorem ci_RX2_11 : x_ci RX2 11 yX3_init cX3_init 2 1 := ⟨Or.inl (x_tb (x_t2 (List.mem_of_getElem? (i := 233) rfl)) rfl), (x_tb (x_t1 (List.mem_of_getElem? (i := 41) rfl)) rfl), (x_tb (x_t1 (List.mem_of_getElem? (i := 3) rfl)) rfl), (x_tb (x_t1 (List.mem_of_getElem? (i := 42) rfl)) rfl), by decide, by decide, by decide +kernel, rfl⟩
theorem dX2_init_0 : decode cX2_init 0 = .ok (.aload_n 0, 1) := by decide +kernel
theorem dX2_init_1 : decode cX2_init 1 = .ok (.invokespecial 3, 3) := by decide +kernel
theorem dX2_init_4 : decode cX2_init 4 = .ok (.aload_n 0, 1) := by decide +kernel
theorem dX2_init_5 : decode cX2_init 5 = .ok (.new 9, 3) := by decide +kernel
theorem dX2_init_8 : decode cX2_init 8 = .ok (.dup, 1) := by decide +kernel
theorem dX2_init_9 : decode cX2_init 9 = .ok (.bipush 8, 2) := by decide +kernel
theorem dX2_init_11 : decode cX2_init 11 = .ok (.invokespecial 11, 3) := by decide +kernel
theorem dX2_init_14 : decode cX2_init 14 = .ok (.putfield 14, 3) := by decide +kernel
theorem dX2_init_17 : decode cX2_init 17 = .ok (.aload_n 0, 1) := by decide +kernel
theorem dX2_init_18 : decode cX2_init 18 = .ok (.new 9, 3) := by decide +kernel
theorem dX2_init_21 : decode cX2_init 21 = .ok (.dup, 1) := by decide +kernel
theorem dX2_init_22 : decode cX2_init 22 = .ok (.bipush 8, 2) := by decide +kernel
theorem dX2_init_24 : decode cX2_init 24 = .ok (.invokespecial 11, 3) := by decide +kernel
theorem dX2_init_27 : decode cX2_init 27 = .ok (.putfield 20, 3) := by decide +kernel
theorem dX2_init_30 : decode cX2_init 30 = .ok (.aload_n 0, 1) := by decide +kernel
theorem dX2_init_31 : decode cX2_init 31 = .ok (.new 9, 3) := by decide +kernel
theorem dX2_init_34 : decode cX2_init 34 = .ok (.dup, 1) := by decide +kernel
theorem dX2_init_35 : decode cX2_init 35 = .ok (.bipush 64, 2) := by decide +kernel
theorem dX2_init_37 : decode cX2_init 37 = .ok (.invokespecial 11, 3) := by decide +kernel
theorem dX2_init_40 : decode cX2_init 40 = .ok (.putfield 23, 3) := by decide +kernel
theorem dX2_init_43 : decode cX2_init 43 = .ok (.aload_n 0, 1) := by decide +kernel
theorem dX2_init_44 : decode cX2_init 44 = .ok (.new 9, 3) := by decide +kernel
theorem dX2_init_47 : decode cX2_init 47 = .ok (.dup, 1) := by decide +kernel
theorem dX2_init_48 : decode cX2_init 48 = .ok (.sipush 512, 3) := by decide +kernel
theorem dX2_init_51 : decode cX2_init 51 = .ok (.invokespecial 11, 3) := by decide +kernel
theorem dX2_init_54 : decode cX2_init 54 = .ok (.putfield 26, 3) := by decide +kernel
theorem dX2_init_57 : decode cX2_init 57 = .ok (.aload_n 0, 1) := by decide +kernel
theorem dX2_init_58 : decode cX2_init 58 = .ok (.new 9, 3) := by decide +kernel
theorem dX2_init_61 : decode cX2_init 61 = .ok (.dup, 1) := by decide +kernel
theorem dX2_init_62 : decode cX2_init 62 = .ok (.bipush 8, 2) := by decide +kernel
theorem dX2_init_64 : decode cX2_init 64 = .ok (.invokespecial 11, 3) := by decide +kernel
theorem dX2_init_67 : decode cX2_init 67 = .ok (.putfield 29, 3) := by decide +kernel
theorem dX2_init_70 : decode cX2_init 70 = .ok (.aload_n 0, 1) := by decide +kernel
theorem dX2_init_71 : decode cX2_init 71 = .ok (.new 9, 3) := by decide +kernel
theorem dX2_init_74 : decode cX2_init 74 = .ok (.dup, 1) := by decide +kernel
theorem dX2_init_75 : decode cX2_init 75 = .ok (.bipush 8, 2) := by decide +kernel
theorem dX2_init_77 : decode cX2_init 77 = .ok (.invokespecial 11, 3) := by decide +kernel
theorem dX2_init_80 : decode cX2_init 80 = .ok (.putfield 32, 3) := by decide +kernel
theorem dX2_init_83 : decode cX2_init 83 = .ok (.aload_n 0, 1) := by decide +kernel
theorem dX2_init_84 : decode cX2_init 84 = .ok (.new 9, 3) := by decide +kernel
theorem dX2_init_87 : decode cX2_init 87 = .ok (.dup, 1) := by decide +kernel
theorem dX2_init_88 : decode cX2_init 88 = .ok (.bipush 6, 2) := by decide +kernel
theorem dX2_init_90 : decode cX2_init 90 = .ok (.invokespecial 11, 3) := by decide +kernel
theorem dX2_init_93 : decode cX2_init 93 = .ok (.putfield 35, 3) := by decide +kernel
theorem dX2_init_96 : decode cX2_init 96 = .ok (.aload_n 0, 1) := by decide +kernel
theorem dX2_init_97 : decode cX2_init 97 = .ok (.iconst (-1), 1) := by decide +kernel
theorem dX2_init_98 : decode cX2_init 98 = .ok (.putfield 38, 3) := by decide +kernel
theorem dX2_init_101 : decode cX2_init 101 = .ok (.aload_n 0, 1) := by decide +kernel
theorem dX2_init_102 : decode cX2_init 102 = .ok (.iconst (-1), 1) := by decide +kernel
theorem dX2_init_103 : decode cX2_init 103 = .ok (.putfield 42, 3) := by decide +kernel
theorem dX2_init_106 : decode cX2_init 106 = .ok (.aload_n 0, 1) := by decide +kernel
theorem dX2_init_107 : decode cX2_init 107 = .ok (.iconst (-1), 1) := by decide +kernel
theorem dX2_init_108 : decode cX2_init 108 = .ok (.putfield 45, 3) := by decide +kernel
theorem dX2_init_111 : decode cX2_init 111 = .ok (.return_, 1) := by decide +kernel
def z_X2_init_0 : XM := x_zc x_z 1
def z_X2_init_1 : XM := x_app 1 z_X2_init_0 z_Row
def z_X2_init_2 : XM := x_zc z_X2_init_1 3
def z_X2_init_3 : XM := x_app 3 z_X2_init_2 z_Row
def z_X2_init_4 : XM := x_zc z_X2_init_3 5
def z_X2_init_5 : XM := x_app 5 z_X2_init_4 z_Row
def z_X2_init_6 : XM := x_zc z_X2_init_5 7
def z_X2_init_7 : XM := x_app 7 z_X2_init_6 z_Row
def z_X2_init_8 : XM := x_zc z_X2_init_7 9
def z_X2_init_9 : XM := x_app 9 z_X2_init_8 z_Row
def z_X2_init_10 : XM := x_zc z_X2_init_9 11
def z_X2_init_11 : XM := x_app 11 z_X2_init_10 z_Row
def z_X2_init_12 : XM := x_zc z_X2_init_11 13
def z_X2_init_13 : XM := x_app 13 z_X2_init_12 z_Row
def z_X2_init_14 : XM := x_si z_X2_init_13 0 9 (-1)
def z_X2_init_15 : XM := x_si z_X2_init_14 0 10 (-1)
def z_X2_init_16 : XM := x_si z_X2_init_15 0 11 (-1)
abbrev z_X2_init : XM := z_X2_init_16
set_option maxRecDepth 100000 in
set_option maxHeartbeats 4000000 in
theorem cn_X2_init {l : Launch} : CN l yX2_init cX2_init 1 2 14 621 (.inl (2, [2, 2, 2, 2, 2, 2, 0, 2, 0, 0, 0, 0])) shRoads z_X2_init [] := by
  refine CN_of (by decide) rfl (fun _ => Nat.le_of_ble_eq_true rfl) ?_
  intro p e s m args below meth c D tc aK aV a X ha hNn hin
  have X : Cx p s m args meth c cX2_init 1 none RX2 D tc aK aV (fun q => a ≤ q) [([.inl (2, [2, 2, 2, 2, 2, 2, 0, 2, 0, 0, 0, 0])], fun i => a + i)] := X
  show bW p l e (x_RmN 2 14 621) s m args below meth c D tc (fun q => a ≤ q) 1 [([.inl (2, [2, 2, 2, 2, 2, 2, 0, 2, 0, 0, 0, 0])], fun i => a + i)] 0 0 (MQ below (x_Q none True D tc [(shRoads, fun i => a + i)] [z_X2_init] (fun q => a ≤ q)) args s 14 621 (fun q => a ≤ q)) 0 [(0, .ref (a + 0))] [] [x_z]
  refine a_aload_n (pc := 0) X 0 dX2_init_0 rfl rfl ?_
  refine a_obj (pc := 1) X ko_RX2 dX2_init_1 (Nat.le_of_ble_eq_true rfl) (Nat.le_of_ble_eq_true rfl) ?_
  refine a_aload_n (pc := 4) X 0 dX2_init_4 rfl rfl ?_
  refine a_new (pc := 5) (kc := 0) (ks := 0) (cur := (.inl (2, [2, 2, 2, 2, 2, 2, 0, 2, 0, 0, 0, 0]) :: [])) X ha (by decide +kernel) nw_RX2_9 dX2_init_5 ⟨Nat.le_of_ble_eq_true rfl, Nat.le_of_ble_eq_true rfl⟩ ?_
  have X := x_re X (.inl (2, [2, 2, 2, 2, 2, 2, 0, 2, 0, 0, 0, 0]) :: [.inl (3, [2])])
  show bW p l e _ s m args below meth c D tc (fun q => a ≤ q) 1 [((.inl (2, [2, 2, 2, 2, 2, 2, 0, 2, 0, 0, 0, 0]) :: [.inl (3, [2])]), fun i => a + i)] 1 1 _ 8 [(0, .ref (a + 0))] [.ref (a + 1), .ref (a + 0)] [z_X2_init_0]
  refine a_dup (pc := 8) X dX2_init_8 rfl ?_
  refine a_bipush (pc := 9) X dX2_init_9 q_bp_8 ?_
  refine a_cinit (pc := 11) (kc := 1) (ks := 1) (cur := (.inl (2, [2, 2, 2, 2, 2, 2, 0, 2, 0, 0, 0, 0]) :: [])) (k0 := .inl (3, [2])) (v := z_X2_init_0) X ha (by decide +kernel) hNn [.int 8] [.ref (a + 1), .ref (a + 0)] (cn_X3_init (N := 8) (by decide)) ci_RX2_11 (by unfold z_X2_init_0; exact x_zc_z _ _) rfl rfl (Nat.le_of_ble_eq_true rfl) ⟨Nat.le_of_ble_eq_true rfl, Nat.le_of_ble_eq_true rfl⟩ ⟨Nat.le_of_ble_eq_true rfl, Nat.le_of_ble_eq_true rfl⟩ dX2_init_11 ?_
  have X := x_re X (.inl (2, [2, 2, 2, 2, 2, 2, 0, 2, 0, 0, 0, 0]) :: shRow 8)
  show bW p l e _ s m args below meth c D tc (fun q => a ≤ q) 1 [((.inl (2, [2, 2, 2, 2, 2, 2, 0, 2, 0, 0, 0, 0]) :: shRow 8), fun i => a + i)] 2 9 _ 14 [(0, .ref (a + 0))] [.ref (a + 1), .ref (a + 0)] [z_X2_init_1]
  refine a_putR (pc := 14) (kc := 2) (ks := 9) (tl := shRow 8) (ci := 2) (kds := [2, 2, 2, 2, 2, 2, 0, 2, 0, 0, 0, 0]) (o := 1) X hin fl_RX2_14 (fun _ _ _ h => by cases h; exact ⟨rfl, rfl⟩) rfl (by decide) rfl rfl dX2_init_14 ?_
  have X := x_re X (.inl (2, [3, 2, 2, 2, 2, 2, 0, 2, 0, 0, 0, 0]) :: shRow 8)
  show bW p l e _ s m args below meth c D tc (fun q => a ≤ q) 1 [((.inl (2, [3, 2, 2, 2, 2, 2, 0, 2, 0, 0, 0, 0]) :: shRow 8), fun i => a + i)] 2 9 _ 17 [(0, .ref (a + 0))] [] [z_X2_init_1]
  refine a_aload_n (pc := 17) X 0 dX2_init_17 rfl rfl ?_
  refine a_new (pc := 18) (kc := 2) (ks := 9) (cur := (.inl (2, [3, 2, 2, 2, 2, 2, 0, 2, 0, 0, 0, 0]) :: shRow 8)) X ha (by decide +kernel) nw_RX2_9 dX2_init_18 ⟨Nat.le_of_ble_eq_true rfl, Nat.le_of_ble_eq_true rfl⟩ ?_
  have X := x_re X (.inl (2, [3, 2, 2, 2, 2, 2, 0, 2, 0, 0, 0, 0]) :: (shRow 8 ++ [.inl (3, [2])]))
  show bW p l e _ s m args below meth c D tc (fun q => a ≤ q) 1 [((.inl (2, [3, 2, 2, 2, 2, 2, 0, 2, 0, 0, 0, 0]) :: (shRow 8 ++ [.inl (3, [2])])), fun i => a + i)] 3 10 _ 21 [(0, .ref (a + 0))] [.ref (a + 3), .ref (a + 0)] [z_X2_init_2]
  refine a_dup (pc := 21) X dX2_init_21 rfl ?_
  refine a_bipush (pc := 22) X dX2_init_22 q_bp_8 ?_
  refine a_cinit (pc := 24) (kc := 3) (ks := 10) (cur := (.inl (2, [3, 2, 2, 2, 2, 2, 0, 2, 0, 0, 0, 0]) :: shRow 8)) (k0 := .inl (3, [2])) (v := z_X2_init_2) X ha (by decide +kernel) hNn [.int 8] [.ref (a + 3), .ref (a + 0)] (cn_X3_init (N := 8) (by decide)) ci_RX2_11 (by unfold z_X2_init_2; exact x_zc_z _ _) rfl rfl (Nat.le_of_ble_eq_true rfl) ⟨Nat.le_of_ble_eq_true rfl, Nat.le_of_ble_eq_true rfl⟩ ⟨Nat.le_of_ble_eq_true rfl, Nat.le_of_ble_eq_true rfl⟩ dX2_init_24 ?_
  have X := x_re X (.inl (2, [3, 2, 2, 2, 2, 2, 0, 2, 0, 0, 0, 0]) :: (shRow 8 ++ shRow 8))
  show bW p l e _ s m args below meth c D tc (fun q => a ≤ q) 1 [((.inl (2, [3, 2, 2, 2, 2, 2, 0, 2, 0, 0, 0, 0]) :: (shRow 8 ++ shRow 8)), fun i => a + i)] 4 18 _ 27 [(0, .ref (a + 0))] [.ref (a + 3), .ref (a + 0)] [z_X2_init_3]
  refine a_putR (pc := 27) (kc := 4) (ks := 18) (tl := (shRow 8 ++ shRow 8)) (ci := 2) (kds := [3, 2, 2, 2, 2, 2, 0, 2, 0, 0, 0, 0]) (o := 3) X hin fl_RX2_20 (fun _ _ _ h => by cases h; exact ⟨rfl, rfl⟩) rfl (by decide) rfl rfl dX2_init_27 ?_
  have X := x_re X (.inl (2, [3, 5, 2, 2, 2, 2, 0, 2, 0, 0, 0, 0]) :: (shRow 8 ++ shRow 8))
  show bW p l e _ s m args below meth c D tc (fun q => a ≤ q) 1 [((.inl (2, [3, 5, 2, 2, 2, 2, 0, 2, 0, 0, 0, 0]) :: (shRow 8 ++ shRow 8)), fun i => a + i)] 4 18 _ 30 [(0, .ref (a + 0))] [] [z_X2_init_3]
  refine a_aload_n (pc := 30) X 0 dX2_init_30 rfl rfl ?_
  refine a_new (pc := 31) (kc := 4) (ks := 18) (cur := (.inl (2, [3, 5, 2, 2, 2, 2, 0, 2, 0, 0, 0, 0]) :: (shRow 8 ++ shRow 8))) X ha (by decide +kernel) nw_RX2_9 dX2_init_31 ⟨Nat.le_of_ble_eq_true rfl, Nat.le_of_ble_eq_true rfl⟩ ?_
  have X := x_re X (.inl (2, [3, 5, 2, 2, 2, 2, 0, 2, 0, 0, 0, 0]) :: ((shRow 8 ++ shRow 8) ++ [.inl (3, [2])]))
  show bW p l e _ s m args below meth c D tc (fun q => a ≤ q) 1 [((.inl (2, [3, 5, 2, 2, 2, 2, 0, 2, 0, 0, 0, 0]) :: ((shRow 8 ++ shRow 8) ++ [.inl (3, [2])])), fun i => a + i)] 5 19 _ 34 [(0, .ref (a + 0))] [.ref (a + 5), .ref (a + 0)] [z_X2_init_4]
  refine a_dup (pc := 34) X dX2_init_34 rfl ?_
  refine a_bipush (pc := 35) X dX2_init_35 q_bp_64 ?_
  refine a_cinit (pc := 37) (kc := 5) (ks := 19) (cur := (.inl (2, [3, 5, 2, 2, 2, 2, 0, 2, 0, 0, 0, 0]) :: (shRow 8 ++ shRow 8))) (k0 := .inl (3, [2])) (v := z_X2_init_4) X ha (by decide +kernel) hNn [.int 64] [.ref (a + 5), .ref (a + 0)] (cn_X3_init (N := 64) (by decide)) ci_RX2_11 (by unfold z_X2_init_4; exact x_zc_z _ _) rfl rfl (Nat.le_of_ble_eq_true rfl) ⟨Nat.le_of_ble_eq_true rfl, Nat.le_of_ble_eq_true rfl⟩ ⟨Nat.le_of_ble_eq_true rfl, Nat.le_of_ble_eq_true rfl⟩ dX2_init_37 ?_
  have X := x_re X (.inl (2, [3, 5, 2, 2, 2, 2, 0, 2, 0, 0, 0, 0]) :: ((shRow 8 ++ shRow 8) ++ shRow 64))
  show bW p l e _ s m args below meth c D tc (fun q => a ≤ q) 1 [((.inl (2, [3, 5, 2, 2, 2, 2, 0, 2, 0, 0, 0, 0]) :: ((shRow 8 ++ shRow 8) ++ shRow 64)), fun i => a + i)] 6 83 _ 40 [(0, .ref (a + 0))] [.ref (a + 5), .ref (a + 0)] [z_X2_init_5]
  refine a_putR (pc := 40) (kc := 6) (ks := 83) (tl := ((shRow 8 ++ shRow 8) ++ shRow 64)) (ci := 2) (kds := [3, 5, 2, 2, 2, 2, 0, 2, 0, 0, 0, 0]) (o := 5) X hin fl_RX2_23 (fun _ _ _ h => by cases h; exact ⟨rfl, rfl⟩) rfl (by decide) rfl rfl dX2_init_40 ?_
  have X := x_re X (.inl (2, [3, 5, 7, 2, 2, 2, 0, 2, 0, 0, 0, 0]) :: ((shRow 8 ++ shRow 8) ++ shRow 64))
  show bW p l e _ s m args below meth c D tc (fun q => a ≤ q) 1 [((.inl (2, [3, 5, 7, 2, 2, 2, 0, 2, 0, 0, 0, 0]) :: ((shRow 8 ++ shRow 8) ++ shRow 64)), fun i => a + i)] 6 83 _ 43 [(0, .ref (a + 0))] [] [z_X2_init_5]
  refine a_aload_n (pc := 43) X 0 dX2_init_43 rfl rfl ?_
  refine a_new (pc := 44) (kc := 6) (ks := 83) (cur := (.inl (2, [3, 5, 7, 2, 2, 2, 0, 2, 0, 0, 0, 0]) :: ((shRow 8 ++ shRow 8) ++ shRow 64))) X ha (by decide +kernel) nw_RX2_9 dX2_init_44 ⟨Nat.le_of_ble_eq_true rfl, Nat.le_of_ble_eq_true rfl⟩ ?_
  have X := x_re X (.inl (2, [3, 5, 7, 2, 2, 2, 0, 2, 0, 0, 0, 0]) :: (((shRow 8 ++ shRow 8) ++ shRow 64) ++ [.inl (3, [2])]))
  show bW p l e _ s m args below meth c D tc (fun q => a ≤ q) 1 [((.inl (2, [3, 5, 7, 2, 2, 2, 0, 2, 0, 0, 0, 0]) :: (((shRow 8 ++ shRow 8) ++ shRow 64) ++ [.inl (3, [2])])), fun i => a + i)] 7 84 _ 47 [(0, .ref (a + 0))] [.ref (a + 7), .ref (a + 0)] [z_X2_init_6]
  refine a_dup (pc := 47) X dX2_init_47 rfl ?_
  refine a_sipush (pc := 48) X dX2_init_48 q_sp_512 ?_
  refine a_cinit (pc := 51) (kc := 7) (ks := 84) (cur := (.inl (2, [3, 5, 7, 2, 2, 2, 0, 2, 0, 0, 0, 0]) :: ((shRow 8 ++ shRow 8) ++ shRow 64))) (k0 := .inl (3, [2])) (v := z_X2_init_6) X ha (by decide +kernel) hNn [.int 512] [.ref (a + 7), .ref (a + 0)] (cn_X3_init (N := 512) (by decide)) ci_RX2_11 (by unfold z_X2_init_6; exact x_zc_z _ _) rfl rfl (Nat.le_of_ble_eq_true rfl) ⟨Nat.le_of_ble_eq_true rfl, Nat.le_of_ble_eq_true rfl⟩ ⟨Nat.le_of_ble_eq_true rfl, Nat.le_of_ble_eq_true rfl⟩ dX2_init_51 ?_
  have X := x_re X (.inl (2, [3, 5, 7, 2, 2, 2, 0, 2, 0, 0, 0, 0]) :: (((shRow 8 ++ shRow 8) ++ shRow 64) ++ shRow 512))
  show bW p l e _ s m args below meth c D tc (fun q => a ≤ q) 1 [((.inl (2, [3, 5, 7, 2, 2, 2, 0, 2, 0, 0, 0, 0]) :: (((shRow 8 ++ shRow 8) ++ shRow 64) ++ shRow 512)), fun i => a + i)] 8 596 _ 54 [(0, .ref (a + 0))] [.ref (a + 7), .ref (a + 0)] [z_X2_init_7]
  refine a_putR (pc := 54) (kc := 8) (ks := 596) (tl := (((shRow 8 ++ shRow 8) ++ shRow 64) ++ shRow 512)) (ci := 2) (kds := [3, 5, 7, 2, 2, 2, 0, 2, 0, 0, 0, 0]) (o := 7) X hin fl_RX2_26 (fun _ _ _ h => by cases h; exact ⟨rfl, rfl⟩) rfl (by decide) rfl rfl dX2_init_54 ?_
  have X := x_re X (.inl (2, [3, 5, 7, 9, 2, 2, 0, 2, 0, 0, 0, 0]) :: (((shRow 8 ++ shRow 8) ++ shRow 64) ++ shRow 512))
  show bW p l e _ s m args below meth c D tc (fun q => a ≤ q) 1 [((.inl (2, [3, 5, 7, 9, 2, 2, 0, 2, 0, 0, 0, 0]) :: (((shRow 8 ++ shRow 8) ++ shRow 64) ++ shRow 512)), fun i => a + i)] 8 596 _ 57 [(0, .ref (a + 0))] [] [z_X2_init_7]
  refine a_aload_n (pc := 57) X 0 dX2_init_57 rfl rfl ?_
  refine a_new (pc := 58) (kc := 8) (ks := 596) (cur := (.inl (2, [3, 5, 7, 9, 2, 2, 0, 2, 0, 0, 0, 0]) :: (((shRow 8 ++ shRow 8) ++ shRow 64) ++ shRow 512))) X ha (by decide +kernel) nw_RX2_9 dX2_init_58 ⟨Nat.le_of_ble_eq_true rfl, Nat.le_of_ble_eq_true rfl⟩ ?_
  have X := x_re X (.inl (2, [3, 5, 7, 9, 2, 2, 0, 2, 0, 0, 0, 0]) :: ((((shRow 8 ++ shRow 8) ++ shRow 64) ++ shRow 512) ++ [.inl (3, [2])]))
  show bW p l e _ s m args below meth c D tc (fun q => a ≤ q) 1 [((.inl (2, [3, 5, 7, 9, 2, 2, 0, 2, 0, 0, 0, 0]) :: ((((shRow 8 ++ shRow 8) ++ shRow 64) ++ shRow 512) ++ [.inl (3, [2])])), fun i => a + i)] 9 597 _ 61 [(0, .ref (a + 0))] [.ref (a + 9), .ref (a + 0)] [z_X2_init_8]
  refine a_dup (pc := 61) X dX2_init_61 rfl ?_
  refine a_bipush (pc := 62) X dX2_init_62 q_bp_8 ?_
  refine a_cinit (pc := 64) (kc := 9) (ks := 597) (cur := (.inl (2, [3, 5, 7, 9, 2, 2, 0, 2, 0, 0, 0, 0]) :: (((shRow 8 ++ shRow 8) ++ shRow 64) ++ shRow 512))) (k0 := .inl (3, [2])) (v := z_X2_init_8) X ha (by decide +kernel) hNn [.int 8] [.ref (a + 9), .ref (a + 0)] (cn_X3_init (N := 8) (by decide)) ci_RX2_11 (by unfold z_X2_init_8; exact x_zc_z _ _) rfl rfl (Nat.le_of_ble_eq_true rfl) ⟨Nat.le_of_ble_eq_true rfl, Nat.le_of_ble_eq_true rfl⟩ ⟨Nat.le_of_ble_eq_true rfl, Nat.le_of_ble_eq_true rfl⟩ dX2_init_64 ?_
  have X := x_re X (.inl (2, [3, 5, 7, 9, 2, 2, 0, 2, 0, 0, 0, 0]) :: ((((shRow 8 ++ shRow 8) ++ shRow 64) ++ shRow 512) ++ shRow 8))
  show bW p l e _ s m args below meth c D tc (fun q => a ≤ q) 1 [((.inl (2, [3, 5, 7, 9, 2, 2, 0, 2, 0, 0, 0, 0]) :: ((((shRow 8 ++ shRow 8) ++ shRow 64) ++ shRow 512) ++ shRow 8)), fun i => a + i)] 10 605 _ 67 [(0, .ref (a + 0))] [.ref (a + 9), .ref (a + 0)] [z_X2_init_9]
  refine a_putR (pc := 67) (kc := 10) (ks := 605) (tl := ((((shRow 8 ++ shRow 8) ++ shRow 64) ++ shRow 512) ++ shRow 8)) (ci := 2) (kds := [3, 5, 7, 9, 2, 2, 0, 2, 0, 0, 0, 0]) (o := 9) X hin fl_RX2_29 (fun _ _ _ h => by cases h; exact ⟨rfl, rfl⟩) rfl (by decide) rfl rfl dX2_init_67 ?_
  have X := x_re X (.inl (2, [3, 5, 7, 9, 11, 2, 0, 2, 0, 0, 0, 0]) :: ((((shRow 8 ++ shRow 8) ++ shRow 64) ++ shRow 512) ++ shRow 8))
  show bW p l e _ s m args below meth c D tc (fun q => a ≤ q) 1 [((.inl (2, [3, 5, 7, 9, 11, 2, 0, 2, 0, 0, 0, 0]) :: ((((shRow 8 ++ shRow 8) ++ shRow 64) ++ shRow 512) ++ shRow 8)), fun i => a + i)] 10 605 _ 70 [(0, .ref (a + 0))] [] [z_X2_init_9]
  refine a_aload_n (pc := 70) X 0 dX2_init_70 rfl rfl ?_
  refine a_new (pc := 71) (kc := 10) (ks := 605) (cur := (.inl (2, [3, 5, 7, 9, 11, 2, 0, 2, 0, 0, 0, 0]) :: ((((shRow 8 ++ shRow 8) ++ shRow 64) ++ shRow 512) ++ shRow 8))) X ha (by decide +kernel) nw_RX2_9 dX2_init_71 ⟨Nat.le_of_ble_eq_true rfl, Nat.le_of_ble_eq_true rfl⟩ ?_
  have X := x_re X (.inl (2, [3, 5, 7, 9, 11, 2, 0, 2, 0, 0, 0, 0]) :: (((((shRow 8 ++ shRow 8) ++ shRow 64) ++ shRow 512) ++ shRow 8) ++ [.inl (3, [2])]))
  show bW p l e _ s m args below meth c D tc (fun q => a ≤ q) 1 [((.inl (2, [3, 5, 7, 9, 11, 2, 0, 2, 0, 0, 0, 0]) :: (((((shRow 8 ++ shRow 8) ++ shRow 64) ++ shRow 512) ++ shRow 8) ++ [.inl (3, [2])])), fun i => a + i)] 11 606 _ 74 [(0, .ref (a + 0))] [.ref (a + 11), .ref (a + 0)] [z_X2_init_10]
  refine a_dup (pc := 74) X dX2_init_74 rfl ?_
  refine a_bipush (pc := 75) X dX2_init_75 q_bp_8 ?_
  refine a_cinit (pc := 77) (kc := 11) (ks := 606) (cur := (.inl (2, [3, 5, 7, 9, 11, 2, 0, 2, 0, 0, 0, 0]) :: ((((shRow 8 ++ shRow 8) ++ shRow 64) ++ shRow 512) ++ shRow 8))) (k0 := .inl (3, [2])) (v := z_X2_init_10) X ha (by decide +kernel) hNn [.int 8] [.ref (a + 11), .ref (a + 0)] (cn_X3_init (N := 8) (by decide)) ci_RX2_11 (by unfold z_X2_init_10; exact x_zc_z _ _) rfl rfl (Nat.le_of_ble_eq_true rfl) ⟨Nat.le_of_ble_eq_true rfl, Nat.le_of_ble_eq_true rfl⟩ ⟨Nat.le_of_ble_eq_true rfl, Nat.le_of_ble_eq_true rfl⟩ dX2_init_77 ?_
  have X := x_re X (.inl (2, [3, 5, 7, 9, 11, 2, 0, 2, 0, 0, 0, 0]) :: (((((shRow 8 ++ shRow 8) ++ shRow 64) ++ shRow 512) ++ shRow 8) ++ shRow 8))
  show bW p l e _ s m args below meth c D tc (fun q => a ≤ q) 1 [((.inl (2, [3, 5, 7, 9, 11, 2, 0, 2, 0, 0, 0, 0]) :: (((((shRow 8 ++ shRow 8) ++ shRow 64) ++ shRow 512) ++ shRow 8) ++ shRow 8)), fun i => a + i)] 12 614 _ 80 [(0, .ref (a + 0))] [.ref (a + 11), .ref (a + 0)] [z_X2_init_11]
  refine a_putR (pc := 80) (kc := 12) (ks := 614) (tl := (((((shRow 8 ++ shRow 8) ++ shRow 64) ++ shRow 512) ++ shRow 8) ++ shRow 8)) (ci := 2) (kds := [3, 5, 7, 9, 11, 2, 0, 2, 0, 0, 0, 0]) (o := 11) X hin fl_RX2_32 (fun _ _ _ h => by cases h; exact ⟨rfl, rfl⟩) rfl (by decide) rfl rfl dX2_init_80 ?_
  have X := x_re X (.inl (2, [3, 5, 7, 9, 11, 13, 0, 2, 0, 0, 0, 0]) :: (((((shRow 8 ++ shRow 8) ++ shRow 64) ++ shRow 512) ++ shRow 8) ++ shRow 8))
  show bW p l e _ s m args below meth c D tc (fun q => a ≤ q) 1 [((.inl (2, [3, 5, 7, 9, 11, 13, 0, 2, 0, 0, 0, 0]) :: (((((shRow 8 ++ shRow 8) ++ shRow 64) ++ shRow 512) ++ shRow 8) ++ shRow 8)), fun i => a + i)] 12 614 _ 83 [(0, .ref (a + 0))] [] [z_X2_init_11]
  refine a_aload_n (pc := 83) X 0 dX2_init_83 rfl rfl ?_
  refine a_new (pc := 84) (kc := 12) (ks := 614) (cur := (.inl (2, [3, 5, 7, 9, 11, 13, 0, 2, 0, 0, 0, 0]) :: (((((shRow 8 ++ shRow 8) ++ shRow 64) ++ shRow 512) ++ shRow 8) ++ shRow 8))) X ha (by decide +kernel) nw_RX2_9 dX2_init_84 ⟨Nat.le_of_ble_eq_true rfl, Nat.le_of_ble_eq_true rfl⟩ ?_
  have X := x_re X (.inl (2, [3, 5, 7, 9, 11, 13, 0, 2, 0, 0, 0, 0]) :: ((((((shRow 8 ++ shRow 8) ++ shRow 64) ++ shRow 512) ++ shRow 8) ++ shRow 8) ++ [.inl (3, [2])]))
  show bW p l e _ s m args below meth c D tc (fun q => a ≤ q) 1 [((.inl (2, [3, 5, 7, 9, 11, 13, 0, 2, 0, 0, 0, 0]) :: ((((((shRow 8 ++ shRow 8) ++ shRow 64) ++ shRow 512) ++ shRow 8) ++ shRow 8) ++ [.inl (3, [2])])), fun i => a + i)] 13 615 _ 87 [(0, .ref (a + 0))] [.ref (a + 13), .ref (a + 0)] [z_X2_init_12]
  refine a_dup (pc := 87) X dX2_init_87 rfl ?_
  refine a_bipush (pc := 88) X dX2_init_88 q_bp_6 ?_
  refine a_cinit (pc := 90) (kc := 13) (ks := 615) (cur := (.inl (2, [3, 5, 7, 9, 11, 13, 0, 2, 0, 0, 0, 0]) :: (((((shRow 8 ++ shRow 8) ++ shRow 64) ++ shRow 512) ++ shRow 8) ++ shRow 8))) (k0 := .inl (3, [2])) (v := z_X2_init_12) X ha (by decide +kernel) hNn [.int 6] [.ref (a + 13), .ref (a + 0)] (cn_X3_init (N := 6) (by decide)) ci_RX2_11 (by unfold z_X2_init_12; exact x_zc_z _ _) rfl rfl (Nat.le_of_ble_eq_true rfl) ⟨Nat.le_of_ble_eq_true rfl, Nat.le_of_ble_eq_true rfl⟩ ⟨Nat.le_of_ble_eq_true rfl, Nat.le_of_ble_eq_true rfl⟩ dX2_init_90 ?_
  have X := x_re X (.inl (2, [3, 5, 7, 9, 11, 13, 0, 2, 0, 0, 0, 0]) :: ((((((shRow 8 ++ shRow 8) ++ shRow 64) ++ shRow 512) ++ shRow 8) ++ shRow 8) ++ shRow 6))
  show bW p l e _ s m args below meth c D tc (fun q => a ≤ q) 1 [((.inl (2, [3, 5, 7, 9, 11, 13, 0, 2, 0, 0, 0, 0]) :: ((((((shRow 8 ++ shRow 8) ++ shRow 64) ++ shRow 512) ++ shRow 8) ++ shRow 8) ++ shRow 6)), fun i => a + i)] 14 621 _ 93 [(0, .ref (a + 0))] [.ref (a + 13), .ref (a + 0)] [z_X2_init_13]
  refine a_putR (pc := 93) (kc := 14) (ks := 621) (tl := ((((((shRow 8 ++ shRow 8) ++ shRow 64) ++ shRow 512) ++ shRow 8) ++ shRow 8) ++ shRow 6)) (ci := 2) (kds := [3, 5, 7, 9, 11, 13, 0, 2, 0, 0, 0, 0]) (o := 13) X hin fl_RX2_35 (fun _ _ _ h => by cases h; exact ⟨rfl, rfl⟩) rfl (by decide) rfl rfl dX2_init_93 ?_
  have X := x_re X (.inl (2, [3, 5, 7, 9, 11, 13, 0, 15, 0, 0, 0, 0]) :: ((((((shRow 8 ++ shRow 8) ++ shRow 64) ++ shRow 512) ++ shRow 8) ++ shRow 8) ++ shRow 6))
  show bW p l e _ s m args below meth c D tc (fun q => a ≤ q) 1 [((.inl (2, [3, 5, 7, 9, 11, 13, 0, 15, 0, 0, 0, 0]) :: ((((((shRow 8 ++ shRow 8) ++ shRow 64) ++ shRow 512) ++ shRow 8) ++ shRow 8) ++ shRow 6)), fun i => a + i)] 14 621 _ 96 [(0, .ref (a + 0))] [] [z_X2_init_13]
  refine a_aload_n (pc := 96) X 0 dX2_init_96 rfl rfl ?_
  refine a_iconst (pc := 97) X dX2_init_97 q_ic_m1 ?_
  refine a_putI (pc := 98) (id := 0) (sh := (.inl (2, [3, 5, 7, 9, 11, 13, 0, 15, 0, 0, 0, 0]) :: ((((((shRow 8 ++ shRow 8) ++ shRow 64) ++ shRow 512) ++ shRow 8) ++ shRow 8) ++ shRow 6))) (ad := fun i => a + i) X 0 fl_RX2_38 rfl rfl rfl rfl dX2_init_98 ?_
  show bW p l e _ s m args below meth c D tc (fun q => a ≤ q) 1 [((.inl (2, [3, 5, 7, 9, 11, 13, 0, 15, 0, 0, 0, 0]) :: ((((((shRow 8 ++ shRow 8) ++ shRow 64) ++ shRow 512) ++ shRow 8) ++ shRow 8) ++ shRow 6)), fun i => a + i)] 14 621 _ 101 [(0, .ref (a + 0))] [] [z_X2_init_14]
  refine a_aload_n (pc := 101) X 0 dX2_init_101 rfl rfl ?_
  refine a_iconst (pc := 102) X dX2_init_102 q_ic_m1 ?_
  refine a_putI (pc := 103) (id := 0) (sh := (.inl (2, [3, 5, 7, 9, 11, 13, 0, 15, 0, 0, 0, 0]) :: ((((((shRow 8 ++ shRow 8) ++ shRow 64) ++ shRow 512) ++ shRow 8) ++ shRow 8) ++ shRow 6))) (ad := fun i => a + i) X 0 fl_RX2_42 rfl rfl rfl rfl dX2_init_103 ?_
  show bW p l e _ s m args below meth c D tc (fun q => a ≤ q) 1 [((.inl (2, [3, 5, 7, 9, 11, 13, 0, 15, 0, 0, 0, 0]) :: ((((((shRow 8 ++ shRow 8) ++ shRow 64) ++ shRow 512) ++ shRow 8) ++ shRow 8) ++ shRow 6)), fun i => a + i)] 14 621 _ 106 [(0, .ref (a + 0))] [] [z_X2_init_15]
  refine a_aload_n (pc := 106) X 0 dX2_init_106 rfl rfl ?_
  refine a_iconst (pc := 107) X dX2_init_107 q_ic_m1 ?_
  refine a_putI (pc := 108) (id := 0) (sh := (.inl (2, [3, 5, 7, 9, 11, 13, 0, 15, 0, 0, 0, 0]) :: ((((((shRow 8 ++ shRow 8) ++ shRow 64) ++ shRow 512) ++ shRow 8) ++ shRow 8) ++ shRow 6))) (ad := fun i => a + i) X 0 fl_RX2_45 rfl rfl rfl rfl dX2_init_108 ?_
  show bW p l e _ s m args below meth c D tc (fun q => a ≤ q) 1 [((.inl (2, [3, 5, 7, 9, 11, 13, 0, 15, 0, 0, 0, 0]) :: ((((((shRow 8 ++ shRow 8) ++ shRow 64) ++ shRow 512) ++ shRow 8) ++ shRow 8) ++ shRow 6)), fun i => a + i)] 14 621 _ 111 [(0, .ref (a + 0))] [] [z_X2_init_16]
  have X := x_re X shRoads
  exact a_vret (pc := 111) X trivial dX2_init_111
theorem ko_RX7 : Cond.methodLink RX7 3 Lib.objectInit ∈ x_TB ∧ Cond.instanceMethod Lib.objectInit ∈ x_TB ∧ Cond.code Lib.objectInit ⟨#[0xb1]⟩ 1 none ∈ x_TB := ⟨(x_tb (x_t3 (List.mem_of_getElem? (i := 43) rfl)) rfl), (x_tb (x_t1 (List.mem_of_getElem? (i := 30) rfl)) rfl), (x_tb (x_t1 (List.mem_of_getElem? (i := 31) rfl)) rfl)⟩
theorem nw_RX7_9 : x_nw RX7 9 3 1 [2] := ⟨RX3, TX3, tyX3, rfl, (x_tb (x_t3 (List.mem_of_getElem? (i := 44) rfl)) rfl), (x_tb (x_t1 (List.mem_of_getElem? (i := 39) rfl)) rfl), (x_tb (x_t1 (List.mem_of_getElem? (i := 3) rfl)) rfl), wsIn3, tyX3_ok, fun j hj => by
  match j, hj with
  | 0, _ => exact Or.inr (Or.inr ⟨rfl, rfl⟩)
  | j + 1, h => exact absurd h (by omega)⟩
theorem ci_RX7_11 : x_ci RX7 11 yX3_init cX3_init 2 1 := ⟨Or.inl (x_tb (x_t3 (List.mem_of_getElem? (i := 45) rfl)) rfl), (x_tb (x_t1 (List.mem_of_getElem? (i := 41) rfl)) rfl), (x_tb (x_t1 (List.mem_of_getElem? (i := 3) rfl)) rfl), (x_tb (x_t1 (List.mem_of_getElem? (i := 42) rfl)) rfl), by decide, by decide, by decide +kernel, rfl⟩
theorem dX7_init_0 : decode cX7_init 0 = .ok (.aload_n 0, 1) := by decide +kernel
theorem dX7_init_1 : decode cX7_init 1 = .ok (.invokespecial 3, 3) := by decide +kernel
theorem dX7_init_4 : decode cX7_init 4 = .ok (.aload_n 0, 1) := by decide +kernel
theorem dX7_init_5 : decode cX7_init 5 = .ok (.new 9, 3) := by decide +kernel
theorem dX7_init_8 : decode cX7_init 8 = .ok (.dup, 1) := by decide +kernel
theorem dX7_init_9 : decode cX7_init 9 = .ok (.bipush 32, 2) := by decide +kernel
theorem dX7_init_11 : decode cX7_init 11 = .ok (.invokespecial 11, 3) := by decide +kernel
theorem dX7_init_14 : decode cX7_init 14 = .ok (.putfield 14, 3) := by decide +kernel
theorem dX7_init_17 : decode cX7_init 17 = .ok (.return_, 1) := by decide +kernel
def z_X7_init_0 : XM := x_zc x_z 1
def z_X7_init_1 : XM := x_app 1 z_X7_init_0 z_Row
abbrev z_X7_init : XM := z_X7_init_1
set_option maxRecDepth 100000 in
set_option maxHeartbeats 4000000 in
theorem cn_X7_init {l : Launch} : CN l yX7_init cX7_init 1 2 2 33 (.inl (7, [2, 0])) shTag z_X7_init [] := by
  refine CN_of (by decide) rfl (fun _ => Nat.le_of_ble_eq_true rfl) ?_
  intro p e s m args below meth c D tc aK aV a X ha hNn hin
  have X : Cx p s m args meth c cX7_init 1 none RX7 D tc aK aV (fun q => a ≤ q) [([.inl (7, [2, 0])], fun i => a + i)] := X
  show bW p l e (x_RmN 2 2 33) s m args below meth c D tc (fun q => a ≤ q) 1 [([.inl (7, [2, 0])], fun i => a + i)] 0 0 (MQ below (x_Q none True D tc [(shTag, fun i => a + i)] [z_X7_init] (fun q => a ≤ q)) args s 2 33 (fun q => a ≤ q)) 0 [(0, .ref (a + 0))] [] [x_z]
  refine a_aload_n (pc := 0) X 0 dX7_init_0 rfl rfl ?_
  refine a_obj (pc := 1) X ko_RX7 dX7_init_1 (Nat.le_of_ble_eq_true rfl) (Nat.le_of_ble_eq_true rfl) ?_
  refine a_aload_n (pc := 4) X 0 dX7_init_4 rfl rfl ?_
  refine a_new (pc := 5) (kc := 0) (ks := 0) (cur := (.inl (7, [2, 0]) :: [])) X ha (by decide +kernel) nw_RX7_9 dX7_init_5 ⟨Nat.le_of_ble_eq_true rfl, Nat.le_of_ble_eq_true rfl⟩ ?_
  have X := x_re X (.inl (7, [2, 0]) :: [.inl (3, [2])])
  show bW p l e _ s m args below meth c D tc (fun q => a ≤ q) 1 [((.inl (7, [2, 0]) :: [.inl (3, [2])]), fun i => a + i)] 1 1 _ 8 [(0, .ref (a + 0))] [.ref (a + 1), .ref (a + 0)] [z_X7_init_0]
  refine a_dup (pc := 8) X dX7_init_8 rfl ?_
  refine a_bipush (pc := 9) X dX7_init_9 q_bp_32 ?_
  refine a_cinit (pc := 11) (kc := 1) (ks := 1) (cur := (.inl (7, [2, 0]) :: [])) (k0 := .inl (3, [2])) (v := z_X7_init_0) X ha (by decide +kernel) hNn [.int 32] [.ref (a + 1), .ref (a + 0)] (cn_X3_init (N := 32) (by decide)) ci_RX7_11 (by unfold z_X7_init_0; exact x_zc_z _ _) rfl rfl (Nat.le_of_ble_eq_true rfl) ⟨Nat.le_of_ble_eq_true rfl, Nat.le_of_ble_eq_true rfl⟩ ⟨Nat.le_of_ble_eq_true rfl, Nat.le_of_ble_eq_true rfl⟩ dX7_init_11 ?_
  have X := x_re X (.inl (7, [2, 0]) :: shRow 32)
  show bW p l e _ s m args below meth c D tc (fun q => a ≤ q) 1 [((.inl (7, [2, 0]) :: shRow 32), fun i => a + i)] 2 33 _ 14 [(0, .ref (a + 0))] [.ref (a + 1), .ref (a + 0)] [z_X7_init_1]
  refine a_putR (pc := 14) (kc := 2) (ks := 33) (tl := shRow 32) (ci := 7) (kds := [2, 0]) (o := 1) X hin fl_RX7_14 (fun _ _ _ h => by cases h; exact ⟨rfl, rfl⟩) rfl (by decide) rfl rfl dX7_init_14 ?_
  have X := x_re X (.inl (7, [3, 0]) :: shRow 32)
  show bW p l e _ s m args below meth c D tc (fun q => a ≤ q) 1 [((.inl (7, [3, 0]) :: shRow 32), fun i => a + i)] 2 33 _ 17 [(0, .ref (a + 0))] [] [z_X7_init_1]
  have X := x_re X shTag
  exact a_vret (pc := 17) X trivial dX7_init_17
