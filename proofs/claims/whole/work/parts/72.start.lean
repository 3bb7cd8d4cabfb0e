-- The law's entry: what the Statement gives of the start; the two objects; the loop (written by wip/whole/start72.py).
theorem y_nn : ∀ w ∈ x_nn, w ∈ lw_tbl := by
  intro w hw
  simp only [x_nn, List.mem_cons, List.not_mem_nil, or_false] at hw
  rcases hw with rfl | rfl | rfl | rfl | rfl | rfl | rfl | rfl | rfl | rfl | rfl | rfl
  · exact (List.mem_append_right _ (x_t1 (List.mem_of_getElem? (i := 153) rfl)))
  · exact (List.mem_append_right _ (x_t1 (List.mem_of_getElem? (i := 159) rfl)))
  · exact (List.mem_append_right _ (x_t2 (List.mem_of_getElem? (i := 15) rfl)))
  · exact (List.mem_append_right _ (x_t2 (List.mem_of_getElem? (i := 83) rfl)))
  · exact (List.mem_append_right _ (x_t2 (List.mem_of_getElem? (i := 143) rfl)))
  · exact (List.mem_append_right _ (x_t2 (List.mem_of_getElem? (i := 152) rfl)))
  · exact (List.mem_append_right _ (x_t2 (List.mem_of_getElem? (i := 166) rfl)))
  · exact (List.mem_append_right _ (x_t2 (List.mem_of_getElem? (i := 171) rfl)))
  · exact (List.mem_append_right _ (x_t2 (List.mem_of_getElem? (i := 182) rfl)))
  · exact (List.mem_append_right _ (x_t2 (List.mem_of_getElem? (i := 225) rfl)))
  · exact (List.mem_append_right _ (x_t2 (List.mem_of_getElem? (i := 228) rfl)))
  · exact (List.mem_append_right _ (x_t3 (List.mem_of_getElem? (i := 40) rfl)))
theorem y_nb0 : Cond.castable "java/util/NoSuchElementException" "java/util/NoSuchElementException" ∈ lw_tbl := (List.mem_append_right _ (x_t6 (List.mem_of_getElem? (i := 116) rfl)))
theorem y_nb1 : Cond.declares ⟨"java/lang/RuntimeException", "<init>", "()V"⟩ ∈ lw_tbl := (List.mem_append_right _ (x_t6 (List.mem_of_getElem? (i := 117) rfl)))
theorem y_nb2 : Cond.declares ⟨"java/lang/Exception", "<init>", "()V"⟩ ∈ lw_tbl := (List.mem_append_right _ (x_t6 (List.mem_of_getElem? (i := 119) rfl)))
theorem y_nb3 : Cond.declares ⟨"java/lang/Throwable", "<init>", "()V"⟩ ∈ lw_tbl := (List.mem_append_right _ (x_t6 (List.mem_of_getElem? (i := 121) rfl)))
theorem y_ao : Cond.arrayOver (.object "FoldRoads$State") ∈ lw_tbl := (List.mem_append_right _ (x_t2 (List.mem_of_getElem? (i := 151) rfl)))
theorem y_st0 : Cond.laysStatic "java/lang/String" "COMPACT_STRINGS" "Z" ∈ lw_tbl := (List.mem_append_right _ (x_t1 (List.mem_of_getElem? (i := 59) rfl)))
theorem y_st1 : Cond.initialized "java/lang/String" ∈ lw_tbl := (List.mem_append_right _ (x_t1 (List.mem_of_getElem? (i := 4) rfl)))
theorem y_st2 : Cond.laysStatic "jdk/internal/util/Preconditions" "SIOOBE_FORMATTER" "Ljava/util/function/BiFunction;" ∈ lw_tbl := (List.mem_append_right _ (x_t1 (List.mem_of_getElem? (i := 75) rfl)))
theorem y_st3 : Cond.initialized "jdk/internal/util/Preconditions" ∈ lw_tbl := (List.mem_append_right _ (x_t1 (List.mem_of_getElem? (i := 6) rfl)))
theorem y_st4 : Cond.laysStatic Bundle.tN "UNASSIGNED_STACK" Bundle.steD ∈ lw_tbl := (List.mem_append_right _ (x_t6 (List.mem_of_getElem? (i := 141) rfl)))
theorem y_st5 : Cond.laysStatic Bundle.tN "SUPPRESSED_SENTINEL" Bundle.listD ∈ lw_tbl := (List.mem_append_right _ (x_t6 (List.mem_of_getElem? (i := 143) rfl)))
theorem y_st6 : Cond.initialized Bundle.tN ∈ lw_tbl := (List.mem_append_right _ (x_t1 (List.mem_of_getElem? (i := 18) rfl)))
theorem y_sr0 : Cond.stringRef "FoldRoads$Tape" 24 "spot inn fold thing walker breath laugh worry frown goes learns tells rests cream slip mood hour or and not going housed lost at knows left tired pace number " ∈ lw_tbl := (List.mem_append_right _ (x_t1 (List.mem_of_getElem? (i := 49) rfl)))
theorem y_sr1 : Cond.stringRef "FoldRoads$Tag" 44 " to " ∈ lw_tbl := (List.mem_append_right _ (x_t5 (List.mem_of_getElem? (i := 189) rfl)))
theorem y_sr2 : Cond.stringRef "FoldRoads$Tag" 46 " at " ∈ lw_tbl := (List.mem_append_right _ (x_t5 (List.mem_of_getElem? (i := 190) rfl)))
theorem y_sr3 : Cond.stringRef "FoldRoads$Tag" 65 " in " ∈ lw_tbl := (List.mem_append_right _ (x_t5 (List.mem_of_getElem? (i := 198) rfl)))
theorem y_sr4 : Cond.stringRef "FoldRoads$Tag" 73 " lost" ∈ lw_tbl := (List.mem_append_right _ (x_t5 (List.mem_of_getElem? (i := 203) rfl)))
theorem y_ar0 : Cond.arrayClass .int ∈ lw_tbl := (List.mem_append_right _ (x_t1 (List.mem_of_getElem? (i := 48) rfl)))
theorem y_ar1 : Cond.arrayClass .long ∈ lw_tbl := (List.mem_append_right _ (x_t1 (List.mem_of_getElem? (i := 149) rfl)))
theorem y_ar2 : Cond.arrayClass .boolean ∈ lw_tbl := (List.mem_append_right _ (x_t7 (List.mem_of_getElem? (i := 114) rfl)))
theorem y_flags {l : Launch} (h : l.flags = flags0) : l.stackTraces = false := by
  unfold Launch.stackTraces
  rw [h]
  decide +kernel
def y_nar : List Cond := flatC (Jvm.Cond.and given_1 narrow_1)
def y_tm : Nat → Term
  | 0 => .string "FoldRoads$Tape" 24
  | 1 => .string "FoldRoads$Tag" 44
  | 2 => .string "FoldRoads$Tag" 46
  | 3 => .string "FoldRoads$Tag" 65
  | _ => .string "FoldRoads$Tag" 73
def y_k : Nat → Nat
  | 0 => 24
  | 1 => 186
  | 2 => 195
  | 3 => 205
  | _ => 216
def y_el (i j : Nat) : Cond := .eq (.elem (.field (y_tm i) "java/lang/String" "value" "[B") (.int (Int32.ofNat j))) (.int ((x_byt.getD i []).getD j 0))
theorem y_c0 : ((List.range 5).all fun i => decide (y_nar[y_k i]? = some (.exactly (y_tm i) "java/lang/String")) && decide (y_nar[y_k i + 1]? = some (.eq (.field (y_tm i) "java/lang/String" "coder" "B") (.int 0))) && decide (y_nar[y_k i + 2]? = some (.arrayOf (.field (y_tm i) "java/lang/String" "value" "[B") .byte)) && decide (y_nar[y_k i + 3]? = some (.eq (.length (.field (y_tm i) "java/lang/String" "value" "[B")) (.int (Int32.ofNat (x_len.getD i 0)))))) = true := by decide +kernel
theorem y_c1 : ((List.range 5).all fun i => (List.range (x_len.getD i 0)).all fun j => decide (y_nar[y_k i + 4 + j]? = some (y_el i j))) = true := by decide +kernel
theorem y_c2 : ((List.range 5).all fun i => (List.range i).all fun j => decide (Cond.not (Cond.eq (y_tm j) (y_tm i)) ∈ y_nar)) = true := by decide +kernel
theorem y_c3 : y_nar[4]? = some (.eq (.static "java/lang/String" "COMPACT_STRINGS" "Z") (.int 1)) ∧ y_nar[5]? = some (.isRef (.static "jdk/internal/util/Preconditions" "SIOOBE_FORMATTER" "Ljava/util/function/BiFunction;")) ∧ y_nar[9]? = some (.isRef (.static Bundle.tN "UNASSIGNED_STACK" Bundle.steD)) ∧ y_nar[10]? = some (.isRef (.static Bundle.tN "SUPPRESSED_SENTINEL" Bundle.listD)) := by decide +kernel
theorem y_St {s : State} {args : Array Value} (hts : ∀ w ∈ lw_tbl, w.before args s = true) (hgv : (Jvm.Cond.and given_1 narrow_1).before args s = true) : ∃ aK aV : Nat → Nat, x_St aK aV (fun q => s.heap.size ≤ q) s s.heap := by
  have hg : ∀ (i : Nat) (w : Cond), y_nar[i]? = some w → w.before args s = true := fun i w h => flat_of_before _ hgv _ (List.mem_of_getElem? h)
  have hA : ∀ a : Nat, a < s.heap.size → ¬ (fun q : Nat => s.heap.size ≤ q) a := fun a h => Nat.not_le.mpr h
  have h0 := List.all_eq_true.mp y_c0
  have h1 := List.all_eq_true.mp y_c1
  have h2 := List.all_eq_true.mp y_c2
  simp only [Bool.and_eq_true, decide_eq_true_eq, List.all_eq_true, List.mem_range] at h0 h1 h2
  obtain ⟨e1, e2, e3, e4⟩ := y_c3
  obtain ⟨aK, aV, hS, hev⟩ := vk_Sof (args := args) (s := s) (N := 5) (tm := y_tm) (len := x_len) (byt := x_byt) (A := fun q => s.heap.size ≤ q) (by intro i hi; rcases (show i = 0 ∨ i = 1 ∨ i = 2 ∨ i = 3 ∨ i = 4 by omega) with rfl | rfl | rfl | rfl | rfl <;> decide)
    (fun i hi => hg _ _ (h0 i hi).1.1.1) (fun i hi => hg _ _ (h0 i hi).1.1.2) (fun i hi => hg _ _ (h0 i hi).1.2) (fun i hi => hg _ _ (h0 i hi).2) (fun i hi j hj => hg _ _ (h1 i hi j hj))
    (fun i j hi hj hij => by
      rcases Nat.lt_or_gt_of_ne hij with h | h
      · exact Or.inl (flat_of_before _ hgv _ (h2 j hj i h))
      · exact Or.inr (flat_of_before _ hgv _ (h2 i hi j h))) hA
  refine ⟨fun i => if i < 1000 then aK i else aV (i - 1000), aV, ⟨fun i => ?_, ?_, ?_, ?_, ?_, ?_⟩, ?_, ?_, ?_, ?_, ?_⟩
  · show aV i = if i + 1000 < 1000 then aK (i + 1000) else aV (i + 1000 - 1000)
    rw [if_neg (by omega), Nat.add_sub_cancel]
  · refine ⟨fun i hi => ?_, fun i j hi hj => ?_⟩
    · show va_O _ (if i < 1000 then aK i else aV (i - 1000)) _ _ _ ∧ va_OF _ _ _ _ (if i < 1000 then aK i else aV (i - 1000)) _ _ _ ∧ va_OF _ _ _ _ (if i < 1000 then aK i else aV (i - 1000)) _ _ _ ∧ _
      rw [if_pos (by omega)]
      exact hS.1 i hi
    · show (if i < 1000 then aK i else aV (i - 1000)) = (if j < 1000 then aK j else aV (j - 1000)) → i = j
      rw [if_pos (by omega), if_pos (by omega)]
      exact hS.2 i j hi hj
  · exact va_Zof (hts _ y_st0) (hts _ y_st1) (va_eqt (hg _ _ e1)) hA
  · exact va_Zqof (hts _ y_st2) (hts _ y_st3) (hg _ _ e2) hA
  · exact vx_Zqof (hts _ y_st4) (hts _ y_st6) (hg _ _ e3) hA
  · exact vx_Zqof (hts _ y_st5) (hts _ y_st6) (hg _ _ e4) hA
  · exact vk_R.of (hts _ y_sr0) (hev 0 (by omega))
  · exact vk_R.of (hts _ y_sr1) (hev 1 (by omega))
  · exact vk_R.of (hts _ y_sr2) (hev 2 (by omega))
  · exact vk_R.of (hts _ y_sr3) (hev 3 (by omega))
  · exact vk_R.of (hts _ y_sr4) (hev 4 (by omega))
theorem y_arr {s : State} {args : Array Value} {ty : FieldType} (hno : ∀ C, ty ≠ .object C) (h : (Cond.arrayClass ty).before args s = true) : ∃ c : ClassId, ArrOfT s c ty ∧ va_RA s c ty := by
  obtain ⟨c, k, comp, h1, h2, h3⟩ := Cond.arrayClass_spec h
  refine ⟨c, fun n z => ⟨fun k h => (by cases h), k, h2, comp, h3⟩, ?_⟩
  cases ty with
  | object C => exact absurd rfl (hno C)
  | _ => exact h1
theorem y_arrO {s : State} {args : Array Value} {C : String} (h : (Cond.arrayOver (.object C)).before args s = true) : ∃ c : ClassId, ArrOfT s c (.object C) ∧ va_RA s c (.object C) := by
  obtain ⟨comp, c, k, h1, h2, h3, h4, h5⟩ := Cond.arrayOver_spec h
  exact ⟨c, fun n z => ⟨fun k h => (by cases h), k, h3, comp, h4⟩, k, comp, h3, h4, h1, h5⟩
theorem y_K {s : State} {args : Array Value} (hts : ∀ w ∈ lw_tbl, w.before args s = true) : ∃ (D : va_G) (tc : Nat → ClassId), va_K D vwCl (x_tys tc) s := by
  have hT : ∀ w ∈ x_TB, w.before args s = true := fun w h => hts w (x_TB_good w h).1
  have hk : ∀ k : Nat, ∃ r : ClassId × (Nat → Nat), ∀ q, vwCl[k]? = some q → u_Kn s q.1 q.2.1 q.2.2 r.1 r.2 := by
    intro k
    match k with
    | 0 => obtain ⟨c0, i0, h⟩ := u_known (C := RX0) (T := TX0) (N := 10) (n := 10) hT wsIn0 (hts _ (List.mem_append_right _ (x_t2 (List.mem_of_getElem? (i := 181) rfl)))); exact ⟨(c0, i0), fun q hq => by cases hq; exact h⟩
    | 1 => obtain ⟨c0, i0, h⟩ := u_known (C := RX1) (T := TX1) (N := 3) (n := 3) hT wsIn1 (hts _ (List.mem_append_right _ (x_t2 (List.mem_of_getElem? (i := 145) rfl)))); exact ⟨(c0, i0), fun q hq => by cases hq; exact h⟩
    | 2 => obtain ⟨c0, i0, h⟩ := u_known (C := RX2) (T := TX2) (N := 12) (n := 12) hT wsIn2 (hts _ (List.mem_append_right _ (x_t2 (List.mem_of_getElem? (i := 227) rfl)))); exact ⟨(c0, i0), fun q hq => by cases hq; exact h⟩
    | 3 => obtain ⟨c0, i0, h⟩ := u_known (C := RX3) (T := TX3) (N := 1) (n := 1) hT wsIn3 (hts _ (List.mem_append_right _ (x_t1 (List.mem_of_getElem? (i := 39) rfl)))); exact ⟨(c0, i0), fun q hq => by cases hq; exact h⟩
    | 4 => obtain ⟨c0, i0, h⟩ := u_known (C := RX4) (T := TX4) (N := 8) (n := 8) hT wsIn4 (hts _ (List.mem_append_right _ (x_t2 (List.mem_of_getElem? (i := 82) rfl)))); exact ⟨(c0, i0), fun q hq => by cases hq; exact h⟩
    | 5 => obtain ⟨c0, i0, h⟩ := u_known (C := RX5) (T := TX5) (N := 10) (n := 10) hT wsIn5 (hts _ (List.mem_append_right _ (x_t2 (List.mem_of_getElem? (i := 14) rfl)))); exact ⟨(c0, i0), fun q hq => by cases hq; exact h⟩
    | 6 => obtain ⟨c0, i0, h⟩ := u_known (C := RX6) (T := TX6) (N := 2) (n := 2) hT wsIn6 (hts _ (List.mem_append_right _ (x_t2 (List.mem_of_getElem? (i := 165) rfl)))); exact ⟨(c0, i0), fun q hq => by cases hq; exact h⟩
    | 7 => obtain ⟨c0, i0, h⟩ := u_known (C := RX7) (T := TX7) (N := 2) (n := 2) hT wsIn7 (hts _ (List.mem_append_right _ (x_t3 (List.mem_of_getElem? (i := 39) rfl)))); exact ⟨(c0, i0), fun q hq => by cases hq; exact h⟩
    | 8 => obtain ⟨c0, i0, h⟩ := u_known (C := RX8) (T := TX8) (N := 12) (n := 12) hT wsIn8 (hts _ (List.mem_append_right _ (x_t1 (List.mem_of_getElem? (i := 33) rfl)))); exact ⟨(c0, i0), fun q hq => by cases hq; exact h⟩
    | 9 => obtain ⟨c0, i0, h⟩ := u_known (C := RX9) (T := TX9) (N := 14) (n := 14) hT wsIn9 (hts _ (List.mem_append_right _ (x_t1 (List.mem_of_getElem? (i := 158) rfl)))); exact ⟨(c0, i0), fun q hq => by cases hq; exact h⟩
    | 10 => obtain ⟨c0, i0, h⟩ := u_known (C := RX10) (T := TX10) (N := 5) (n := 5) hT wsIn10 (hts _ (List.mem_append_right _ (x_t1 (List.mem_of_getElem? (i := 152) rfl)))); exact ⟨(c0, i0), fun q hq => by cases hq; exact h⟩
    | 11 => obtain ⟨c0, i0, h⟩ := u_known (C := RX11) (T := TX11) (N := 11) (n := 11) hT wsIn11 (hts _ (List.mem_append_right _ (x_t1 (List.mem_of_getElem? (i := 25) rfl)))); exact ⟨(c0, i0), fun q hq => by cases hq; exact h⟩
    | 12 => obtain ⟨c0, i0, h⟩ := u_known (C := RX12) (T := TX12) (N := 47) (n := 47) hT wsIn12 (hts _ (List.mem_append_right _ (x_t6 (List.mem_of_getElem? (i := 197) rfl)))); exact ⟨(c0, i0), fun q hq => by cases hq; exact h⟩
    | k + 13 => exact ⟨(0, fun _ => 0), fun q hq => by simp [vwCl] at hq⟩
  obtain ⟨r, hr⟩ := Classical.axiomOfChoice hk
  obtain ⟨c0, h0⟩ := y_arr (ty := .int) (by intro C h; cases h) (hts _ y_ar0)
  obtain ⟨c1, h1⟩ := y_arr (ty := .long) (by intro C h; cases h) (hts _ y_ar1)
  obtain ⟨c2, h2⟩ := y_arr (ty := .boolean) (by intro C h; cases h) (hts _ y_ar2)
  obtain ⟨c3, h3⟩ := y_arrO (hts _ y_ao)
  refine ⟨(fun k => (r k).1, fun k => (r k).2), fun k => if k = 0 then c0 else if k = 1 then c1 else if k = 2 then c2 else c3, hr, fun k q hq => ?_⟩
  match k, hq with
  | 0, hq => cases hq; exact h0
  | 1, hq => cases hq; exact h1
  | 2, hq => cases hq; exact h2
  | 3, hq => cases hq; exact h3
  | k + 4, hq => simp [x_tys] at hq
section YSPLIT
variable {p : Program} {l : Launch} {e : Env} {R : Room} {s : State} {m : MethodId} {args : Array Value} {below : List Frame} {meth : Method} {c : Code} {cc : ByteArray} {nL : Nat} {ret : Option FieldType} {own : String} {D : va_G} {tc : Nat → ClassId} {aK aV : Nat → Nat} {A : Nat → Prop} {Rs : List XR} {kc ks : Nat} {Q : State → Prop} {pc : Nat} {lo : List (Nat × Value)} {st : List Value} {vs : List XM}
theorem y_split (sg : List (Nat × Nat × Nat)) (hvl : vs.length = Rs.length) (hok : x_sgok Rs sg = true) (k : bW p l e R s m args below meth c D tc A nL (sg.map (x_sgR Rs)) kc ks Q pc lo st (sg.map (x_sgM vs))) : bW p l e R s m args below meth c D tc A nL Rs kc ks Q pc lo st vs := fun H locs ls hP hS hl => k H locs ls (x_SP_sub hP hvl hok) hS hl
theorem y_splitX (X : Cx p s m args meth c cc nL ret own D tc aK aV A Rs) (sg : List (Nat × Nat × Nat)) (hok : x_sgok Rs sg = true) : Cx p s m args meth c cc nL ret own D tc aK aV A (sg.map (x_sgR Rs)) := by
  obtain ⟨h1, h2, h3, h4, h5, h6, hJ, hA, h9, h10⟩ := X
  refine ⟨h1, h2, h3, h4, h5, h6, x_Dj_sub hJ hok, fun r x i a1 a2 => ?_, h9, h10⟩
  obtain ⟨g, x', b1, b2, b3, b4, b5⟩ := x_seg hok a1
  rw [b3] at a2
  rw [b5 i (by omega)]
  exact hA g.1 x' _ (b2 (by omega)) (b4 i a2).2
end YSPLIT
/-- what lies there when both objects and the law's row are made -/
def y_V : XM := x_zc (x_app 318 (x_zc (x_app 0 (x_zc x_z 0) z_X11_init) 318) z_X12_init) 338
def y_V0 : XM := x_sub y_V 0
def y_V1 : XM := x_sub y_V 318
def y_V2 : XM := x_sub y_V 338
def F_law (L : Nat) (xs : Nat → Int32) : Option Int32 := x_lp (φ := XM → XM → XM → Int32 → Option (Int32)) (fun _ _ _ _ => none) (f_L_law_23 L xs) 1000 y_V0 y_V1 y_V2 (0 : Int32)
def y_cur : List XK := ([] ++ shFoldRoads ++ shModel) ++ [.inr (1, 1)]
theorem y_ok (ad : Nat → Nat) : x_sgok [(y_cur, ad)] [(0, 0, 318), (0, 318, 20), (0, 338, 1)] = true := by
  have h : y_cur.length = 339 := by decide +kernel
  simp [x_sgok, x_rl, x_apart, h]
theorem y_t0 : ((y_cur.drop 0).take 318) = shFoldRoads := by decide +kernel
theorem y_t1 : ((y_cur.drop 318).take 20) = shModel := by decide +kernel
theorem y_t2 : ((y_cur.drop 338).take 1) = shLongs 1 := by decide +kernel
set_option maxRecDepth 100000 in
set_option maxHeartbeats 4000000 in
theorem w_loop {p : Program} {l : Launch} {e : Env} {s : State} {m : MethodId} {below : List Frame} {meth : Method} {c : Code} {D : va_G} {tc : Nat → ClassId} {aK aV : Nat → Nat} {A : Nat → Prop} {b : Nat} {ad0 ad1 ad2 : Nat → Nat} {L : Nat} {xs : Nat → Int32} (X : Cx p s m #[Value.ref b] meth c code 7 ret RL D tc aK aV A [(shFoldRoads, ad0), (shModel, ad1), ((shLongs 1), ad2)]) (hB : va_X b L xs s s.heap ∧ b < s.heap.size ∧ ¬ A b) (hA : ∀ q, A q → s.heap.size ≤ q) (hl0 : l.stackTraces = false) (hNw : x_Nw s) : ∀ (n kc ks : Nat), kc + n ≤ 601024 → ks + 6 * n ≤ 7293034 → ∀ (w0 w1 w2 : XM) (i : Int32), x_lp (φ := XM → XM → XM → Int32 → Option (Int32)) (fun _ _ _ _ => none) (f_L_law_23 L xs) n w0 w1 w2 i = some 1 →
    bW p l e room_1 s m #[Value.ref b] below meth c D tc A 7 [(shFoldRoads, ad0), (shModel, ad1), ((shLongs 1), ad2)] kc ks (lw_Z below #[Value.ref b] s) 23 [(0, .ref b), (1, .ref (ad0 0)), (2, .ref (ad1 0)), (3, .ref (ad2 0)), (4, .int i)] [] [w0, w1, w2] := by
  intro n
  induction n with
  | zero => intro kc ks _ _ w0 w1 w2 i h; exact absurd h (fun q => by cases q)
  | succ n ih =>
    intro kc ks h1 h2 w0 w1 w2 i h
    have ih := ih (kc + 1) (ks + 6) (by omega) (by omega)
    have h : f_L_law_23 L xs (x_lp (φ := XM → XM → XM → Int32 → Option (Int32)) (fun _ _ _ _ => none) (f_L_law_23 L xs) n) w0 w1 w2 i = some 1 := h
    generalize x_lp (φ := XM → XM → XM → Int32 → Option (Int32)) (fun _ _ _ _ => none) (f_L_law_23 L xs) n = k at h ih
    exact w_L_law_23 X hB hA hl0 hNw ⟨show kc ≤ 601024 by omega, show ks ≤ 7293034 by omega⟩ ⟨show kc + 1 ≤ 601024 by omega, show ks + 6 ≤ 7293034 by omega⟩ ih h
set_option maxRecDepth 100000 in
set_option maxHeartbeats 4000000 in
theorem whole_red {p : Program} {e : Env} {s : State} {m : MethodId} {below : List Frame} {meth : Method} {c : Code} (l : Launch) (hflags : l.flags = flags0) {b L : Nat} {xs : Nat → Int32} (C0 : lw_At p s m meth c b L xs) (hF : F_law L xs = some 1) : W p l e room_1 s m #[Value.ref b] below meth c s.heap [] 0 0 (lw_Z below #[Value.ref b] s) (entryFrame m ([Value.ref b] : List Value).toArray 7) := by
  obtain ⟨hx, hb, hr, hml, hown, hts, hX, hbl, hlocks, hgv⟩ := C0
  obtain ⟨D, tc, hK⟩ := y_K hts
  obtain ⟨aK, aV, hSt⟩ := y_St hts hgv
  have hl0 := y_flags hflags
  have hNw : x_Nw s := ⟨va_Nw.of rfl (hts _ y_nb0), va_Nw.of rfl (hts _ y_nb1), va_Nw.of rfl (hts _ y_nb2), va_Nw.of rfl (hts _ y_nb3)⟩
  have hNn : x_Nn s := by
    refine ⟨fun w hw => ?_, va_AO.of (hts _ y_ao)⟩
    have h1 := hts _ (y_nn w hw)
    simp only [x_nn, List.mem_cons, List.not_mem_nil, or_false] at hw
    rcases hw with rfl | rfl | rfl | rfl | rfl | rfl | rfl | rfl | rfl | rfl | rfl | rfl <;> exact va_Nw.of rfl h1
  obtain ⟨a, ha⟩ : ∃ a, s.heap.size = a := ⟨_, rfl⟩
  rw [ha] at hSt
  have X : Cx p s m #[Value.ref b] meth c code 7 ret RL D tc aK aV (fun q => a ≤ q) [([], fun i => a + i)] := by
    refine ⟨hx, hb, hml, hown, fun w h => hts w (x_TB_good w h).1, hK, ?_, ?_, fun q h => by show a ≤ q; omega, hSt, hr, hlocks⟩
    · intro r r' x x' i i' h1 h2 hi hi' he
      match r with
      | 0 => cases h1; exact absurd hi (Nat.not_lt_zero _)
      | r + 1 => simp at h1
    · intro r x i h1 hi
      match r with
      | 0 => cases h1; exact absurd hi (Nat.not_lt_zero _)
      | r + 1 => simp at h1
  have hB : va_X b L xs s s.heap ∧ b < s.heap.size ∧ ¬ (fun q : Nat => a ≤ q) b := ⟨hX, hbl, by show ¬ a ≤ b; omega⟩
  have hP0 : x_SP D tc [([], fun i => a + i)] [x_z] s.heap := by
    intro r x v id sk h1 h2 h3
    match r with
    | 0 => cases h1; simp at h3
    | r + 1 => simp at h1
  have hl := lv_entry ([.ref b]) (n := 7) (Nat.le_of_ble_eq_true rfl)
  rw [lg_entry_eq]
  have HW : bW p l e room_1 s m #[Value.ref b] below meth c D tc (fun q => a ≤ q) 7 [([], fun i => a + i)] 0 0 (lw_Z below #[Value.ref b] s) 0 [(0, .ref b)] [] [x_z] := by
    refine y_new (pc := 0) (kc := 0) (ks := 0) (cur := []) X ha rfl nw_RL_8 dL_law_0 ⟨Nat.le_of_ble_eq_true rfl, Nat.le_of_ble_eq_true rfl⟩ ?_
    refine a_dup (pc := 3) (x_re X _) dL_law_3 rfl ?_
    refine y_cinit (pc := 4) (kc := 0) (ks := 0 + 11) (cur := []) (x_re X _) ha rfl hNn [] [.ref (a + 0)] cn_X11_init ci_RL_18 ⟨funext fun j => rfl, funext fun j => rfl⟩ rfl rfl (Nat.le_of_ble_eq_true rfl) ⟨Nat.le_of_ble_eq_true rfl, Nat.le_of_ble_eq_true rfl⟩ ⟨Nat.le_of_ble_eq_true rfl, Nat.le_of_ble_eq_true rfl⟩ dL_law_4 ?_
    refine a_astore_n (pc := 7) (x_re X _) [(1, .ref (a + 0)), (0, .ref b)] dL_law_7 rfl (by decide) rfl ?_
    refine y_new (pc := 8) (kc := 318) (ks := 0 + 11 + 3748) (cur := [] ++ shFoldRoads) (x_re X _) ha (by decide +kernel) nw_RL_19 dL_law_8 ⟨Nat.le_of_ble_eq_true rfl, Nat.le_of_ble_eq_true rfl⟩ ?_
    refine a_dup (pc := 11) (x_re X _) dL_law_11 rfl ?_
    refine y_cinit (pc := 12) (kc := 318) (ks := 0 + 11 + 3748 + 47) (cur := [] ++ shFoldRoads) (x_re X _) ha (by decide +kernel) hNn [] [.ref (a + 318)] cn_X12_init ci_RL_21 ⟨funext fun j => rfl, funext fun j => rfl⟩ rfl rfl (Nat.le_of_ble_eq_true rfl) ⟨Nat.le_of_ble_eq_true rfl, Nat.le_of_ble_eq_true rfl⟩ ⟨Nat.le_of_ble_eq_true rfl, Nat.le_of_ble_eq_true rfl⟩ dL_law_12 ?_
    refine a_astore_n (pc := 15) (x_re X _) [(2, .ref (a + 318)), (1, .ref (a + 0)), (0, .ref b)] dL_law_15 rfl (by decide) rfl ?_
    refine a_iconst (pc := 16) (x_re X _) dL_law_16 q_ic_1 ?_
    refine y_newarrL (pc := 17) (kc := 338) (N := 1) (ks := 0 + 11 + 3748 + 47 + 3542) (cur := [] ++ shFoldRoads ++ shModel) (x_re X _) ha (by decide +kernel) (by decide) (by decide) k_larr dL_law_17 (by omega) ⟨Nat.le_of_ble_eq_true rfl, Nat.le_of_ble_eq_true rfl⟩ ?_
    refine a_astore_n (pc := 19) (x_re X _) [(3, .ref (a + 338)), (2, .ref (a + 318)), (1, .ref (a + 0)), (0, .ref b)] dL_law_19 rfl (by decide) rfl ?_
    refine a_iconst (pc := 20) (x_re X _) dL_law_20 q_ic_0 ?_
    refine a_istore (pc := 21) (x_re X _) [(4, .int 0), (3, .ref (a + 338)), (2, .ref (a + 318)), (1, .ref (a + 0)), (0, .ref b)] dL_law_21 (by decide) rfl ?_
    refine a_sub [4, 3, 2, 1, 0] rfl ?_
    have X3 := y_splitX (x_re X y_cur) [(0, 0, 318), (0, 318, 20), (0, 338, 1)] (y_ok _)
    refine y_split (Rs := [(y_cur, fun i => a + i)]) [(0, 0, 318), (0, 318, 20), (0, 338, 1)] rfl (y_ok _) ?_
    have eR : ([(0, 0, 318), (0, 318, 20), (0, 338, 1)] : List (Nat × Nat × Nat)).map (x_sgR [(y_cur, fun i => a + i)]) = [(shFoldRoads, fun i => a + (i + 0)), (shModel, fun i => a + (i + 318)), (shLongs 1, fun i => a + (i + 338))] := by
      show [((y_cur.drop 0).take 318, _), ((y_cur.drop 318).take 20, _), ((y_cur.drop 338).take 1, _)] = _
      rw [y_t0, y_t1, y_t2]
    rw [eR] at X3 ⊢
    exact w_loop X3 hB (fun q h => by have h : a ≤ q := h; omega) hl0 hNw 1000 339 7349 (by omega) (by omega) y_V0 y_V1 y_V2 0 hF
  exact HW s.heap [] _ hP0 va_S.rf hl
