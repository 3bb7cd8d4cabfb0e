-- Loops over WALKERS, FOLDS, THINGS that only look: both sides.
theorem nI_nm1 {n : Nat} (h : n < 2 ^ 31) : nI n ≠ -1 := fun q => by
  have h1 := congrArg Int32.toInt q
  rw [nI_toInt h] at h1
  have h2 : ((-1 : Int32)).toInt = -1 := by decide
  omega
section CQ
variable {nS nF nT nW bB : Nat} {u v : XM}
theorem c_goers (h : RW nS nF nT nW bB u v) : f_X10_goers u = some (bs (fun i => goB v i) nW) := by
  have hb := h.b
  have key := lp_eq (ap := fun (K : Int32 → Int32 → Option Int32) (a : Int32) (i : Int32) => K a i) (z := fun _ _ => none) (b := f_X10_goers_4 u) (n := nW) (F := fun i acc => if (goB v i) = true then acc ||| ((1 : Int32) <<< (nI i &&& 31)) else acc) (G := some) (fun K a i hi => ?_) (fun K a => ?_) x_NN 0 (by unfold x_NN; omega)
  · unfold f_X10_goers; exact key.trans (congrArg some (itr_bs _))
  · show f_X10_goers_4 u K  a (nI i) = _
    unfold f_X10_goers_4 
    rw [h.u3, if_neg (nI_ge hi (by omega)), lt_eq, c_isGoing h hi]
    unfold f_X10_goers_29
    rw [lt_eq, nI_1]
    cases goB v i <;> rfl
  · show f_X10_goers_4 u K  a (nI nW) = _
    unfold f_X10_goers_4
    rw [h.u3, if_pos (nI_le (by omega) (by omega))]
theorem c_goersAlong (h : RW nS nF nT nW bB u v) {f : Nat} (hf : f < 12) : f_X10_goersAlong u (nI f) = some (bs (fun i => decide (v.1 2 (79 + i) = nI f)) nW) := by
  have hb := h.b
  have key := lp_eq (ap := fun (K : Int32 → Int32 → Int32 → Option Int32) (a : Int32) (i : Int32) => K (nI f) a i) (z := fun _ _ _ => none) (b := f_X10_goersAlong_4 u) (n := nW) (F := fun i acc => if (decide (v.1 2 (79 + i) = nI f)) = true then acc ||| ((1 : Int32) <<< (nI i &&& 31)) else acc) (G := some) (fun K a i hi => ?_) (fun K a => ?_) x_NN 0 (by unfold x_NN; omega)
  · unfold f_X10_goersAlong; exact key.trans (congrArg some (itr_bs _))
  · show f_X10_goersAlong_4 u K (nI f) a (nI i) = _
    unfold f_X10_goersAlong_4 
    rw [h.u3, if_neg (nI_ge hi (by omega)), lt_eq, c_isGoing h hi]
    unfold f_X10_goersAlong_44
    have e : r_get 5 (x_sub u 20) (nI i) = v.1 2 (79 + i) := by rw [rg_in (by omega) (by omega)]; exact h.along hi
    rw [lt_eq, lt_eq, e, nI_1]
    unfold goB
    by_cases c : v.1 2 (79 + i) = -1
    · rw [decide_eq_true c, if_pos (by decide), if_neg (by simp only [decide_eq_true_eq]; rw [c]; exact fun q => nI_nm1 (by omega) q.symm)]
    · rw [decide_eq_false c, if_neg (by decide)]
      by_cases c2 : v.1 2 (79 + i) = nI f
      · rw [if_pos c2, if_pos (by simpa using c2)]
      · rw [if_neg c2, if_neg (by simpa using c2)]
  · show f_X10_goersAlong_4 u K (nI f) a (nI nW) = _
    unfold f_X10_goersAlong_4
    rw [h.u3, if_pos (nI_le (by omega) (by omega))]
theorem c_walkersAt (h : RW nS nF nT nW bB u v) {s : Int32} : f_X10_walkersAt u s = some (bs (fun i => !goB v i && decide (v.1 2 (74 + i) = s)) nW) := by
  have hb := h.b
  have key := lp_eq (ap := fun (K : Int32 → Int32 → Int32 → Option Int32) (a : Int32) (i : Int32) => K s a i) (z := fun _ _ _ => none) (b := f_X10_walkersAt_4 u) (n := nW) (F := fun i acc => if (!goB v i && decide (v.1 2 (74 + i) = s)) = true then acc ||| ((1 : Int32) <<< (nI i &&& 31)) else acc) (G := some) (fun K a i hi => ?_) (fun K a => ?_) x_NN 0 (by unfold x_NN; omega)
  · unfold f_X10_walkersAt; exact key.trans (congrArg some (itr_bs _))
  · show f_X10_walkersAt_4 u K s a (nI i) = _
    unfold f_X10_walkersAt_4 
    rw [h.u3, if_neg (nI_ge hi (by omega)), lt_eq]
    have e : f_X10_isAt u (nI i) s = bI (!goB v i && decide (v.1 2 (74 + i) = s)) := by
      unfold f_X10_isAt
      rw [lt_eq, c_isGoing h hi, lt_eq, rg_in (by omega) (by omega), show (x_sub u 18).1 1 i = v.1 2 (74 + i) from h.at_ hi]
      cases goB v i <;> by_cases c : v.1 2 (74 + i) = s <;> simp [c, bI]
    unfold f_X10_walkersAt_30
    rw [e, lt_eq, nI_1]
    cases (!goB v i && decide (v.1 2 (74 + i) = s)) <;> rfl
  · show f_X10_walkersAt_4 u K s a (nI nW) = _
    unfold f_X10_walkersAt_4
    rw [h.u3, if_pos (nI_le (by omega) (by omega))]
theorem c_slipped (h : RW nS nF nT nW bB u v) : f_X10_slippedFolds u = some (bs (fun i => !decide (v.1 2 (99 + i) ≤ 0)) nF) := by
  have hb := h.b
  have key := lp_eq (ap := fun (K : Int32 → Int32 → Option Int32) (a : Int32) (i : Int32) => K a i) (z := fun _ _ => none) (b := f_X10_slippedFolds_4 u) (n := nF) (F := fun i acc => if (!decide (v.1 2 (99 + i) ≤ 0)) = true then acc ||| ((1 : Int32) <<< (nI i &&& 31)) else acc) (G := some) (fun K a i hi => ?_) (fun K a => ?_) x_NN 0 (by unfold x_NN; omega)
  · unfold f_X10_slippedFolds; exact key.trans (congrArg some (itr_bs _))
  · show f_X10_slippedFolds_4 u K  a (nI i) = _
    unfold f_X10_slippedFolds_4 
    rw [h.u1, if_neg (nI_ge hi (by omega)), lt_eq]
    have e : r_get 12 (x_sub u 30) (nI i) = v.1 2 (99 + i) := by rw [rg_in (by omega) (by omega)]; exact h.slp hi
    unfold f_X10_slippedFolds_35
    rw [e, lt_eq, nI_1]
    by_cases c : v.1 2 (99 + i) ≤ 0
    · rw [if_pos c, if_neg (by simp [c])]
    · rw [if_neg c, if_pos (by simp [c])]
  · show f_X10_slippedFolds_4 u K  a (nI nF) = _
    unfold f_X10_slippedFolds_4
    rw [h.u1, if_pos (nI_le (by omega) (by omega))]
theorem c_thingsAt (h : RW nS nF nT nW bB u v) {s : Int32} : f_X9_thingsAt (x_sub u 1) s = some (bs (fun i => decide (v.1 2 (54 + i) = s)) nT) := by
  have hb := h.b
  have key := lp_eq (ap := fun (K : Int32 → Int32 → Int32 → Option Int32) (a : Int32) (i : Int32) => K s a i) (z := fun _ _ _ => none) (b := f_X9_thingsAt_4 (x_sub u 1)) (n := nT) (F := fun i acc => if (decide (v.1 2 (54 + i) = s)) = true then acc ||| ((1 : Int32) <<< (nI i &&& 31)) else acc) (G := some) (fun K a i hi => ?_) (fun K a => ?_) x_NN 0 (by unfold x_NN; omega)
  · unfold f_X9_thingsAt; exact key.trans (congrArg some (itr_bs _))
  · show f_X9_thingsAt_4 (x_sub u 1) K s a (nI i) = _
    unfold f_X9_thingsAt_4
    rw [show (x_sub u 1).1 0 2 = nI nT from h.u2, if_neg (nI_ge hi (by omega)), lt_eq]
    unfold f_X9_thingsAt_30
    rw [rg_in (by omega) (by omega), show (x_sub (x_sub u 1) 9).1 1 i = v.1 2 (54 + i) from h.thg hi, lt_eq, nI_1]
    by_cases c : v.1 2 (54 + i) = s
    · rw [if_pos c, if_pos (by simpa using c)]
    · rw [if_neg c, if_neg (by simpa using c)]
  · show f_X9_thingsAt_4 (x_sub u 1) K s a (nI nT) = _
    unfold f_X9_thingsAt_4
    rw [show (x_sub u 1).1 0 2 = nI nT from h.u2, if_pos (nI_le (by omega) (by omega))]
theorem c_foldsAt (h : RW nS nF nT nW bB u v) {s : Int32} : f_X9_foldsAt (x_sub u 1) s = some (bs (fun i => !decide (otO v i s = -1)) nF) := by
  have hb := h.b
  have key := lp_eq (ap := fun (K : Int32 → Int32 → Int32 → Option Int32) (a : Int32) (i : Int32) => K s a i) (z := fun _ _ _ => none) (b := f_X9_foldsAt_4 (x_sub u 1)) (n := nF) (F := fun i acc => if (!decide (otO v i s = -1)) = true then acc ||| ((1 : Int32) <<< (nI i &&& 31)) else acc) (G := some) (fun K a i hi => ?_) (fun K a => ?_) x_NN 0 (by unfold x_NN; omega)
  · unfold f_X9_foldsAt; exact key.trans (congrArg some (itr_bs _))
  · show f_X9_foldsAt_4 (x_sub u 1) K s a (nI i) = _
    unfold f_X9_foldsAt_4
    rw [show (x_sub u 1).1 0 1 = nI nF from h.u1, if_neg (nI_ge hi (by omega)), lt_eq]
    unfold f_X9_foldsAt_28
    rw [c_across h hi, lt_eq, nI_1]
    by_cases c : otO v i s = -1
    · rw [if_pos c, if_neg (by simp [c])]
    · rw [if_neg c, if_pos (by simp [c])]
  · show f_X9_foldsAt_4 (x_sub u 1) K s a (nI nF) = _
    unfold f_X9_foldsAt_4
    rw [show (x_sub u 1).1 0 1 = nI nF from h.u1, if_pos (nI_le (by omega) (by omega))]
theorem c_known (h : RW nS nF nT nW bB u v) : f_X10_knownThings u = some (om (fun i => v.1 2 (94 + i)) nW) := by
  have hb := h.b
  have key := lp_eq (ap := fun (K : Int32 → Int32 → Option Int32) (a : Int32) (i : Int32) => K a i) (z := fun _ _ => none) (b := f_X10_knownThings_4 u) (n := nW) (F := fun i acc => acc ||| v.1 2 (94 + i)) (G := some) (fun K a i hi => ?_) (fun K a => ?_) x_NN 0 (by unfold x_NN; omega)
  · unfold f_X10_knownThings; exact key.trans (congrArg some (itr_om _))
  · show f_X10_knownThings_4 u K a (nI i) = _
    unfold f_X10_knownThings_4
    rw [h.u3, if_neg (nI_ge hi (by omega)), lt_eq, rg_in (by omega) (by omega), show (x_sub u 26).1 1 i = v.1 2 (94 + i) from h.known hi, nI_1]
  · show f_X10_knownThings_4 u K a (nI nW) = _
    unfold f_X10_knownThings_4
    rw [h.u3, if_pos (nI_le (by omega) (by omega))]
theorem c_tiredAll (h : RW nS nF nT nW bB u v) : f_X10_tiredInAll u = some (sm (fun i => v.1 2 (89 + i)) nW) := by
  have hb := h.b
  have key := lp_eq (ap := fun (K : Int32 → Int32 → Option Int32) (a : Int32) (i : Int32) => K a i) (z := fun _ _ => none) (b := f_X10_tiredInAll_4 u) (n := nW) (F := fun i acc => acc + v.1 2 (89 + i)) (G := some) (fun K a i hi => ?_) (fun K a => ?_) x_NN 0 (by unfold x_NN; omega)
  · unfold f_X10_tiredInAll; exact key.trans (congrArg some (itr_sm _))
  · show f_X10_tiredInAll_4 u K a (nI i) = _
    unfold f_X10_tiredInAll_4
    rw [h.u3, if_neg (nI_ge hi (by omega)), lt_eq, rg_in (by omega) (by omega), show (x_sub u 24).1 1 i = v.1 2 (89 + i) from h.tired hi, nI_1]
  · show f_X10_tiredInAll_4 u K a (nI nW) = _
    unfold f_X10_tiredInAll_4
    rw [h.u3, if_pos (nI_le (by omega) (by omega))]
theorem c_deepInAll (h : RW nS nF nT nW bB u v) {s : Int32} : f_X10_deepInAll u s = some (itr (fun i acc => if otO v i s = -1 then acc else acc + dpO v i) nF 0) := by
  have hb := h.b
  have key := lp_eq (ap := fun (K : Int32 → Int32 → Int32 → Option Int32) (a : Int32) (i : Int32) => K s a i) (z := fun _ _ _ => none) (b := f_X10_deepInAll_4 u) (n := nF) (F := fun i acc => if otO v i s = -1 then acc else acc + dpO v i) (G := some) (fun K a i hi => ?_) (fun K a => ?_) x_NN 0 (by unfold x_NN; omega)
  · unfold f_X10_deepInAll; exact key
  · show f_X10_deepInAll_4 u K s a (nI i) = _
    unfold f_X10_deepInAll_4 f_X10_deepInAll_36
    rw [h.u1, if_neg (nI_ge hi (by omega)), lt_eq, c_across h hi, lt_eq, c_deepNow h hi, nI_1]
    by_cases c : otO v i s = -1
    · rw [if_pos c, if_pos c]
    · rw [if_neg c, if_neg c]
  · show f_X10_deepInAll_4 u K s a (nI nF) = _
    unfold f_X10_deepInAll_4
    rw [h.u1, if_pos (nI_le (by omega) (by omega))]
end CQ
section RQ
variable {nS nF nT nW bB : Nat} {u v : XM}
theorem r_goers (h : RW nS nF nT nW bB u v) {f : Nat} (hf : f < 12) : f_X12_goers v (nI f) = some (bs (fun i => decide (v.1 2 (79 + i) = nI f)) nW) := by
  have hb := h.b
  have key := lp_eq (ap := fun (K : Int32 → Int32 → Int32 → Option Int32) (a : Int32) (i : Int32) => K (nI f) a i) (z := fun _ _ _ => none) (b := f_X12_goers_4 v) (n := nW) (F := fun i acc => if (decide (v.1 2 (79 + i) = nI f)) = true then acc ||| ((1 : Int32) <<< (nI i &&& 31)) else acc) (G := some) (fun K a i hi => ?_) (fun K a => ?_) x_NN 0 (by unfold x_NN; omega)
  · unfold f_X12_goers; exact key.trans (congrArg some (itr_bs _))
  · show f_X12_goers_4 v K (nI f) a (nI i) = _
    unfold f_X12_goers_4 f_X12_goers_33
    rw [show x_ga v 2 (3 : Int32) = nI nW from by rw [kl_3, ga_in (by omega)]; exact h.v3, if_neg (nI_ge hi (by omega)), kl_79, nI_add, ck_in (by omega) (by omega), ga_in (by omega), lt_eq, nI_1]
    by_cases c : v.1 2 (79 + i) = nI f
    · rw [if_pos c, if_pos (by simpa using c)]
    · rw [if_neg c, if_neg (by simpa using c)]
  · show f_X12_goers_4 v K (nI f) a (nI nW) = _
    unfold f_X12_goers_4
    rw [show x_ga v 2 (3 : Int32) = nI nW from by rw [kl_3, ga_in (by omega)]; exact h.v3, if_pos (nI_le (by omega) (by omega))]
theorem r_known (h : RW nS nF nT nW bB u v) : f_X12_known v = some (om (fun i => v.1 2 (94 + i)) nW) := by
  have hb := h.b
  have key := lp_eq (ap := fun (K : Int32 → Int32 → Option Int32) (a : Int32) (i : Int32) => K a i) (z := fun _ _ => none) (b := f_X12_known_4 v) (n := 5) (F := fun i acc => acc ||| v.1 2 (94 + i)) (G := some) (fun K a i hi => ?_) (fun K a => ?_) x_NN 0 (by unfold x_NN; omega)
  · unfold f_X12_known; exact key.trans (congrArg some ((itr_om _).trans (om_more (by omega) (fun i h1 h2 => (h.out h1 h2).2))))
  · show f_X12_known_4 v K a (nI i) = _
    unfold f_X12_known_4
    rw [kl_5, if_neg (nI_ge hi (by omega)), kl_94, nI_add, ck_in (by omega) (by omega), lt_eq, ga_in (by omega), nI_1]
  · show f_X12_known_4 v K a (nI 5) = _
    unfold f_X12_known_4
    rw [kl_5, if_pos (nI_le (by omega) (by omega))]
theorem r_thingsAt (h : RW nS nF nT nW bB u v) {s : Int32} : x_lp (φ := XM → Int32 → Int32 → Int32 → Option (Int32 × XM)) (fun _ _ _ _ => none) (f_X12_spot_70) x_NN v s 0 0 = some (bs (fun i => decide (v.1 2 (54 + i) = s)) nT, v) := by
  have hb := h.b
  have key := lp_eq (ap := fun (K : XM → Int32 → Int32 → Int32 → Option (Int32 × XM)) (a : Int32) (i : Int32) => K v s a i) (z := fun _ _ _ _ => none) (b := f_X12_spot_70) (n := nT) (F := fun i acc => if (decide (v.1 2 (54 + i) = s)) = true then acc ||| ((1 : Int32) <<< (nI i &&& 31)) else acc) (G := fun a => some (a, v)) (fun K a i hi => ?_) (fun K a => ?_) x_NN 0 (by unfold x_NN; omega)
  · exact key.trans (congrArg (fun q => some (q, v)) (itr_bs _))
  · show f_X12_spot_70 K v s a (nI i) = _
    unfold f_X12_spot_70 f_X12_spot_102
    rw [show x_ga v 2 (2 : Int32) = nI nT from by rw [kl_2, ga_in (by omega)]; exact h.v2, if_neg (nI_ge hi (by omega)), kl_54, nI_add, ck_in (by omega) (by omega), ga_in (by omega), lt_eq, nI_1]
    by_cases c : v.1 2 (54 + i) = s
    · rw [if_pos c, if_pos (by simpa using c)]
    · rw [if_neg c, if_neg (by simpa using c)]
  · show f_X12_spot_70 K v s a (nI nT) = _
    unfold f_X12_spot_70
    rw [show x_ga v 2 (2 : Int32) = nI nT from by rw [kl_2, ga_in (by omega)]; exact h.v2, if_pos (nI_le (by omega) (by omega))]
theorem r_foldsAt (h : RW nS nF nT nW bB u v) {s : Int32} : x_lp (φ := XM → Int32 → Int32 → Int32 → Option (Int32 × XM)) (fun _ _ _ _ => none) (f_X12_spot_113) x_NN v s 0 0 = some (bs (fun i => !decide (otO v i s = -1)) nF, v) := by
  have hb := h.b
  have key := lp_eq (ap := fun (K : XM → Int32 → Int32 → Int32 → Option (Int32 × XM)) (a : Int32) (i : Int32) => K v s a i) (z := fun _ _ _ _ => none) (b := f_X12_spot_113) (n := nF) (F := fun i acc => if (!decide (otO v i s = -1)) = true then acc ||| ((1 : Int32) <<< (nI i &&& 31)) else acc) (G := fun a => some (a, v)) (fun K a i hi => ?_) (fun K a => ?_) x_NN 0 (by unfold x_NN; omega)
  · exact key.trans (congrArg (fun q => some (q, v)) (itr_bs _))
  · show f_X12_spot_113 K v s a (nI i) = _
    unfold f_X12_spot_113 f_X12_spot_142
    rw [show x_ga v 2 (1 : Int32) = nI nF from by rw [kl_1, ga_in (by omega)]; exact h.v1, if_neg (nI_ge hi (by omega)), r_otherEnd (by omega), bo_some, lt_eq, nI_1]
    by_cases c : otO v i s = -1
    · rw [if_pos c, if_neg (by simp [c])]
    · rw [if_neg c, if_pos (by simp [c])]
  · show f_X12_spot_113 K v s a (nI nF) = _
    unfold f_X12_spot_113
    rw [show x_ga v 2 (1 : Int32) = nI nF from by rw [kl_1, ga_in (by omega)]; exact h.v1, if_pos (nI_le (by omega) (by omega))]
theorem r_walkersAt (h : RW nS nF nT nW bB u v) {s : Int32} : x_lp (φ := XM → Int32 → Int32 → Int32 → Option (Int32 × XM)) (fun _ _ _ _ => none) (f_X12_spot_153) x_NN v s 0 0 = some (bs (fun i => !goB v i && decide (v.1 2 (74 + i) = s)) nW, v) := by
  have hb := h.b
  have key := lp_eq (ap := fun (K : XM → Int32 → Int32 → Int32 → Option (Int32 × XM)) (a : Int32) (i : Int32) => K v s a i) (z := fun _ _ _ _ => none) (b := f_X12_spot_153) (n := nW) (F := fun i acc => if (!goB v i && decide (v.1 2 (74 + i) = s)) = true then acc ||| ((1 : Int32) <<< (nI i &&& 31)) else acc) (G := fun a => some (a, v)) (fun K a i hi => ?_) (fun K a => ?_) x_NN 0 (by unfold x_NN; omega)
  · exact key.trans (congrArg (fun q => some (q, v)) (itr_bs _))
  · show f_X12_spot_153 K v s a (nI i) = _
    unfold f_X12_spot_153 f_X12_spot_194
    rw [show x_ga v 2 (3 : Int32) = nI nW from by rw [kl_3, ga_in (by omega)]; exact h.v3, if_neg (nI_ge hi (by omega)), r_isGoing (by omega), bo_some, kl_74, nI_add, ck_in (by omega) (by omega), ga_in (by omega), lt_eq, nI_1]
    cases goB v i <;> by_cases c : v.1 2 (74 + i) = s <;> simp [c, bI]
  · show f_X12_spot_153 K v s a (nI nW) = _
    unfold f_X12_spot_153
    rw [show x_ga v 2 (3 : Int32) = nI nW from by rw [kl_3, ga_in (by omega)]; exact h.v3, if_pos (nI_le (by omega) (by omega))]
theorem r_goersAll (h : RW nS nF nT nW bB u v) : x_lp (φ := XM → Int32 → Int32 → Option (Int32 × XM)) (fun _ _ _ => none) (f_X12_now_74) x_NN v 0 0 = some (bs (fun i => goB v i) nW, v) := by
  have hb := h.b
  have key := lp_eq (ap := fun (K : XM → Int32 → Int32 → Option (Int32 × XM)) (a : Int32) (i : Int32) => K v a i) (z := fun _ _ _ => none) (b := f_X12_now_74) (n := nW) (F := fun i acc => if (goB v i) = true then acc ||| ((1 : Int32) <<< (nI i &&& 31)) else acc) (G := fun a => some (a, v)) (fun K a i hi => ?_) (fun K a => ?_) x_NN 0 (by unfold x_NN; omega)
  · exact key.trans (congrArg (fun q => some (q, v)) (itr_bs _))
  · show f_X12_now_74 K v  a (nI i) = _
    unfold f_X12_now_74 f_X12_now_98
    rw [show x_ga v 2 (3 : Int32) = nI nW from by rw [kl_3, ga_in (by omega)]; exact h.v3, if_neg (nI_ge hi (by omega)), r_isGoing (by omega), bo_some, lt_eq, nI_1]
    cases goB v i <;> rfl
  · show f_X12_now_74 K v  a (nI nW) = _
    unfold f_X12_now_74
    rw [show x_ga v 2 (3 : Int32) = nI nW from by rw [kl_3, ga_in (by omega)]; exact h.v3, if_pos (nI_le (by omega) (by omega))]
theorem r_slipped0 (h : RW nS nF nT nW bB u v) : x_lp (φ := XM → Int32 → Int32 → Option (Int32 × XM)) (fun _ _ _ => none) (f_X12_now_108) x_NN v 0 0 = some (bs (fun i => !decide (v.1 2 (99 + i) ≤ 0)) 12, v) := by
  have hb := h.b
  have key := lp_eq (ap := fun (K : XM → Int32 → Int32 → Option (Int32 × XM)) (a : Int32) (i : Int32) => K v a i) (z := fun _ _ _ => none) (b := f_X12_now_108) (n := 12) (F := fun i acc => if (!decide (v.1 2 (99 + i) ≤ 0)) = true then acc ||| ((1 : Int32) <<< (nI i &&& 31)) else acc) (G := fun a => some (a, v)) (fun K a i hi => ?_) (fun K a => ?_) x_NN 0 (by unfold x_NN; omega)
  · exact key.trans (congrArg (fun q => some (q, v)) (itr_bs _))
  · show f_X12_now_108 K v  a (nI i) = _
    unfold f_X12_now_108 f_X12_now_132
    rw [kl_12, if_neg (nI_ge hi (by omega)), kl_99, nI_add, ck_in (by omega) (by omega), ga_in (by omega), lt_eq, nI_1]
    by_cases c : v.1 2 (99 + i) ≤ 0
    · rw [if_pos c, if_neg (by simp [c])]
    · rw [if_neg c, if_pos (by simp [c])]
  · show f_X12_now_108 K v  a (nI 12) = _
    unfold f_X12_now_108
    rw [kl_12, if_pos (nI_le (by omega) (by omega))]
theorem r_slipped (h : RW nS nF nT nW bB u v) : x_lp (φ := XM → Int32 → Int32 → Option (Int32 × XM)) (fun _ _ _ => none) (f_X12_now_108) x_NN v 0 0 = some (bs (fun i => !decide (v.1 2 (99 + i) ≤ 0)) nF, v) := by
  have hb := h.b
  rw [r_slipped0 h, bs_more (n := nF) (by omega) (fun i h1 h2 => by rw [h.slpO h1 h2]; decide)]
theorem r_tiredAll (h : RW nS nF nT nW bB u v) : x_lp (φ := XM → Int32 → Int32 → Option (Int32 × XM)) (fun _ _ _ => none) (f_X12_now_181) x_NN v 0 0 = some (sm (fun i => v.1 2 (89 + i)) nW, v) := by
  have hb := h.b
  have key := lp_eq (ap := fun (K : XM → Int32 → Int32 → Option (Int32 × XM)) (a : Int32) (i : Int32) => K v a i) (z := fun _ _ _ => none) (b := f_X12_now_181) (n := 5) (F := fun i acc => acc + v.1 2 (89 + i)) (G := fun a => some (a, v)) (fun K a i hi => ?_) (fun K a => ?_) x_NN 0 (by unfold x_NN; omega)
  · exact key.trans (congrArg (fun q => some (q, v)) ((itr_sm _).trans (sm_more (by omega) (fun i h1 h2 => (h.out h1 h2).1))))
  · show f_X12_now_181 K v a (nI i) = _
    unfold f_X12_now_181
    rw [kl_5, if_neg (nI_ge hi (by omega)), kl_89, nI_add, ck_in (by omega) (by omega), lt_eq, ga_in (by omega), nI_1]
  · show f_X12_now_181 K v a (nI 5) = _
    unfold f_X12_now_181
    rw [kl_5, if_pos (nI_le (by omega) (by omega))]
end RQ
