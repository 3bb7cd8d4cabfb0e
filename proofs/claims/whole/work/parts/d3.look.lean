-- of whom it may be said.
def cmpB (a s y : Int32) : Bool := if s = 60 then !decide (y ≤ a) else if s = 62 then !decide (a ≤ y) else decide (a = y)
/-- may ONE, plain, be said of p -/
def oneB (nS : Nat) (v : XM) (w : Nat) (s x : Int32) (p : Nat) : Bool :=
  if w = 20 then goB v p else if w = 21 then !goB v p && decide ((v.1 2 5 >>> (v.1 2 (74 + p) &&& 31)) &&& 1 = 1) else if w = 22 then lsB nS v p else if w = 23 then !goB v p && decide (v.1 2 (74 + p) = x) else if w = 24 then decide ((v.1 2 (94 + p) >>> (x &&& 31)) &&& 1 = 1) else if w = 25 then cmpB (v.1 2 (84 + p)) s x else if w = 26 then cmpB (v.1 2 (89 + p)) s x else if w = 27 then cmpB (v.1 2 (65 + p)) s x else cmpB (nI p) s x
section D3
variable {nS nF nT nW bB k p w d : Nat} {v v' u D : XM} {s x : Int32} {G : Nat → Int32} {rc : XM → Int32 → Int32 → Option (Int32 × XM)}
theorem c_cmp {a s y : Int32} : f_X4_compares a s y = bI (cmpB a s y) := by
  unfold f_X4_compares cmpB
  by_cases c1 : s = 60
  · rw [if_pos c1, if_pos c1]
    by_cases c : y ≤ a
    · rw [if_pos c, decide_eq_true c]; rfl
    · rw [if_neg c, decide_eq_false c]; rfl
  · rw [if_neg c1, if_neg c1]
    by_cases c2 : s = 62
    · rw [if_pos c2, if_pos c2]
      by_cases c : a ≤ y
      · rw [if_pos c, decide_eq_true c]; rfl
      · rw [if_neg c, decide_eq_false c]; rfl
    · rw [if_neg c2, if_neg c2]
      by_cases c : a = y
      · rw [if_pos c, decide_eq_true c]; rfl
      · rw [if_neg c, decide_eq_false c]; rfl
theorem dI {P : Prop} [Decidable P] : (if P then (1 : Int32) else 0) = bI (decide P) := by
  by_cases c : P
  · rw [if_pos c, decide_eq_true c]; rfl
  · rw [if_neg c, decide_eq_false c]; rfl
theorem c_fits (h : RW nS nF nT nW bB u v) (hk : k < 40) (hp : p < nW) (hw : 20 ≤ w) (hw2 : w ≤ 28) (h22 : w ≠ 22) (e2 : D.1 2 k = nI w) (e4 : D.1 4 k = s) (e6 : D.1 6 k = x) : f_X4_fits D u (nI k) (nI p) = bI (oneB nS v w s x p) := by
  have hb := h.b
  have g6 : r_get 40 (x_sub D 5) (nI k) = x := (rg_in hk (by omega)).trans e6
  have g2 : r_get 40 (x_sub D 1) (nI k) = nI w := (rg_in hk (by omega)).trans e2
  have g4 : r_get 40 (x_sub D 3) (nI k) = s := (rg_in hk (by omega)).trans e4
  have gA : r_get 5 (x_sub u 18) (nI p) = v.1 2 (74 + p) := (rg_in (by omega) (by omega)).trans (h.at_ hp)
  have gK : r_get 5 (x_sub u 26) (nI p) = v.1 2 (94 + p) := (rg_in (by omega) (by omega)).trans (h.known hp)
  have gL : r_get 5 (x_sub u 22) (nI p) = v.1 2 (84 + p) := (rg_in (by omega) (by omega)).trans (h.left hp)
  have gT : r_get 5 (x_sub u 24) (nI p) = v.1 2 (89 + p) := (rg_in (by omega) (by omega)).trans (h.tired hp)
  have gP : r_get 5 (x_sub u 14) (nI p) = v.1 2 (65 + p) := (rg_in (by omega) (by omega)).trans (h.pace hp)
  unfold f_X4_fits oneB
  rw [g6, g2]
  simp only [lt_eq]
  have ww : w = 20 ∨ w = 21 ∨ w = 23 ∨ w = 24 ∨ w = 25 ∨ w = 26 ∨ w = 27 ∨ w = 28 := by omega
  rcases ww with rfl | rfl | rfl | rfl | rfl | rfl | rfl | rfl
  · rw [if_pos (show nI 20 = 20 from rfl), if_pos rfl, c_isGoing h hp]
  · rw [if_neg (show ¬ nI 21 = 20 by decide), if_pos (show nI 21 = 21 from rfl), if_neg (by decide), if_pos rfl]
    unfold f_X10_isHoused
    rw [c_isGoing h hp, gA, show u.1 1 5 = v.1 2 5 from h.u5]
    simp only [lt_eq]
    cases goB v p with
    | true => rw [if_neg (show ¬ bI true = 0 by decide)]; rfl
    | false => rw [if_pos bIf, dI]; rfl
  · rw [if_neg (show ¬ nI 23 = 20 by decide), if_neg (show ¬ nI 23 = 21 by decide), if_neg (show ¬ nI 23 = 22 by decide), if_pos (show nI 23 = 23 from rfl), if_neg (by decide), if_neg (by decide), if_neg (by decide), if_pos rfl]
    unfold f_X10_isAt
    rw [c_isGoing h hp, gA]
    simp only [lt_eq]
    cases goB v p with
    | true => rw [if_neg (show ¬ bI true = 0 by decide)]; rfl
    | false => rw [if_pos bIf, dI]; rfl
  · rw [if_neg (show ¬ nI 24 = 20 by decide), if_neg (show ¬ nI 24 = 21 by decide), if_neg (show ¬ nI 24 = 22 by decide), if_neg (show ¬ nI 24 = 23 by decide), if_pos (show nI 24 = 24 from rfl), gK, dI, if_neg (show ¬ (24 : Nat) = 20 by decide), if_neg (show ¬ (24 : Nat) = 21 by decide), if_neg (show ¬ (24 : Nat) = 22 by decide), if_neg (show ¬ (24 : Nat) = 23 by decide), if_pos rfl]
  · rw [if_neg (show ¬ nI 25 = 20 by decide), if_neg (show ¬ nI 25 = 21 by decide), if_neg (show ¬ nI 25 = 22 by decide), if_neg (show ¬ nI 25 = 23 by decide), if_neg (show ¬ nI 25 = 24 by decide), if_pos (show nI 25 = 25 from rfl), if_neg (by decide), if_neg (by decide), if_neg (by decide), if_neg (by decide), if_neg (by decide), if_pos rfl, gL, g4, c_cmp]
  · rw [if_neg (show ¬ nI 26 = 20 by decide), if_neg (show ¬ nI 26 = 21 by decide), if_neg (show ¬ nI 26 = 22 by decide), if_neg (show ¬ nI 26 = 23 by decide), if_neg (show ¬ nI 26 = 24 by decide), if_neg (show ¬ nI 26 = 25 by decide), if_pos (show nI 26 = 26 from rfl), if_neg (by decide), if_neg (by decide), if_neg (by decide), if_neg (by decide), if_neg (by decide), if_neg (by decide), if_pos rfl, gT, g4, c_cmp]
  · rw [if_neg (show ¬ nI 27 = 20 by decide), if_neg (show ¬ nI 27 = 21 by decide), if_neg (show ¬ nI 27 = 22 by decide), if_neg (show ¬ nI 27 = 23 by decide), if_neg (show ¬ nI 27 = 24 by decide), if_neg (show ¬ nI 27 = 25 by decide), if_neg (show ¬ nI 27 = 26 by decide), if_pos (show nI 27 = 27 from rfl), if_neg (by decide), if_neg (by decide), if_neg (by decide), if_neg (by decide), if_neg (by decide), if_neg (by decide), if_neg (by decide), if_pos rfl, gP, g4, c_cmp]
  · rw [if_neg (show ¬ nI 28 = 20 by decide), if_neg (show ¬ nI 28 = 21 by decide), if_neg (show ¬ nI 28 = 22 by decide), if_neg (show ¬ nI 28 = 23 by decide), if_neg (show ¬ nI 28 = 24 by decide), if_neg (show ¬ nI 28 = 25 by decide), if_neg (show ¬ nI 28 = 26 by decide), if_neg (show ¬ nI 28 = 27 by decide), if_neg (by decide), if_neg (by decide), if_neg (by decide), if_neg (by decide), if_neg (by decide), if_neg (by decide), if_neg (by decide), if_neg (by decide), g4, c_cmp]
theorem c_fitting (h : RW nS nF nT nW bB u v) (hk : k < 40) (hw : 20 ≤ w) (hw2 : w ≤ 28) (h22 : w ≠ 22) (e2 : D.1 2 k = nI w) (e4 : D.1 4 k = s) (e6 : D.1 6 k = x) : f_X4_fitting D u (nI k) = some (bs (oneB nS v w s x) nW) := by
  have hb := h.b
  unfold f_X4_fitting
  refine (lp_eq (n := nW) (fun (K : Int32 → Int32 → Int32 → Option (Int32)) a i => K (nI k) a i) (fun i acc => if oneB nS v w s x i = true then acc ||| ((1 : Int32) <<< (nI i &&& 31)) else acc) (fun a => some a) ?_ ?_ x_NN 0 (by show nW < 1000000; omega)).trans (congrArg some (itr_bs nW))
  · intro K a i hi
    show f_X4_fitting_5 D u K (nI k) a (nI i) = _
    unfold f_X4_fitting_5 f_X4_fitting_35
    rw [show u.1 1 3 = nI nW from h.u3, if_neg (nI_ge hi (by omega)), c_fits h hk hi hw hw2 h22 e2 e4 e6, lt_eq, nI_1]
    cases oneB nS v w s x i with
    | true => rw [if_neg (show ¬ bI true = 0 by decide), if_pos rfl, lt_eq]
    | false => rw [if_pos bIf, if_neg ft]
  · intro K a
    show f_X4_fitting_5 D u K (nI k) a (nI nW) = _
    unfold f_X4_fitting_5
    rw [show u.1 1 3 = nI nW from h.u3, if_pos (nI_le (Nat.le_refl _) (by omega))]
/-- the reference: what joins others -/
theorem r_holds {n0 n1 n2 : Int32} (hk : k < 60) (h0 : v.1 2 (113 + 4 * k) = n0) (h1 : v.1 2 (113 + 4 * k + 1) = n1) (h2 : v.1 2 (113 + 4 * k + 2) = n2) {q : Int32} : (n0 = 1 → f_X12_holds rc v (nI k) q = x_bo (rc v n1 q) (fun y5 => if y5.1 = (0 : Int32) then some ((1 : Int32), y5.2) else some ((0 : Int32), y5.2))) ∧ (n0 = 2 → f_X12_holds rc v (nI k) q = x_bo (rc v n1 q) (fun y6 => if y6.1 = (0 : Int32) then some ((0 : Int32), y6.2) else x_bo (rc y6.2 n2 q) (fun y7 => if y7.1 = (0 : Int32) then some ((0 : Int32), y7.2) else some ((1 : Int32), y7.2)))) ∧ (n0 = 3 → f_X12_holds rc v (nI k) q = x_bo (rc v n1 q) (fun y8 => if y8.1 = (0 : Int32) then x_bo (rc y8.2 n2 q) (fun y9 => if y9.1 = (0 : Int32) then some ((0 : Int32), y9.2) else some ((1 : Int32), y9.2)) else some ((1 : Int32), y8.2))) := by
  have a0 : (113 : Int32) + (4 : Int32) * nI k = nI (113 + 4 * k) := by rw [kl_113, kl_4, pk_mul, nI_add]
  have a2 : nI (113 + 4 * k) + 2 = nI (113 + 4 * k + 2) := by rw [kl_2, nI_add]
  refine ⟨?_, ?_, ?_⟩ <;> rintro rfl <;> (unfold f_X12_holds; rw [a0]; simp only [lt_eq]; rw [nI_1 (113 + 4 * k), a2, ck_in (by omega) (by omega), ck_in (by omega) (by omega), ck_in (by omega) (by omega), ga_in (by omega), ga_in (by omega), ga_in (by omega), h0, h1, h2])
  · rw [if_pos rfl]
  · rw [if_neg (by decide), if_pos rfl]
  · rw [if_neg (by decide), if_neg (by decide), if_pos rfl]
end D3
