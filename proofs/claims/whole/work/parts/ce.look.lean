-- LINES of a VALLEY.
def LineP (n lim b : Nat) (T0 v0 : XM) (r : Int32 × XM × XM) (q : Int32 × XM) : Prop := (r.1 = 0 ∧ q.1 = 0 ∧ Bd T0 v0 r.2.2 q.2) ∨ (r.1 = 1 ∧ q.1 = 1 ∧ ∃ (nS nF nT nW bB b' p' s' : Nat) (t' : Tok), b ≤ b' ∧ DR nS nF nT nW bB r.2.1 q.2 ∧ St n lim b' p' s' t' T0 v0 r.2.2 q.2)
def jnB (hd : Nat → Int32) (a b f : Nat) : Bool := (decide (hd (6 + f) = nI a) && decide (hd (18 + f) = nI b)) || (decide (hd (6 + f) = nI b) && decide (hd (18 + f) = nI a))
theorem anB_n {q : Nat → Bool} {n : Nat} (h : ∀ i, i < n → q i = false) : anB q n = false := by
  cases c : anB q n with
  | false => rfl
  | true => obtain ⟨i, hi, e⟩ := (anB_iff n).mp c; rw [h i hi] at e; exact absurd e ft
section CE
variable {n lim b p s a k nS nF nT nW bB : Nat} {t : Tok} {T v T' v' T'' v'' T0 v0 D D' : XM} {l : List Nat} {cv cv' : Nat → Nat → Int32} {hd hd' : Nat → Int32}
theorem c_joined (h : RV nS nF nT nW bB (fun i => D.1 (i + 1)) (v.1 3)) {x y : Nat} (hx : x < nS) (hy : y < nS) (hxy : x ≠ y) : f_X9_areJoined (x_sub D 1) (nI x) (nI y) = some (bI (anB (jnB (v.1 3) x y) nF)) ∧ f_X12_isLaid v (nI x) (nI y) = some (bI (anB (jnB (v.1 3) x y) nF)) := by
  obtain ⟨hb, h2, h3, h4, h5, h6, h7⟩ := h
  constructor
  · unfold f_X9_areJoined
    refine wp_eq.mp (lp_fora (σ := Unit) (n := nF) (fun (K : Int32 → Int32 → Int32 → Option (Int32)) _ c => K (nI x) (nI y) c) (fun i _ => ∀ f, f < i → jnB (v.1 3) x y f = false) _ ?_ ?_ x_NN () (by show nF < 1000000; omega) (fun k hk => absurd hk (Nat.not_lt_zero _)))
    · rintro K i _ hi hp ih
      show wp (f_X9_areJoined_2 (x_sub D 1) K (nI x) (nI y) (nI i)) _
      obtain ⟨e1, e2, -, -⟩ := h4 i hi
      obtain ⟨c1, c2, -, q1, q2, q3, -, -, q4, q5, -⟩ := h5 i hi
      have e1 : D.1 3 i = v.1 3 (6 + i) := e1
      have e2 : D.1 5 i = v.1 3 (18 + i) := e2
      unfold f_X9_areJoined_2 f_X9_across
      simp only [lt_eq]
      rw [show (x_sub D 1).1 0 1 = nI nF from h3.2.1, if_neg (nI_ge hi (by omega)), rg_in (by omega) (by omega), rg_in (by omega) (by omega), show (x_sub (x_sub D 1) 1).1 1 i = nI c1 from e1.trans q4, show (x_sub (x_sub D 1) 3).1 1 i = nI c2 from e2.trans q5, nI_1]
      have hj : jnB (v.1 3) x y i = true ↔ (c1 = x ∧ c2 = y) ∨ (c1 = y ∧ c2 = x) := by
        unfold jnB
        rw [q4, q5, Bool.or_eq_true, Bool.and_eq_true, Bool.and_eq_true, decide_eq_true_eq, decide_eq_true_eq, decide_eq_true_eq, decide_eq_true_eq, nI_eq (by omega) (by omega), nI_eq (by omega) (by omega), nI_eq (by omega) (by omega), nI_eq (by omega) (by omega)]
      have yes : (c1 = x ∧ c2 = y) ∨ (c1 = y ∧ c2 = x) → wp (some ((1 : Int32) : Int32)) (fun r => r = bI (anB (jnB (v.1 3) x y) nF)) := fun z => by
        rw [wp_some, (anB_iff nF).mpr ⟨i, hi, hj.mpr z⟩]; rfl
      have no : ¬ ((c1 = x ∧ c2 = y) ∨ (c1 = y ∧ c2 = x)) → wp (K (nI x) (nI y) (nI (i + 1))) (fun r => r = bI (anB (jnB (v.1 3) x y) nF)) := fun z => by
        refine ih () (fun f hf => ?_)
        by_cases cf : f = i
        · rw [cf]; exact Bool.eq_false_iff.mpr (fun w => z (hj.mp w))
        · exact hp f (by omega)
      by_cases d1 : c1 = x
      · rw [if_pos (show nI c1 = nI x by rw [d1])]
        by_cases d2 : c2 = y
        · rw [if_pos (show nI c2 = nI y by rw [d2])]; exact yes (Or.inl ⟨d1, d2⟩)
        · rw [if_neg (show ¬ nI c2 = nI y from fun w => d2 (nI_iff (by omega) (by omega) w))]; exact no (by omega)
      · rw [if_neg (show ¬ nI c1 = nI x from fun w => d1 (nI_iff (by omega) (by omega) w))]
        by_cases d2 : c2 = x
        · rw [if_pos (show nI c2 = nI x by rw [d2])]
          by_cases d3 : c1 = y
          · rw [if_pos (show nI c1 = nI y by rw [d3])]; exact yes (Or.inr ⟨d3, d2⟩)
          · rw [if_neg (show ¬ nI c1 = nI y from fun w => d3 (nI_iff (by omega) (by omega) w))]; exact no (by omega)
        · rw [if_neg (show ¬ nI c2 = nI x from fun w => d2 (nI_iff (by omega) (by omega) w)), if_neg (show ¬ (-1 : Int32) = nI y from fun w => nI_nm1 (by omega) w.symm)]; exact no (by omega)
    · rintro K _ hp
      show wp (f_X9_areJoined_2 (x_sub D 1) K (nI x) (nI y) (nI nF)) _
      unfold f_X9_areJoined_2
      rw [show (x_sub D 1).1 0 1 = nI nF from h3.2.1, if_pos (nI_le (Nat.le_refl _) (by omega)), wp_some, anB_n hp]; rfl
  · unfold f_X12_isLaid
    have hv : x_ga v 3 (1 : Int32) = nI nF := by rw [kl_1, ga_in (by omega)]; exact h2.2.1
    refine wp_eq.mp (lp_fora (σ := Unit) (n := nF) (fun (K : Int32 → Int32 → Int32 → Option (Int32)) _ c => K (nI x) (nI y) c) (fun i _ => ∀ f, f < i → jnB (v.1 3) x y f = false) _ ?_ ?_ x_NN () (by show nF < 1000000; omega) (fun k hk => absurd hk (Nat.not_lt_zero _)))
    · rintro K i _ hi hp ih
      show wp (f_X12_isLaid_2 v K (nI x) (nI y) (nI i)) _
      obtain ⟨c1, c2, -, q1, q2, q3, -, -, q4, q5, -⟩ := h5 i hi
      have hj : jnB (v.1 3) x y i = true ↔ (c1 = x ∧ c2 = y) ∨ (c1 = y ∧ c2 = x) := by
        unfold jnB
        rw [q4, q5, Bool.or_eq_true, Bool.and_eq_true, Bool.and_eq_true, decide_eq_true_eq, decide_eq_true_eq, decide_eq_true_eq, decide_eq_true_eq, nI_eq (by omega) (by omega), nI_eq (by omega) (by omega), nI_eq (by omega) (by omega), nI_eq (by omega) (by omega)]
      have yes : (c1 = x ∧ c2 = y) ∨ (c1 = y ∧ c2 = x) → wp (some ((1 : Int32) : Int32)) (fun r => r = bI (anB (jnB (v.1 3) x y) nF)) := fun z => by
        rw [wp_some, (anB_iff nF).mpr ⟨i, hi, hj.mpr z⟩]; rfl
      have no : ¬ ((c1 = x ∧ c2 = y) ∨ (c1 = y ∧ c2 = x)) → wp (K (nI x) (nI y) (nI (i + 1))) (fun r => r = bI (anB (jnB (v.1 3) x y) nF)) := fun z => by
        refine ih () (fun f hf => ?_)
        by_cases cf : f = i
        · rw [cf]; exact Bool.eq_false_iff.mpr (fun w => z (hj.mp w))
        · exact hp f (by omega)
      unfold f_X12_isLaid_2 f_X12_isLaid_38 f_X12_isLaid_66
      rw [hv, if_neg (nI_ge hi (by omega)), kl_6, kl_18, nI_add, nI_add, ck_in (by omega) (by omega), ck_in (by omega) (by omega), ck_in (by omega) (by omega), ck_in (by omega) (by omega), ga_in (by omega), ga_in (by omega), q4, q5, nI_1]
      by_cases d1 : c1 = x
      · rw [if_pos (show nI c1 = nI x by rw [d1])]
        by_cases d2 : c2 = y
        · rw [if_pos (show nI c2 = nI y by rw [d2])]; exact yes (Or.inl ⟨d1, d2⟩)
        · rw [if_neg (show ¬ nI c2 = nI y from fun w => d2 (nI_iff (by omega) (by omega) w)), if_neg (show ¬ nI c1 = nI y from fun w => by have := nI_iff (by omega) (by omega) w; omega)]; exact no (by omega)
      · rw [if_neg (show ¬ nI c1 = nI x from fun w => d1 (nI_iff (by omega) (by omega) w))]
        by_cases d2 : c1 = y
        · rw [if_pos (show nI c1 = nI y by rw [d2])]
          by_cases d3 : c2 = x
          · rw [if_pos (show nI c2 = nI x by rw [d3])]; exact yes (Or.inr ⟨d2, d3⟩)
          · rw [if_neg (show ¬ nI c2 = nI x from fun w => d3 (nI_iff (by omega) (by omega) w))]; exact no (by omega)
        · rw [if_neg (show ¬ nI c1 = nI y from fun w => d2 (nI_iff (by omega) (by omega) w))]; exact no (by omega)
    · rintro K _ hp
      show wp (f_X12_isLaid_2 v K (nI x) (nI y) (nI nF)) _
      unfold f_X12_isLaid_2
      rw [hv, if_pos (nI_le (Nat.le_refl _) (by omega)), wp_some, anB_n hp]; rfl
theorem RV.spot (h : RV nS nF nT nW bB cv hd) (hS : nS < 8) (c0 : cv' 0 0 = nI (nS + 1)) (c5 : cv' 0 5 = hd' 5) (cj : ∀ j, 1 ≤ j → j < 5 → cv' 0 j = cv 0 j) (ci : ∀ i, i ≠ 0 → cv' i = cv i) (d0 : hd' 0 = nI (nS + 1)) (dj : ∀ j, j ≠ 0 → j ≠ 5 → hd' j = hd j) : RV (nS + 1) nF nT nW bB cv' hd' := by
  obtain ⟨hb, h2, h3, h4, h5, h6, h7⟩ := h
  refine ⟨by omega, ⟨d0, ?_, ?_, ?_, ?_⟩, ⟨c0, ?_, ?_, ?_, ?_, c5⟩, fun f hf => ?_, fun f hf => ?_, fun t ht => ?_, fun w hw => ?_⟩
  · rw [dj 1 (by omega) (by omega)]; exact h2.2.1
  · rw [dj 2 (by omega) (by omega)]; exact h2.2.2.1
  · rw [dj 3 (by omega) (by omega)]; exact h2.2.2.2.1
  · rw [dj 4 (by omega) (by omega)]; exact h2.2.2.2.2
  · rw [cj 1 (by omega) (by omega)]; exact h3.2.1
  · rw [cj 2 (by omega) (by omega)]; exact h3.2.2.1
  · rw [cj 3 (by omega) (by omega)]; exact h3.2.2.2.1
  · rw [cj 4 (by omega) (by omega)]; exact h3.2.2.2.2.1
  · rw [ci 2 (by omega), ci 4 (by omega), ci 6 (by omega), ci 8 (by omega), dj _ (by omega) (by omega), dj _ (by omega) (by omega), dj _ (by omega) (by omega), dj _ (by omega) (by omega)]; exact h4 f hf
  · obtain ⟨a, b, d, q1, q2, q3⟩ := h5 f hf
    exact ⟨a, b, d, by omega, by omega, by rw [dj _ (by omega) (by omega), dj _ (by omega) (by omega), dj _ (by omega) (by omega)]; exact q3⟩
  · obtain ⟨q1, s, q2, q3⟩ := h6 t ht
    rw [ci 10 (by omega), dj _ (by omega) (by omega)]
    exact ⟨q1, s, by omega, q3⟩
  · obtain ⟨q1, q2, s, p, q3, q4⟩ := h7 w hw
    rw [ci 12 (by omega), ci 14 (by omega), dj _ (by omega) (by omega), dj _ (by omega) (by omega)]
    exact ⟨q1, q2, s, p, by omega, q4⟩
theorem RV.breath (h : RV nS nF nT nW bB cv hd) {m : Nat} (hm : 2 ≤ m ∧ m ≤ 40) (c4 : cv' 0 4 = nI m) (cj : ∀ j, j ≠ 4 → cv' 0 j = cv 0 j) (ci : ∀ i, i ≠ 0 → cv' i = cv i) (d4 : hd' 4 = nI m) (dj : ∀ j, j ≠ 4 → hd' j = hd j) : RV nS nF nT nW m cv' hd' := by
  obtain ⟨hb, h2, h3, h4, h5, h6, h7⟩ := h
  refine ⟨by omega, ⟨?_, ?_, ?_, ?_, d4⟩, ⟨?_, ?_, ?_, ?_, c4, ?_⟩, fun f hf => ?_, fun f hf => ?_, fun t ht => ?_, fun w hw => ?_⟩
  · rw [dj 0 (by omega)]; exact h2.1
  · rw [dj 1 (by omega)]; exact h2.2.1
  · rw [dj 2 (by omega)]; exact h2.2.2.1
  · rw [dj 3 (by omega)]; exact h2.2.2.2.1
  · rw [cj 0 (by omega)]; exact h3.1
  · rw [cj 1 (by omega)]; exact h3.2.1
  · rw [cj 2 (by omega)]; exact h3.2.2.1
  · rw [cj 3 (by omega)]; exact h3.2.2.2.1
  · rw [cj 5 (by omega), dj 5 (by omega)]; exact h3.2.2.2.2.2
  · rw [ci 2 (by omega), ci 4 (by omega), ci 6 (by omega), ci 8 (by omega), dj _ (by omega), dj _ (by omega), dj _ (by omega), dj _ (by omega)]; exact h4 f hf
  · rw [dj _ (by omega), dj _ (by omega), dj _ (by omega)]; exact h5 f hf
  · rw [ci 10 (by omega), dj _ (by omega)]; exact h6 t ht
  · rw [ci 12 (by omega), ci 14 (by omega), dj _ (by omega), dj _ (by omega)]; exact h7 w hw
theorem RV.thing (h : RV nS nF nT nW bB cv hd) (hT : nT < 6) {x : Nat} (hx : x < nS) (c2 : cv' 0 2 = nI (nT + 1)) (cj : ∀ j, j ≠ 2 → cv' 0 j = cv 0 j) (ci : ∀ i, i ≠ 0 → i ≠ 10 → cv' i = cv i) (ct : cv' 10 = up (cv 10) nT (nI x)) (d2 : hd' 2 = nI (nT + 1)) (dt : hd' (54 + nT) = nI x) (dj : ∀ j, j ≠ 2 → j ≠ 54 + nT → hd' j = hd j) : RV nS nF (nT + 1) nW bB cv' hd' := by
  obtain ⟨hb, h2, h3, h4, h5, h6, h7⟩ := h
  refine ⟨by omega, ⟨?_, ?_, d2, ?_, ?_⟩, ⟨?_, ?_, c2, ?_, ?_, ?_⟩, fun f hf => ?_, fun f hf => ?_, fun t ht => ?_, fun w hw => ?_⟩
  · rw [dj 0 (by omega) (by omega)]; exact h2.1
  · rw [dj 1 (by omega) (by omega)]; exact h2.2.1
  · rw [dj 3 (by omega) (by omega)]; exact h2.2.2.2.1
  · rw [dj 4 (by omega) (by omega)]; exact h2.2.2.2.2
  · rw [cj 0 (by omega)]; exact h3.1
  · rw [cj 1 (by omega)]; exact h3.2.1
  · rw [cj 3 (by omega)]; exact h3.2.2.2.1
  · rw [cj 4 (by omega)]; exact h3.2.2.2.2.1
  · rw [cj 5 (by omega), dj 5 (by omega) (by omega)]; exact h3.2.2.2.2.2
  · rw [ci 2 (by omega) (by omega), ci 4 (by omega) (by omega), ci 6 (by omega) (by omega), ci 8 (by omega) (by omega), dj _ (by omega) (by omega), dj _ (by omega) (by omega), dj _ (by omega) (by omega), dj _ (by omega) (by omega)]; exact h4 f hf
  · rw [dj _ (by omega) (by omega), dj _ (by omega) (by omega), dj _ (by omega) (by omega)]; exact h5 f hf
  · by_cases c : t = nT
    · subst c
      rw [ct, up_eq, dt]; exact ⟨rfl, x, hx, rfl⟩
    · rw [ct, up_ne c, dj _ (by omega) (by omega)]; exact h6 t (by omega)
  · rw [ci 12 (by omega) (by omega), ci 14 (by omega) (by omega), dj _ (by omega) (by omega), dj _ (by omega) (by omega)]; exact h7 w hw
theorem RV.walker (h : RV nS nF nT nW bB cv hd) (hW : nW < 5) {x y : Nat} (hx : x < nS) (hy : 1 ≤ y ∧ y ≤ 5) (c2 : cv' 0 3 = nI (nW + 1)) (cj : ∀ j, j ≠ 3 → cv' 0 j = cv 0 j) (ci : ∀ i, i ≠ 0 → i ≠ 12 → i ≠ 14 → cv' i = cv i) (ct : cv' 12 = up (cv 12) nW (nI x)) (ct2 : cv' 14 = up (cv 14) nW (nI y)) (d2 : hd' 3 = nI (nW + 1)) (dt : hd' (60 + nW) = nI x) (dt2 : hd' (65 + nW) = nI y) (dj : ∀ j, j ≠ 3 → j ≠ 60 + nW → j ≠ 65 + nW → hd' j = hd j) : RV nS nF nT (nW + 1) bB cv' hd' := by
  obtain ⟨hb, h2, h3, h4, h5, h6, h7⟩ := h
  refine ⟨by omega, ⟨?_, ?_, ?_, d2, ?_⟩, ⟨?_, ?_, ?_, c2, ?_, ?_⟩, fun f hf => ?_, fun f hf => ?_, fun t ht => ?_, fun w hw => ?_⟩
  · rw [dj 0 (by omega) (by omega) (by omega)]; exact h2.1
  · rw [dj 1 (by omega) (by omega) (by omega)]; exact h2.2.1
  · rw [dj 2 (by omega) (by omega) (by omega)]; exact h2.2.2.1
  · rw [dj 4 (by omega) (by omega) (by omega)]; exact h2.2.2.2.2
  · rw [cj 0 (by omega)]; exact h3.1
  · rw [cj 1 (by omega)]; exact h3.2.1
  · rw [cj 2 (by omega)]; exact h3.2.2.1
  · rw [cj 4 (by omega)]; exact h3.2.2.2.2.1
  · rw [cj 5 (by omega), dj 5 (by omega) (by omega) (by omega)]; exact h3.2.2.2.2.2
  · rw [ci 2 (by omega) (by omega) (by omega), ci 4 (by omega) (by omega) (by omega), ci 6 (by omega) (by omega) (by omega), ci 8 (by omega) (by omega) (by omega), dj _ (by omega) (by omega) (by omega), dj _ (by omega) (by omega) (by omega), dj _ (by omega) (by omega) (by omega), dj _ (by omega) (by omega) (by omega)]; exact h4 f hf
  · rw [dj _ (by omega) (by omega) (by omega), dj _ (by omega) (by omega) (by omega), dj _ (by omega) (by omega) (by omega)]; exact h5 f hf
  · rw [ci 10 (by omega) (by omega) (by omega), dj _ (by omega) (by omega) (by omega)]; exact h6 t ht
  · by_cases c : w = nW
    · subst c
      rw [ct, ct2, up_eq, up_eq, dt, dt2]; exact ⟨rfl, rfl, x, y, hx, hy.1, hy.2, rfl, rfl⟩
    · rw [ct, ct2, up_ne c, up_ne c, dj _ (by omega) (by omega) (by omega), dj _ (by omega) (by omega) (by omega)]; exact h7 w (by omega)
theorem RV.fold (h : RV nS nF nT nW bB cv hd) (hF : nF < 12) {x y d : Nat} {q : Int32} (hx : x < nS) (hy : y < nS) (hxy : x ≠ y) (hd1 : 1 ≤ d ∧ d ≤ 9) (c2 : cv' 0 1 = nI (nF + 1)) (cj : ∀ j, j ≠ 1 → cv' 0 j = cv 0 j) (ci : ∀ i, i ≠ 0 → i ≠ 2 → i ≠ 4 → i ≠ 6 → i ≠ 8 → cv' i = cv i) (t2 : cv' 2 = up (cv 2) nF (nI x)) (t4 : cv' 4 = up (cv 4) nF (nI y)) (t6 : cv' 6 = up (cv 6) nF (nI d)) (t8 : cv' 8 = up (cv 8) nF q) (d2 : hd' 1 = nI (nF + 1)) (e6 : hd' (6 + nF) = nI x) (e18 : hd' (18 + nF) = nI y) (e30 : hd' (30 + nF) = nI d) (e42 : hd' (42 + nF) = q) (dj : ∀ j, j ≠ 1 → j ≠ 6 + nF → j ≠ 18 + nF → j ≠ 30 + nF → j ≠ 42 + nF → hd' j = hd j) : RV nS (nF + 1) nT nW bB cv' hd' := by
  obtain ⟨hb, h2, h3, h4, h5, h6, h7⟩ := h
  have dk : ∀ j, j ≠ 1 → j ≠ 6 + nF → j ≠ 18 + nF → j ≠ 30 + nF → j ≠ 42 + nF → hd' j = hd j := dj
  refine ⟨by omega, ⟨?_, d2, ?_, ?_, ?_⟩, ⟨?_, c2, ?_, ?_, ?_, ?_⟩, fun f hf => ?_, fun f hf => ?_, fun t ht => ?_, fun w hw => ?_⟩
  · rw [dk 0 (by omega) (by omega) (by omega) (by omega) (by omega)]; exact h2.1
  · rw [dk 2 (by omega) (by omega) (by omega) (by omega) (by omega)]; exact h2.2.2.1
  · rw [dk 3 (by omega) (by omega) (by omega) (by omega) (by omega)]; exact h2.2.2.2.1
  · rw [dk 4 (by omega) (by omega) (by omega) (by omega) (by omega)]; exact h2.2.2.2.2
  · rw [cj 0 (by omega)]; exact h3.1
  · rw [cj 2 (by omega)]; exact h3.2.2.1
  · rw [cj 3 (by omega)]; exact h3.2.2.2.1
  · rw [cj 4 (by omega)]; exact h3.2.2.2.2.1
  · rw [cj 5 (by omega), dk 5 (by omega) (by omega) (by omega) (by omega) (by omega)]; exact h3.2.2.2.2.2
  · by_cases c : f = nF
    · subst c
      rw [t2, t4, t6, t8, up_eq, up_eq, up_eq, up_eq, e6, e18, e30, e42]; exact ⟨rfl, rfl, rfl, rfl⟩
    · rw [t2, t4, t6, t8, up_ne c, up_ne c, up_ne c, up_ne c, dk (6 + f) (by omega) (by omega) (by omega) (by omega) (by omega), dk (18 + f) (by omega) (by omega) (by omega) (by omega) (by omega), dk (30 + f) (by omega) (by omega) (by omega) (by omega) (by omega), dk (42 + f) (by omega) (by omega) (by omega) (by omega) (by omega)]; exact h4 f (by omega)
  · by_cases c : f = nF
    · subst c
      exact ⟨x, y, d, hx, hy, hxy, hd1.1, hd1.2, e6, e18, e30⟩
    · rw [dk (6 + f) (by omega) (by omega) (by omega) (by omega) (by omega), dk (18 + f) (by omega) (by omega) (by omega) (by omega) (by omega), dk (30 + f) (by omega) (by omega) (by omega) (by omega) (by omega)]; exact h5 f (by omega)
  · rw [ci 10 (by omega) (by omega) (by omega) (by omega) (by omega), dk (54 + t) (by omega) (by omega) (by omega) (by omega) (by omega)]; exact h6 t ht
  · rw [ci 12 (by omega) (by omega) (by omega) (by omega) (by omega), ci 14 (by omega) (by omega) (by omega) (by omega) (by omega), dk (60 + w) (by omega) (by omega) (by omega) (by omega) (by omega), dk (65 + w) (by omega) (by omega) (by omega) (by omega) (by omega)]; exact h7 w hw
end CE
