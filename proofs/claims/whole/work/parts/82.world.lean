-- What the simple methods of a world answer, on both sides, in the reference's numbers.
def goB (v : XM) (w : Nat) : Bool := !decide (v.1 2 (79 + w) = -1)
def dpO (v : XM) (f : Nat) : Int32 := if v.1 2 (42 + f) = v.1 2 71 ∧ ¬ pdO v f ≤ 1 then pdO v f - 1 else pdO v f
def hrO (v : XM) (f : Nat) (p : Int32) : Int32 := (dpO v f + p - 1) / p
def otO (v : XM) (f : Nat) (s : Int32) : Int32 := if v.1 2 (6 + f) = s then v.1 2 (18 + f) else if v.1 2 (18 + f) = s then v.1 2 (6 + f) else -1
-- the reference
theorem r_has {x : Int32} {f : Nat} (hf : f < 32) : f_X12_has x (nI f) = bI (bt x f) := by
  unfold f_X12_has
  rw [b_get hf]
  cases bt x f <;> decide
theorem r_isGoing {v : XM} {w : Nat} (hw : w < 200) : f_X12_isGoing v (nI w) = some (bI (goB v w)) := by
  unfold f_X12_isGoing goB
  rw [kl_79, nI_add, ck_in (by omega) (by omega), ga_in (by omega)]
  by_cases c : v.1 2 (79 + w) = -1
  · rw [if_pos c, decide_eq_true c]; rfl
  · rw [if_neg c, decide_eq_false c]; rfl
theorem r_plain {v : XM} {f : Nat} (hf : f < 12) : f_X12_plainDepth v (nI f) = some (pdO v f) := by
  unfold f_X12_plainDepth pdO
  rw [lt_eq, kl_72, ga_in (by omega), r_has (by omega), kl_30, nI_add, ck_in (by omega) (by omega), ga_in (by omega)]
  by_cases c : bt (v.1 2 72) f = true
  · rw [if_neg (by rw [bI_0, c]; decide), if_pos c]
  · rw [if_pos (by rw [bI_0]; simpa using c), if_neg c]
theorem r_depthOf {v : XM} {f : Nat} (hf : f < 12) : f_X12_depthOf v (nI f) = some (dpO v f) := by
  unfold f_X12_depthOf f_X12_depthOf_38 dpO
  rw [r_plain hf, bo_some, bo_some, bo_some, kl_42, nI_add, ck_in (by omega) (by omega), ga_in (by omega), kl_71, ga_in (by omega)]
  by_cases c : pdO v f ≤ 1
  · rw [if_pos c, if_neg (fun q => q.2 c)]
  · rw [if_neg c]
    by_cases c2 : v.1 2 (42 + f) = v.1 2 71
    · rw [if_pos c2, if_pos ⟨c2, c⟩]
    · rw [if_neg c2, if_neg (fun q => c2 q.1)]
theorem r_hoursOf {v : XM} {f : Nat} {p : Int32} (hf : f < 12) (hp : ¬ p = 0) : f_X12_hoursOf v (nI f) p = some (hrO v f p) := by
  unfold f_X12_hoursOf hrO
  rw [r_depthOf hf, bo_some, nz_of hp]
theorem r_otherEnd {v : XM} {f : Nat} {s : Int32} (hf : f < 12) : f_X12_otherEnd v (nI f) s = some (otO v f s) := by
  unfold f_X12_otherEnd otO
  rw [kl_6, kl_18, nI_add, nI_add, ck_in (by omega) (by omega), ck_in (by omega) (by omega), ck_in (by omega) (by omega), ck_in (by omega) (by omega), ga_in (by omega), ga_in (by omega)]
  by_cases c : v.1 2 (6 + f) = s
  · rw [if_pos c, if_pos c]
  · rw [if_neg c, if_neg c]
    by_cases c2 : v.1 2 (18 + f) = s
    · rw [if_pos c2, if_pos c2]
    · rw [if_neg c2, if_neg c2]
/-- there is such a one, or none -/
theorem in_cases {N : Nat} (hN : N < 2 ^ 30) (x : Int32) : (∃ k, k < N ∧ x = nI k) ∨ (x < 0 ∨ nI N ≤ x) := by
  rcases pk_ix x (n := N) (by omega) with h | h | h
  · exact Or.inr (Or.inl h)
  · exact Or.inr (Or.inr h)
  · exact Or.inl h
theorem in_sub1 {N : Nat} (hN : N < 2 ^ 30) {x : Int32} (h0 : ¬ x < 0) : nI N - 1 < x ↔ nI N ≤ x := by
  obtain ⟨j, hj, rfl⟩ := nI_of h0
  have e1 : (nI N - 1).toInt = (N : Int) - 1 := by
    match N with
    | 0 => decide
    | n + 1 => rw [nI_pred, nI_toInt (by omega)]; omega
  rw [Int32.lt_iff_toInt_lt, Int32.le_iff_toInt_le, e1, nI_toInt (by omega), nI_toInt (by omega)]
  omega
theorem r_isIn {N : Nat} (hN : N < 2 ^ 30) {x : Int32} : (x < 0 ∨ nI N ≤ x) → f_X12_isIn x 0 (nI N - 1) = 0 := by
  intro h
  unfold f_X12_isIn
  by_cases c : x < 0
  · rw [if_pos c]
  · rw [if_neg c, if_pos ((in_sub1 hN c).mpr (h.resolve_left c))]
theorem r_isIn1 {N k : Nat} (hN : N < 2 ^ 30) (hk : k < N) : f_X12_isIn (nI k) 0 (nI N - 1) = 1 := by
  unfold f_X12_isIn
  rw [if_neg (nI_pos (by omega)), if_neg (by rw [in_sub1 hN (nI_pos (by omega)), nI_leI (by omega) (by omega)]; omega)]
theorem has_0 {N : Nat} {x : Int32} (h : x < 0 ∨ nI N ≤ x) : (if x < (0 : Int32) then ((0 : Int32) : Int32) else (if nI N ≤ x then ((0 : Int32) : Int32) else ((1 : Int32) : Int32))) = 0 := by
  by_cases c : x < 0
  · rw [if_pos c]
  · rw [if_neg c, if_pos (h.resolve_left c)]
theorem has_1 {N k : Nat} (hN : N < 2 ^ 30) (hk : k < N) : (if nI k < (0 : Int32) then ((0 : Int32) : Int32) else (if nI N ≤ nI k then ((0 : Int32) : Int32) else ((1 : Int32) : Int32))) = 1 := by
  rw [if_neg (nI_pos (by omega)), if_neg (nI_ge hk (by omega))]
-- the class
section CW
variable {nS nF nT nW bB : Nat} {u v : XM}

theorem h_Walker (h : RW nS nF nT nW bB u v) (x : Int32) : (∃ k, k < nW ∧ x = nI k ∧ f_X9_hasWalker (x_sub u 1) x = 1 ∧ f_X12_isWalker v x = 1) ∨ ((∀ k, k < nW → x ≠ nI k) ∧ f_X9_hasWalker (x_sub u 1) x = 0 ∧ f_X12_isWalker v x = 0) := by
  have hb := h.b
  have e1 : (x_sub u 1).1 0 3 = nI nW := h.u3
  have e2 : x_ga v 2 (3 : Int32) = nI nW := by rw [kl_3, ga_in (by omega)]; exact h.v3
  unfold f_X9_hasWalker f_X12_isWalker
  rw [e1, e2, lt_eq]
  rcases in_cases (N := nW) (by omega) x with ⟨k, hk, rfl⟩ | hx
  · exact Or.inl ⟨k, hk, rfl, has_1 (by omega) hk, r_isIn1 (by omega) hk⟩
  · refine Or.inr ⟨fun k hk e => ?_, has_0 hx, r_isIn (by omega) hx⟩
    subst e
    rcases hx with hx | hx
    · exact nI_pos (by omega) hx
    · exact nI_ge hk (by omega) hx
theorem h_Fold (h : RW nS nF nT nW bB u v) (x : Int32) : (∃ k, k < nF ∧ x = nI k ∧ f_X9_hasFold (x_sub u 1) x = 1 ∧ f_X12_isFold v x = 1) ∨ ((∀ k, k < nF → x ≠ nI k) ∧ f_X9_hasFold (x_sub u 1) x = 0 ∧ f_X12_isFold v x = 0) := by
  have hb := h.b
  have e1 : (x_sub u 1).1 0 1 = nI nF := h.u1
  have e2 : x_ga v 2 (1 : Int32) = nI nF := by rw [kl_1, ga_in (by omega)]; exact h.v1
  unfold f_X9_hasFold f_X12_isFold
  rw [e1, e2, lt_eq]
  rcases in_cases (N := nF) (by omega) x with ⟨k, hk, rfl⟩ | hx
  · exact Or.inl ⟨k, hk, rfl, has_1 (by omega) hk, r_isIn1 (by omega) hk⟩
  · refine Or.inr ⟨fun k hk e => ?_, has_0 hx, r_isIn (by omega) hx⟩
    subst e
    rcases hx with hx | hx
    · exact nI_pos (by omega) hx
    · exact nI_ge hk (by omega) hx
theorem h_Thing (h : RW nS nF nT nW bB u v) (x : Int32) : (∃ k, k < nT ∧ x = nI k ∧ f_X9_hasThing (x_sub u 1) x = 1 ∧ f_X12_isThing v x = 1) ∨ ((∀ k, k < nT → x ≠ nI k) ∧ f_X9_hasThing (x_sub u 1) x = 0 ∧ f_X12_isThing v x = 0) := by
  have hb := h.b
  have e1 : (x_sub u 1).1 0 2 = nI nT := h.u2
  have e2 : x_ga v 2 (2 : Int32) = nI nT := by rw [kl_2, ga_in (by omega)]; exact h.v2
  unfold f_X9_hasThing f_X12_isThing
  rw [e1, e2, lt_eq]
  rcases in_cases (N := nT) (by omega) x with ⟨k, hk, rfl⟩ | hx
  · exact Or.inl ⟨k, hk, rfl, has_1 (by omega) hk, r_isIn1 (by omega) hk⟩
  · refine Or.inr ⟨fun k hk e => ?_, has_0 hx, r_isIn (by omega) hx⟩
    subst e
    rcases hx with hx | hx
    · exact nI_pos (by omega) hx
    · exact nI_ge hk (by omega) hx
theorem h_Spot (h : RW nS nF nT nW bB u v) (x : Int32) : (∃ k, k < nS ∧ x = nI k ∧ f_X9_hasSpot (x_sub u 1) x = 1 ∧ f_X12_isSpot v x = 1) ∨ ((∀ k, k < nS → x ≠ nI k) ∧ f_X9_hasSpot (x_sub u 1) x = 0 ∧ f_X12_isSpot v x = 0) := by
  have hb := h.b
  have e1 : (x_sub u 1).1 0 0 = nI nS := h.u0
  have e2 : x_ga v 2 (0 : Int32) = nI nS := by rw [kl_0, ga_in (by omega)]; exact h.v0
  unfold f_X9_hasSpot f_X12_isSpot
  rw [e1, e2, lt_eq]
  rcases in_cases (N := nS) (by omega) x with ⟨k, hk, rfl⟩ | hx
  · exact Or.inl ⟨k, hk, rfl, has_1 (by omega) hk, r_isIn1 (by omega) hk⟩
  · refine Or.inr ⟨fun k hk e => ?_, has_0 hx, r_isIn (by omega) hx⟩
    subst e
    rcases hx with hx | hx
    · exact nI_pos (by omega) hx
    · exact nI_ge hk (by omega) hx
theorem c_isGoing (h : RW nS nF nT nW bB u v) {w : Nat} (hw : w < nW) : f_X10_isGoing u (nI w) = bI (goB v w) := by
  have hb := h.b
  obtain ⟨s, l, t, -, h2, -, -, h5, -, h7⟩ := h.wlk hw
  unfold f_X10_isGoing goB
  have e : r_get 5 (x_sub u 22) (nI w) = nI l := by rw [rg_in (by omega) (by omega), ← h5]; exact h.left hw
  rw [lt_eq, e]
  by_cases c : v.1 2 (79 + w) = -1
  · have := h7.mpr c
    subst this
    rw [if_pos (by decide), decide_eq_true c]; rfl
  · rw [if_neg (by rw [kl_0, nI_leI (by omega) (by omega)]; intro q; exact c (h7.mp (by omega))), decide_eq_false c]; rfl
theorem c_deepNow (h : RW nS nF nT nW bB u v) {f : Nat} (hf : f < nF) : f_X10_deepNow u (nI f) = dpO v f := by
  have hb := h.b
  unfold f_X10_deepNow dpO
  have e1 : r_get 12 (x_sub u 28) (nI f) = pdO v f := by rw [rg_in (by omega) (by omega)]; exact h.dep hf
  have e2 : r_get 12 (x_sub u 8) (nI f) = v.1 2 (42 + f) := by rw [rg_in (by omega) (by omega)]; exact h.knd hf
  rw [lt_eq, lt_eq, e1, e2, h.mood]
  by_cases c2 : v.1 2 (42 + f) = v.1 2 71
  · rw [if_pos c2]
    by_cases c : pdO v f ≤ 1
    · rw [if_pos c, if_neg (fun q => q.2 c)]
    · rw [if_neg c, if_pos ⟨c2, c⟩]
  · rw [if_neg c2, if_neg (fun q => c2 q.1)]
theorem c_hoursOn (h : RW nS nF nT nW bB u v) {f p : Nat} (hf : f < nF) (hp : 1 ≤ p) (hp2 : p < 2 ^ 31) : f_X10_hoursOn u (nI f) (nI p) = some (hrO v f (nI p)) := by
  unfold f_X10_hoursOn hrO
  rw [if_pos (by rw [kl_1, nI_leI (by omega) hp2]; exact hp), lt_eq, c_deepNow h hf, nz_of (nI_ne0 (by omega) hp2)]
theorem c_across (h : RW nS nF nT nW bB u v) {f : Nat} {s : Int32} (hf : f < nF) : f_X9_across (x_sub u 1) (nI f) s = otO v f s := by
  have hb := h.b
  unfold f_X9_across otO
  have e1 : r_get 12 (x_sub (x_sub u 1) 1) (nI f) = v.1 2 (6 + f) := by rw [rg_in (by omega) (by omega)]; exact h.one hf
  have e2 : r_get 12 (x_sub (x_sub u 1) 3) (nI f) = v.1 2 (18 + f) := by rw [rg_in (by omega) (by omega)]; exact h.oth hf
  rw [lt_eq, lt_eq, lt_eq, lt_eq, e1, e2]
theorem otO_cases (h : RW nS nF nT nW bB u v) {f : Nat} {s : Int32} (hf : f < nF) : otO v f s = -1 ∨ ∃ k, k < nS ∧ otO v f s = nI k := by
  obtain ⟨a, b, d, h1, h2, -, -, -, h6, h7, -⟩ := h.ends hf
  unfold otO
  by_cases c : v.1 2 (6 + f) = s
  · rw [if_pos c]; exact Or.inr ⟨b, h2, h7⟩
  · rw [if_neg c]
    by_cases c2 : v.1 2 (18 + f) = s
    · rw [if_pos c2]; exact Or.inr ⟨a, h1, h6⟩
    · rw [if_neg c2]; exact Or.inl rfl
end CW
