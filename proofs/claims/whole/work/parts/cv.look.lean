-- a SENTENCE's tree, and what joins.
theorem settle_1 {K : XM → Int32 → Option XM} {D : XM} {j : Int32} : f_X4_settle_0 K D j = if D.1 0 6 ≤ 0 then some D else if f_X4_top D = 18 then f_X4_settle_24 K D j else if f_X4_top D = j then f_X4_settle_24 K D j else some D := by
  unfold f_X4_settle_0
  rw [lt_eq, lt_eq]
section CVV
variable {x j : Int32} {S : List Int32} {Q : List (Int32 × Int32 × Int32)} {W on n lim b p s nd k : Nat} {t : Tok} {T v T' v' T0 v0 D V : XM} {rc : Nat → XM → Option (Int32 × XM)}
theorem s_settle (hne : ∀ S0, S ≠ S0 ++ [18] ∧ S ≠ S0 ++ [j]) : ∀ (R : List Int32) (fu : Nat) (D : XM) (Q : List (Int32 × Int32 × Int32)), R.length < fu → SRel D (S ++ R.reverse) Q W on → (∀ x ∈ R, x = 18 ∨ x = j) → Q.length + R.length ≤ 40 → S.length + R.length ≤ 40 → ∃ D', x_lp (φ := XM → Int32 → Option (XM)) (fun _ _ => none) (f_X4_settle_0) fu D j = some D' ∧ SRel D' S (Q ++ R.map (fun x => (x, 0, 0))) W on
  | [], fu, D, Q, hf, h, hx, hQ, hS => by
    obtain ⟨fu, rfl⟩ : ∃ q, fu = q + 1 := ⟨fu - 1, by omega⟩
    rw [List.reverse_nil, List.append_nil] at h
    refine ⟨D, ?_, by rw [List.map_nil, List.append_nil]; exact h⟩
    show f_X4_settle_0 _ D j = _
    rw [settle_1]
    have hS40 : S.length ≤ 40 := by simpa using hS
    obtain ⟨t1, t2⟩ := s_top h (by omega)
    by_cases c : S = []
    · subst c
      rw [if_pos (show D.1 0 6 ≤ 0 from by rw [h.2.2.1]; decide)]
    · obtain ⟨S0, x, e⟩ : ∃ S0 x, S = S0 ++ [x] := ⟨S.dropLast, S.getLast c, (List.dropLast_concat_getLast c).symm⟩
      have hl : 0 < S.length := by rw [e, len_1]; omega
      rw [if_neg (show ¬ D.1 0 6 ≤ 0 from by rw [h.2.2.1]; exact nI_nle hl (by omega)), t2 S0 x e, if_neg (fun z => (hne S0).1 (by rw [e, z])), if_neg (fun z => (hne S0).2 (by rw [e, z]))]
  | x :: R, fu, D, Q, hf, h, hx, hQ, hS => by
    have hl : (x :: R).length = R.length + 1 := rfl
    obtain ⟨fu, rfl⟩ : ∃ q, fu = q + 1 := ⟨fu - 1, by omega⟩
    rw [List.reverse_cons, ← List.append_assoc] at h
    have hln : (S ++ R.reverse).length = S.length + R.length := by rw [List.length_append, List.length_reverse]
    have hln1 : ((S ++ R.reverse) ++ [x]).length = S.length + R.length + 1 := by rw [len_1, hln]
    obtain ⟨-, t2⟩ := s_top h (by omega)
    obtain ⟨D1, e1, h1⟩ := s_step h (by omega) x 0 0
    have h2 := s_pop h1
    obtain ⟨D', e2, h3⟩ := s_settle hne R fu _ _ (by omega) h2 (fun y hy => hx y (List.mem_cons_of_mem _ hy)) (by rw [len_1]; omega) (by omega)
    refine ⟨D', ?_, by rw [List.map_cons, List.append_cons]; exact h3⟩
    show f_X4_settle_0 (x_lp (φ := XM → Int32 → Option (XM)) (fun _ _ => none) (f_X4_settle_0) fu) D j = _
    have go : f_X4_settle_24 (x_lp (φ := XM → Int32 → Option (XM)) (fun _ _ => none) (f_X4_settle_0) fu) D j = some D' := by
      unfold f_X4_settle_24
      rw [t2 _ _ rfl, lt_eq, e1, lt_eq, lt_eq]
      dsimp only
      rw [show D1.1 0 6 = nI (S.length + R.length + 1) from by rw [h1.2.2.1, hln1], (nI_m1 (by omega)).2, Nat.add_sub_cancel, ← hln]
      exact e2
    rw [settle_1, if_neg (show ¬ D.1 0 6 ≤ 0 from by rw [h.2.2.1]; exact nI_nle (by omega) (by omega)), t2 _ _ rfl, go]
    rcases hx x (List.mem_cons_self ..) with c | c
    · rw [if_pos c]
    · by_cases c2 : x = 18
      · rw [if_pos c2]
      · rw [if_neg c2, if_pos c]
/-- one node more -/
def nd4 (g : Nat → Int32) (k : Nat) (a b c d : Int32) : Nat → Int32 := up (up (up (up g (4 * k) a) (4 * k + 1) b) (4 * k + 2) c) (4 * k + 3) d
theorem nd4_at {g : Nat → Int32} {k : Nat} {a b c d : Int32} : nd4 g k a b c d (4 * k) = a ∧ nd4 g k a b c d (4 * k + 1) = b ∧ nd4 g k a b c d (4 * k + 2) = c ∧ nd4 g k a b c d (4 * k + 3) = d ∧ ∀ i, i < 4 * k → nd4 g k a b c d i = g i := by
  unfold nd4
  refine ⟨?_, ?_, ?_, ?_, fun i hi => ?_⟩
  · rw [up_ne (by omega), up_ne (by omega), up_ne (by omega), up_eq]
  · rw [up_ne (by omega), up_ne (by omega), up_eq]
  · rw [up_ne (by omega), up_eq]
  · rw [up_eq]
  · rw [up_ne (by omega), up_ne (by omega), up_ne (by omega), up_ne (by omega)]
theorem r_says {a b c d : Int32} (h : v.1 0 43 = nI nd) (hn : nd < 60) : ∃ v', f_X12_saysOne v a b c d = some (nI nd, v') ∧ v'.1 19 = nd4 (v.1 19) nd a b c d ∧ v'.1 0 43 = nI (nd + 1) ∧ (∀ j, j ≠ 43 → v'.1 0 j = v.1 0 j) ∧ (∀ i, i ≠ 0 → i ≠ 19 → v'.1 i = v.1 i) ∧ v'.2 = v.2 := by
  refine ⟨x_si (x_si (x_si (x_si (x_si v 19 (4 * nd) a) 19 (4 * nd + 1) b) 19 (4 * nd + 2) c) 19 (4 * nd + 3) d) 0 43 (nI (nd + 1)), ?_, ?_, si_0, fun j hj => ?_, fun i i0 i19 => ?_, rfl⟩
  · have a1 : nI (4 * nd) + 1 = nI (4 * nd + 1) := nI_1 _
    have a2 : nI (4 * nd) + 2 = nI (4 * nd + 2) := by rw [kl_2, nI_add]
    have a3 : nI (4 * nd) + 3 = nI (4 * nd + 3) := by rw [kl_3, nI_add]
    have ps : ∀ (M : XM) (q : Nat) (z : Int32), q < 300 → x_pa M 19 (nI q) z = x_si M 19 q z := fun M q z hq => pa_si (by omega)
    unfold f_X12_saysOne
    rw [h, kl_4, pk_mul, lt_eq, a1, a2, a3, ck_in (by omega) (by omega), ps _ _ _ (by omega), lt_eq, ck_in (by omega) (by omega), ps _ _ _ (by omega), lt_eq, ck_in (by omega) (by omega), ps _ _ _ (by omega), lt_eq, ck_in (by omega) (by omega), ps _ _ _ (by omega), lt_eq, congrFun (si_r (show 0 ≠ 19 by omega)) 43, congrFun (si_r (show 0 ≠ 19 by omega)) 43, congrFun (si_r (show 0 ≠ 19 by omega)) 43, congrFun (si_r (show 0 ≠ 19 by omega)) 43, h, nI_1, lt_eq, si_0, (nI_m1 (by omega)).2, Nat.add_sub_cancel]
  · rw [si_r (by omega), si_s, si_s, si_s, si_s]; rfl
  · rw [si_n hj, congrFun (si_r (show 0 ≠ 19 by omega)) j, congrFun (si_r (show 0 ≠ 19 by omega)) j, congrFun (si_r (show 0 ≠ 19 by omega)) j, congrFun (si_r (show 0 ≠ 19 by omega)) j]
  · rw [si_r i0, si_r i19, si_r i19, si_r i19, si_r i19]
theorem TR.ext {g g' : Nat → Int32} : ∀ (n k : Nat) (P : List (Int32 × Int32 × Int32)), (∀ j, j < 4 * (k + 1) → g' j = g j) → TR g n k P → TR g' n k P
  | 0, _, _, _, h => h
  | n + 1, k, P, hg, h => by
    unfold TR at h ⊢
    rw [hg (4 * k) (by omega), hg (4 * k + 1) (by omega), hg (4 * k + 2) (by omega), hg (4 * k + 3) (by omega)]
    rcases h with ⟨h0, a, Q, ha, h1, h2, h3⟩ | ⟨h0, a, b, Q1, Q2, ha, hb, h1, h2, h3, h4, h5⟩ | ⟨h0, a, b, Q1, Q2, ha, hb, h1, h2, h3, h4, h5⟩ | h
    · exact Or.inl ⟨h0, a, Q, ha, h1, TR.ext n a Q (fun j hj => hg j (by omega)) h2, h3⟩
    · exact Or.inr (Or.inl ⟨h0, a, b, Q1, Q2, ha, hb, h1, h2, TR.ext n a Q1 (fun j hj => hg j (by omega)) h3, TR.ext n b Q2 (fun j hj => hg j (by omega)) h4, h5⟩)
    · exact Or.inr (Or.inr (Or.inl ⟨h0, a, b, Q1, Q2, ha, hb, h1, h2, TR.ext n a Q1 (fun j hj => hg j (by omega)) h3, TR.ext n b Q2 (fun j hj => hg j (by omega)) h4, h5⟩))
    · exact Or.inr (Or.inr (Or.inr h))
theorem TR.more {g : Nat → Int32} : ∀ (n k : Nat) (P : List (Int32 × Int32 × Int32)), TR g n k P → TR g (n + 1) k P
  | 0, _, _, h => absurd h id
  | n + 1, k, P, h => by
    unfold TR at h
    unfold TR
    rcases h with ⟨h0, a, Q, ha, h1, h2, h3⟩ | ⟨h0, a, b, Q1, Q2, ha, hb, h1, h2, h3, h4, h5⟩ | ⟨h0, a, b, Q1, Q2, ha, hb, h1, h2, h3, h4, h5⟩ | h
    · exact Or.inl ⟨h0, a, Q, ha, h1, TR.more n a Q h2, h3⟩
    · exact Or.inr (Or.inl ⟨h0, a, b, Q1, Q2, ha, hb, h1, h2, TR.more n a Q1 h3, TR.more n b Q2 h4, h5⟩)
    · exact Or.inr (Or.inr (Or.inl ⟨h0, a, b, Q1, Q2, ha, hb, h1, h2, TR.more n a Q1 h3, TR.more n b Q2 h4, h5⟩))
    · exact Or.inr (Or.inr (Or.inr h))
theorem TR.mono {g : Nat → Int32} {n m k : Nat} {P : List (Int32 × Int32 × Int32)} (h : TR g n k P) (hnm : n ≤ m) : TR g m k P := by
  induction m with
  | zero => rw [show n = 0 by omega] at h; exact h
  | succ m ih =>
    by_cases c : n = m + 1
    · rw [← c]; exact h
    · exact TR.more m k P (ih (by omega))
theorem St.s0 (h : St n lim b p s t T0 v0 T v) {q : Nat} {z : Int32} (hq : 42 ≤ q) : St n lim b p s t T0 v0 T (x_si v 0 q z) := ⟨h.1.cong (si_r (by omega)) (fun j hj => si_n (by omega)) rfl, h.2.1.trans (si_n (by omega)).symm, h.2.2.1, h.2.2.2.si (by omega)⟩
theorem St.ref (h : St n lim b p s t T0 v0 T v) (e0 : ∀ j, j < 42 → v'.1 0 j = v.1 0 j) (ei : ∀ i, i ≠ 0 → i ≠ 19 → v'.1 i = v.1 i) (e2 : v'.2 = v.2) : St n lim b p s t T0 v0 T v' := by
  refine ⟨h.1.cong (ei 1 (by omega) (by omega)) (fun j hj => e0 j (by omega)) (by rw [e2]), h.2.1.trans (e0 10 (by omega)).symm, h.2.2.1, h.2.2.2.tr ⟨fun i i0 _ _ i19 => ei i i0 i19, fun j _ _ hj => e0 j (by omega), fun i _ _ => by rw [e2]⟩⟩
/-- the word that a ONE begins with; 29: none -/
def wo (t : Tok) : Nat := if t.1 = 2 ∧ 19 ≤ wi t.2.2 ∧ wi t.2.2 ≤ 28 then wi t.2.2 else 29
theorem r_said (hc : TkC t T v) : f_X12_readSaid rc v = f_X12_readSaid_30 rc v (bI (decide (t.1 = 4) && decide (t.2.1 = 40))) (nI (wo t)) := by
  unfold f_X12_readSaid
  rw [show f_X12_isSign v 40 = bI (decide (t.1 = 4) && decide (t.2.1 = 40)) from r_isSign hc (c := 40) (by omega) (by omega), lt_eq]
  generalize bI (decide (t.1 = 4) && decide (t.2.1 = 40)) = op
  refine lp1_gen (σ := Nat) (fun (K : XM → Int32 → Int32 → Option (Int32 × XM)) i => K v op (nI (19 + i))) (fun m i => i + m = 10 ∧ ∀ j, j < i → ¬ (t.1 = 2 ∧ wi t.2.2 = 19 + j)) (fun R => R = f_X12_readSaid_30 rc v op (nI (wo t))) ?_ x_NN 10 0 (by decide) ⟨rfl, fun j hj => absurd hj (Nat.not_lt_zero _)⟩
  rintro m K i ⟨hm, hi⟩ ih
  show f_X12_readSaid_10 rc K v op (nI (19 + i)) = _
  unfold f_X12_readSaid_10
  by_cases c : i = 10
  · subst c
    rw [if_pos (show (28 : Int32) < nI (19 + 10) by decide), show wo t = 19 + 10 from by
      unfold wo
      rw [if_neg (fun q => hi (wi t.2.2 - 19) (by omega) ⟨q.1, by omega⟩)]]
  · have hpm : pm (19 + i) = 19 + i := by
      have : ∀ i, i < 10 → pm (19 + i) = 19 + i := by decide
      exact this i (by omega)
    rw [if_neg (show ¬ (28 : Int32) < nI (19 + i) from nI_ge' (a := 28) (by omega) (by omega)), r_isWord hc (by omega), hpm, lt_eq, nI_1]
    by_cases d : t.1 = 2 ∧ wi t.2.2 = 19 + i
    · rw [decide_eq_true d.1, decide_eq_true d.2, if_neg (show ¬ bI (true && true) = 0 by decide), show wo t = 19 + i from by
        unfold wo
        rw [if_pos ⟨d.1, by omega, by omega⟩, d.2]]
    · rw [if_pos (show bI (decide (t.1 = 2) && decide (wi t.2.2 = 19 + i)) = 0 from by
        by_cases c1 : t.1 = 2
        · rw [decide_eq_true c1, decide_eq_false (fun q => d ⟨c1, q⟩)]; rfl
        · rw [decide_eq_false c1]; rfl)]
      refine ih (m - 1) (i + 1) (by omega) ⟨by omega, fun j hj => ?_⟩
      by_cases cj : j = i
      · rw [cj]; exact d
      · exact hi j (by omega)
end CVV
