-- what the readers of all texts do with a token.
def FL (T T' : XM) : Prop := (∀ i, i ≠ 0 → T'.1 i = T.1 i) ∧ (∀ j, ¬ (4 ≤ j ∧ j ≤ 8) → j ≠ 10 → j ≠ 11 → T'.1 0 j = T.1 0 j) ∧ ∀ i, i ≠ 0 → T'.2 i = T.2 i
def GL (v v' : XM) : Prop := (∀ i, i ≠ 0 → i ≠ 3 → i ≠ 17 → i ≠ 19 → v'.1 i = v.1 i) ∧ (∀ j, ¬ (5 ≤ j ∧ j ≤ 13) → j ≠ 23 → ¬ (j = 40 ∨ 42 ≤ j) → v'.1 0 j = v.1 0 j) ∧ ∀ i, i ≠ 0 → i ≠ 8 → v'.2 i = v.2 i
/-- the readers' state: a token at hand -/
def St (n lim b p s : Nat) (t : Tok) (T0 v0 T v : XM) : Prop := Tk n lim b p s t T v ∧ T.1 0 10 = v.1 0 10 ∧ FL T0 T ∧ GL v0 v
/-- a fault told -/
def Bd (T0 v0 T v : XM) : Prop := FL T0 T ∧ GL v0 v ∧ T.1 0 10 = v.1 0 10 ∧ T.1 0 11 = v.1 0 11 ∧ ∃ s, s ≤ 940 ∧ v.1 0 11 = nI s
def nmB (t : Tok) : Bool := decide (t.1 = 2) && decide (wi t.2.2 = 29)
section CB
variable {n lim b p s a k : Nat} {t : Tok} {T v T' v' T'' v'' T0 v0 : XM}
theorem FL.tr (h : FL T T') (g : FL T' T'') : FL T T'' := ⟨fun i hi => (g.1 i hi).trans (h.1 i hi), fun i hi h1 h2 => (g.2.1 i hi h1 h2).trans (h.2.1 i hi h1 h2), fun i hi => (g.2.2 i hi).trans (h.2.2 i hi)⟩
theorem GL.tr (h : GL v v') (g : GL v' v'') : GL v v'' := ⟨fun i hi h1 h2 h3 => (g.1 i hi h1 h2 h3).trans (h.1 i hi h1 h2 h3), fun i hi h1 h2 => (g.2.1 i hi h1 h2).trans (h.2.1 i hi h1 h2), fun i hi h1 => (g.2.2 i hi h1).trans (h.2.2 i hi h1)⟩
theorem FT.fl (h : FT T T') : FL T T' := ⟨h.1, fun j hj _ _ => h.2.1 j hj, h.2.2⟩
theorem FV.gl (h : FV v v') : GL v v' := ⟨fun i hi _ _ _ => h.1 i hi, fun j hj _ _ => h.2.1 j (by omega), fun i hi _ => h.2.2 i hi⟩
theorem FL.si (h : FL T T') {j : Nat} {x : Int32} (hj : 4 ≤ j ∧ j ≤ 8 ∨ j = 10 ∨ j = 11) : FL T (x_si T' 0 j x) := ⟨fun i hi => (si_r hi).trans (h.1 i hi), fun k hk h1 h2 => (si_n (by omega)).trans (h.2.1 k hk h1 h2), h.2.2⟩
theorem GL.si (h : GL v v') {j : Nat} {x : Int32} (hj : 5 ≤ j ∧ j ≤ 13 ∨ j = 23 ∨ j = 40 ∨ 42 ≤ j) : GL v (x_si v' 0 j x) := ⟨fun i hi h1 h2 h3 => (si_r hi).trans (h.1 i hi h1 h2 h3), fun k hk h1 h2 => (si_n (by omega)).trans (h.2.1 k hk h1 h2), h.2.2⟩
theorem GL.s3 (h : GL v v') {j : Nat} {x : Int32} : GL v (x_si v' 3 j x) := ⟨fun i hi h1 h2 h3 => (si_r h1).trans (h.1 i hi h1 h2 h3), fun k hk h1 h2 => (congrFun (si_r (by omega)) k).trans (h.2.1 k hk h1 h2), h.2.2⟩
theorem GL.sl (h : GL v v') {j : Nat} {x : Int64} : GL v (x_sl v' 8 j x) := ⟨h.1, h.2.1, fun i hi h1 => (sl_r h1).trans (h.2.2 i hi h1)⟩
theorem GL.s17 (h : GL v v') {i j : Nat} {x : Int32} (hi : i = 17 ∨ i = 19) : GL v (x_si v' i j x) := ⟨fun i' hi h1 h2 h3 => (si_r (by omega)).trans (h.1 i' hi h1 h2 h3), fun k hk h1 h2 => (congrFun (si_r (by omega)) k).trans (h.2.1 k hk h1 h2), h.2.2⟩
/-- a token doesn't change with what is written elsewhere -/
theorem Tk.cong (h : Tk n lim b p s t T v) (e1 : v'.1 1 = v.1 1) (e0 : ∀ j, 3 ≤ j ∧ j ≤ 9 → v'.1 0 j = v.1 0 j) (e2 : v'.2 0 = v.2 0) : Tk n lim b p s t T v' := by
  obtain ⟨⟨h1, h2, h3⟩, h4, h5, h6⟩ := h
  refine ⟨⟨h1, ?_, ?_⟩, ?_, ?_, h6⟩
  · rw [e0 3 (by omega), e0 4 (by omega), e0 5 (by omega)]; exact h2
  · exact ⟨fun j hj => by rw [e1]; exact h3.1 j hj, h3.2⟩
  · rw [e0 6 (by omega)]; exact h4
  · unfold TkC at h5 ⊢
    rw [e0 7 (by omega), e0 8 (by omega), e0 9 (by omega), e2]; exact h5
theorem St.next (h : St n lim b p s t T0 v0 T v) : R2 (f_X8_advance T) (f_X12_go v) (fun T' v' => ∃ (p' s' : Nat) (t' : Tok), St n lim p p' s' t' T0 v0 T' v' ∧ FT T T' ∧ FV v v') := by
  obtain ⟨h1, h2, h3, h4⟩ := h
  refine R2_mono (adv h1.1) ?_
  rintro T' v' ⟨p', s', t', k1, k2, k3⟩
  exact ⟨p', s', t', ⟨k1, by rw [k2.2.1 10 (by omega), k3.2.1 10 (by omega)]; exact h2, h3.tr k2.fl, h4.tr k3.gl⟩, k2, k3⟩
theorem St.bad (h : St n lim b p s t T0 v0 T v) (k : Nat) (ht : t.1 ≠ 1 ∨ k = 1) : ∃ T' v', f_X8_refuse T (nI k) = (0, T') ∧ f_X12_bad v (nI k) = (0, v') ∧ Bd T0 v0 T' v' := by
  obtain ⟨⟨h1, h1b, h1c, h1d, h1e⟩, h2, h3, h4⟩ := h
  have e1 : f_X12_bad v (nI k) = (0, x_si (x_si v 0 10 (nI k)) 0 11 (nI s)) := by
    have e : ∀ x, f_X12_bad_14 v x = (0, x_si (x_si v 0 10 x) 0 11 (nI s)) := fun x => by
      unfold f_X12_bad_14
      simp only [lt_eq]
      rw [show (x_si v 0 10 x).1 0 6 = nI s from (si_n (by omega)).trans h1b.2.1]
    unfold f_X12_bad
    rw [e, e]
    by_cases c : v.1 0 7 = 1
    · rw [if_pos c]
      rcases ht with ht | ht
      · exact absurd (nI_iff (b := 1) (by have := h1c.1.1; omega) (by omega) (h1c.1.2.1.symm.trans c)) ht
      · rw [ht]; rfl
    · rw [if_neg c]
  have e2 : f_X8_refuse T (nI k) = (0, x_si (x_si T 0 10 (nI k)) 0 11 (nI s)) := by
    unfold f_X8_refuse f_X8_refuseAt
    simp only [lt_eq]
    rw [h1b.1]
  refine ⟨_, _, e2, e1, (h3.si (by omega)).si (by omega), (h4.si (by omega)).si (by omega), ?_, ?_, s, h1b.2.2.1, si_0⟩
  · exact ((si_n (show 10 ≠ 11 by omega)).trans si_0).trans ((si_n (show 10 ≠ 11 by omega)).trans si_0).symm
  · rw [si_0, si_0]
theorem tk_8 (h : TkC t T v) {k : Nat} (hk : k < 29) : T.1 0 8 = nI k ↔ t.1 = 2 ∧ wi t.2.2 = k := by
  rw [h.2.2.2.2]
  constructor
  · intro q
    by_cases c : t.1 = 2 ∧ wi t.2.2 < 29
    · rw [if_pos c] at q
      exact ⟨c.1, nI_iff (by omega) (by omega) q⟩
    · rw [if_neg c] at q
      exact absurd q.symm (nI_nm1 (by omega))
  · rintro ⟨q1, q2⟩
    rw [if_pos ⟨q1, by omega⟩, q2]
theorem tk_8n (h : TkC t T v) : T.1 0 8 = -1 ↔ ¬ (t.1 = 2 ∧ wi t.2.2 < 29) := by
  rw [h.2.2.2.2]
  constructor
  · intro q c
    rw [if_pos c] at q
    exact nI_nm1 (by omega) q
  · intro q
    rw [if_neg q]
theorem tk_6 (h : TkC t T v) {c : Nat} (hc : c < 256) (hc2 : 5 ≤ c) : T.1 0 6 = nI c ↔ t.1 = 4 ∧ t.2.1 = c := by
  rw [h.1.2.2]
  have h4 := h.1.1
  by_cases q : t.1 = 4
  · rw [if_pos q]
    have hs := (h.2.1 q).2
    have : t.2.1 < 256 := by
      unfold sgn at hs
      simp only [Bool.or_eq_true, beq_iff_eq] at hs
      omega
    constructor
    · intro e; exact ⟨q, nI_iff (by omega) (by omega) e⟩
    · rintro ⟨-, e⟩; rw [e]
  · rw [if_neg q]
    constructor
    · intro e; have := nI_iff (by omega) (by omega) e; omega
    · rintro ⟨e, -⟩; exact absurd e q
theorem tk_6k (h : TkC t T v) {c : Nat} (hc : c < 4) : T.1 0 6 = nI c ↔ t.1 = c := by
  rw [h.1.2.2]
  have h4 := h.1.1
  by_cases q : t.1 = 4
  · rw [if_pos q]
    have hs := (h.2.1 q).2
    have : 5 ≤ t.2.1 ∧ t.2.1 < 256 := by
      unfold sgn at hs
      simp only [Bool.or_eq_true, beq_iff_eq] at hs
      omega
    constructor
    · intro e; have := nI_iff (by omega) (by omega) e; omega
    · intro e; omega
  · rw [if_neg q]
    constructor
    · intro e; exact nI_iff (by omega) (by omega) e
    · intro e; rw [e]
theorem tk_7 (h : TkC t T v) {c : Nat} (hc : c < 100) : v.1 0 7 = nI c ↔ t.1 = c := by
  rw [h.1.2.1]
  have h4 := h.1.1
  constructor
  · intro e; exact nI_iff (by omega) (by omega) e
  · intro e; rw [e]
theorem c_isName (h : TkC t T v) : f_X8_isName T = bI (nmB t) := by
  unfold f_X8_isName nmB
  by_cases c : t.1 = 2
  · rw [if_pos (show T.1 0 6 = 2 from (tk_6k h (c := 2) (by omega)).mpr c), decide_eq_true c]
    have := wi_le t.2.2
    by_cases d : wi t.2.2 = 29
    · rw [if_pos ((tk_8n h).mpr (by omega)), decide_eq_true d]; rfl
    · rw [if_neg (fun q => (tk_8n h).mp q (by omega)), decide_eq_false d]; rfl
  · rw [if_neg (show ¬ T.1 0 6 = 2 from fun q => c ((tk_6k h (c := 2) (by omega)).mp q)), decide_eq_false c]; rfl
theorem r_isWord (h : TkC t T v) {k : Nat} (hk : k < 29) : f_X12_isWord v (nI k) = bI (decide (t.1 = 2) && decide (wi t.2.2 = pm k)) := by
  unfold f_X12_isWord
  rw [r_wordOf k hk, lt_eq]
  have hp := pm_lt k hk
  by_cases c : t.1 = 2
  · obtain ⟨ok, -, e⟩ := h.2.2.2.1 c
    rw [if_pos (show v.1 0 7 = 2 from (tk_7 h (c := 2) (by omega)).mpr c), decide_eq_true c, e]
    by_cases d : wi t.2.2 = pm k
    · rw [if_pos (lg0.mpr (by rw [← (wi_i hp).mp d])), decide_eq_true d]; rfl
    · rw [if_neg (fun q => d ((wi_i hp).mpr ((okW_inj (by omega) (by omega) ok (wd_ok hp)).mp (lg0.mp q)))), decide_eq_false d]; rfl
  · rw [if_neg (show ¬ v.1 0 7 = 2 from fun q => c ((tk_7 h (c := 2) (by omega)).mp q)), decide_eq_false c]; rfl
theorem r_isName (h : TkC t T v) : f_X12_isName v = some (bI (nmB t)) := by
  unfold f_X12_isName nmB
  by_cases c : t.1 = 2
  · obtain ⟨ok, -, e⟩ := h.2.2.2.1 c
    rw [if_pos (show v.1 0 7 = 2 from (tk_7 h (c := 2) (by omega)).mpr c), decide_eq_true c]
    have hle := wi_le t.2.2
    refine wp_eq.mp (lp_fora (σ := Unit) (n := 29) (fun (K : Int32 → Option (Int32)) _ c => K c) (fun i _ => ∀ k, k < i → wi t.2.2 ≠ pm k) _ ?_ ?_ x_NN () (by decide) (fun k hk => absurd hk (Nat.not_lt_zero _)))
    · rintro K i _ hi hp ih
      show wp (f_X12_isName_12 v K (nI i)) _
      have hpm := pm_lt i hi
      unfold f_X12_isName_12
      rw [if_neg (show ¬ (28 : Int32) < nI i from nI_ge' (a := 28) (by omega) (by omega)), r_wordOf i hi, lt_eq, e, nI_1]
      by_cases d : wi t.2.2 = pm i
      · rw [if_pos (lg0.mpr (by rw [← (wi_i hpm).mp d])), wp_some, decide_eq_false (by omega)]; rfl
      · rw [if_neg (fun q => d ((wi_i hpm).mpr ((okW_inj (by omega) (by omega) ok (wd_ok hpm)).mp (lg0.mp q))))]
        refine ih () (fun k hk => ?_)
        by_cases ck : k = i
        · rw [ck]; exact d
        · exact hp k (by omega)
    · rintro K _ hp
      show wp (f_X12_isName_12 v K (nI 29)) _
      unfold f_X12_isName_12
      rw [if_pos (show (28 : Int32) < nI 29 from nI_lt (a := 28) (by omega) (by omega)), wp_some]
      have : wi t.2.2 = 29 := by
        by_cases d : wi t.2.2 < 29
        · exact absurd (pm_pm _ d).symm (hp _ (pm_lt _ d))
        · omega
      rw [decide_eq_true this]; rfl
  · rw [if_neg (show ¬ v.1 0 7 = 2 from fun q => c ((tk_7 h (c := 2) (by omega)).mp q)), decide_eq_false c]; rfl
theorem r_isSign (h : TkC t T v) {c : Nat} (hc : c < 256) (hc2 : 5 ≤ c) : f_X12_isSign v (nI c) = bI (decide (t.1 = 4) && decide (t.2.1 = c)) := by
  unfold f_X12_isSign
  by_cases q : t.1 = 4
  · obtain ⟨e, hs⟩ := h.2.1 q
    have : t.2.1 < 256 := by
      unfold sgn at hs
      simp only [Bool.or_eq_true, beq_iff_eq] at hs
      omega
    rw [if_pos (show v.1 0 7 = 4 from (tk_7 h (c := 4) (by omega)).mpr q), decide_eq_true q, e]
    by_cases d : t.2.1 = c
    · rw [if_pos (by rw [d]), decide_eq_true d]; rfl
    · rw [if_neg (fun q => d (nI_iff (by omega) (by omega) q)), decide_eq_false d]; rfl
  · rw [if_neg (show ¬ v.1 0 7 = 4 from fun z => q ((tk_7 h (c := 4) (by omega)).mp z)), decide_eq_false q]; rfl
/-- a NUMBER -/
theorem St.num (h : St n lim b p s t T0 v0 T v) {x y : Nat} (hx : x < 1000) (hy : y < 1000) : R2 (f_X8_takeNumber T (nI x) (nI y)) (f_X12_readNumber v (nI x) (nI y)) (fun r q => (r.1 = -1 ∧ q.1 = 0 ∧ Bd T0 v0 r.2 q.2) ∨ (∃ m, x ≤ m ∧ m ≤ y ∧ r.1 = nI m ∧ q.1 = 1 ∧ q.2.1 0 13 = nI m ∧ (2 ≤ t.1) ∧ FT T r.2 ∧ FV (x_si v 0 13 (nI m)) q.2 ∧ ∃ (p' s' : Nat) (t' : Tok), St n lim p p' s' t' T0 v0 r.2 q.2)) := by
  have hc := h.1.2.2.1
  unfold f_X8_takeNumber f_X12_readNumber f_X8_takeNumber_31
  by_cases c : t.1 = 3
  · obtain ⟨e1, e2, e3⟩ := hc.2.2.1 c
    rw [if_pos (show T.1 0 6 = 3 from (tk_6k hc (c := 3) (by omega)).mpr c), if_pos (show v.1 0 7 = 3 from (tk_7 hc (c := 3) (by omega)).mpr c), e1, e2]
    simp only [lt_eq]
    have bad : R2 (some ((-1 : Int32), (f_X8_refuse T (2 : Int32)).2)) (some ((f_X12_bad v (2 : Int32)).1, (f_X12_bad v (2 : Int32)).2)) (fun r q => (r.1 = -1 ∧ q.1 = 0 ∧ Bd T0 v0 r.2 q.2) ∨ (∃ m, x ≤ m ∧ m ≤ y ∧ r.1 = nI m ∧ q.1 = 1 ∧ q.2.1 0 13 = nI m ∧ (2 ≤ t.1) ∧ FT T r.2 ∧ FV (x_si v 0 13 (nI m)) q.2 ∧ ∃ (p' s' : Nat) (t' : Tok), St n lim p p' s' t' T0 v0 r.2 q.2)) := by
      obtain ⟨T', v', b1, b2, b3⟩ := h.bad 2 (Or.inl (by omega))
      rw [show f_X8_refuse T (2 : Int32) = (0, T') from b1, show f_X12_bad v (2 : Int32) = (0, v') from b2]
      exact R2_some (Or.inl ⟨rfl, rfl, b3⟩)
    by_cases d1 : t.2.1 < x
    · rw [if_pos (nI_lt d1 (by omega)), show f_X12_isIn (nI t.2.1) (nI x) (nI y) = 0 from by unfold f_X12_isIn; rw [if_pos (nI_lt d1 (by omega))], if_pos rfl]
      exact bad
    · rw [if_neg (nI_ge' (by omega) (by omega))]
      by_cases d2 : t.2.1 ≤ y
      · rw [if_pos (nI_le d2 (by omega)), show f_X12_isIn (nI t.2.1) (nI x) (nI y) = 1 from by unfold f_X12_isIn; rw [if_neg (nI_ge' (by omega) (by omega)), if_neg (nI_ge' d2 (by omega))], if_neg one0]
        have h' : St n lim b p s t T0 v0 T (x_si v 0 13 (nI t.2.1)) := ⟨h.1.cong (si_r (by omega)) (fun j hj => si_n (by omega)) rfl, (h.2.1).trans (si_n (by omega)).symm, h.2.2.1, h.2.2.2.si (by omega)⟩
        obtain ⟨T', v', a1, a2, p', s', t', a3, a4, a5⟩ := h'.next
        rw [a1, a2, bo_some, bo_some]
        exact R2_some (Or.inr ⟨t.2.1, by omega, d2, rfl, rfl, (a5.2.1 13 (by omega)).trans si_0, by omega, a4, a5, p', s', t', a3⟩)
      · rw [if_neg (nI_ge (by omega) (by omega)), show f_X12_isIn (nI t.2.1) (nI x) (nI y) = 0 from by unfold f_X12_isIn; rw [if_neg (nI_ge' (by omega) (by omega)), if_pos (nI_lt (by omega) (by omega))], if_pos rfl]
        exact bad
  · obtain ⟨T', v', b1, b2, b3⟩ := h.bad 1 (Or.inr rfl)
    rw [if_neg (show ¬ T.1 0 6 = 3 from fun q => c ((tk_6k hc (c := 3) (by omega)).mp q)), if_neg (show ¬ v.1 0 7 = 3 from fun q => c ((tk_7 hc (c := 3) (by omega)).mp q)), show f_X8_refuse T (1 : Int32) = (0, T') from b1, show f_X12_bad v (1 : Int32) = (0, v') from b2]
    exact R2_some (Or.inl ⟨rfl, rfl, b3⟩)
/-- the sign at a LINE's end -/
theorem St.semi (h : St n lim b p s t T0 v0 T v) : R2 (f_X8_pass T (59 : Int32)) (f_X12_readEnd v) (fun r q => (r.1 = 0 ∧ q.1 = 0 ∧ Bd T0 v0 r.2 q.2) ∨ (r.1 = 1 ∧ q.1 = 1 ∧ FT T r.2 ∧ FV v q.2 ∧ b < p ∧ p ≤ lim ∧ ∃ (p' s' : Nat) (t' : Tok), St n lim p p' s' t' T0 v0 r.2 q.2)) := by
  have hc := h.1.2.2.1
  have h4 := h.1.2.2.2
  unfold f_X8_pass f_X12_readEnd
  rw [show f_X12_isSign v 59 = bI (decide (t.1 = 4) && decide (t.2.1 = 59)) from r_isSign hc (c := 59) (by omega) (by omega)]
  simp only [lt_eq]
  by_cases c : t.1 = 4 ∧ t.2.1 = 59
  · rw [if_pos (show T.1 0 6 = 59 from (tk_6 hc (c := 59) (by omega) (by omega)).mpr c), decide_eq_true c.1, decide_eq_true c.2, if_neg (show ¬ bI (true && true) = 0 by decide)]
    obtain ⟨T', v', a1, a2, p', s', t', a3, a4, a5⟩ := h.next
    rw [a1, a2, bo_some, bo_some]
    have q1 := h4.1 (by omega)
    have q2 := h4.2 c.1
    exact R2_some (Or.inr ⟨rfl, rfl, a4, a5, by omega, by omega, p', s', t', a3⟩)
  · obtain ⟨T', v', b1, b2, b3⟩ := h.bad 1 (Or.inr rfl)
    rw [if_neg (show ¬ T.1 0 6 = 59 from fun q => c ((tk_6 hc (c := 59) (by omega) (by omega)).mp q)), if_pos (by
      by_cases c1 : t.1 = 4
      · rw [decide_eq_true c1, decide_eq_false (fun q => c ⟨c1, q⟩)]; rfl
      · rw [decide_eq_false c1]; rfl), show f_X8_refuse T (1 : Int32) = (0, T') from b1, show f_X12_bad v (1 : Int32) = (0, v') from b2]
    exact R2_some (Or.inl ⟨rfl, rfl, b3⟩)
end CB
