-- a plain ONE.
def RD2 (n lim p : Nat) (T0 v0 v : XM) (C R : Option (Int32 × XM)) (m : Nat) : Prop := (∃ T' v', C = some (-1, T') ∧ R = some (0, v') ∧ Bd T0 v0 T' v') ∨ (∃ (x : Nat) (T' v' : XM) (p' s' : Nat) (t' : Tok), x < m ∧ C = some (nI x, T') ∧ R = some (1, v') ∧ v'.1 0 13 = nI x ∧ FV (x_si v 0 13 (nI x)) v' ∧ St n lim p p' s' t' T0 v0 T' v')
def PLr (v : XM) (w : Nat) : Option (Int32 × XM) := if (23 : Int32) ≤ nI w then (if (25 : Int32) ≤ nI w then f_X12_readCompare v (nI w) else f_X12_readOf v (nI w)) else x_bo (f_X12_saysOne v ((50 : Int32) + nI w) 0 0 0) (fun y8 => some ((1 : Int32), x_si y8.2 0 46 y8.1))
def PLQ (n lim b : Nat) (T0 v0 : XM) (S : List Int32) (Q : List (Int32 × Int32 × Int32)) (W on nd w : Nat) (v : XM) (C : Option (Int32 × XM × XM)) (R : Option (Int32 × XM)) : Prop := (∃ D' T' v', C = some (0, D', T') ∧ R = some (0, v') ∧ Bd T0 v0 T' v') ∨ (∃ (D' T' v' : XM) (s x : Int32) (b' p' s' : Nat) (t' : Tok), C = some (1, D', T') ∧ R = some (1, v') ∧ SRel D' S (Q ++ [(nI w, s, x)]) W on ∧ b ≤ b' ∧ St n lim b' p' s' t' T0 v0 T' v' ∧ v'.1 0 43 = nI (nd + 1) ∧ v'.1 0 46 = nI nd ∧ v'.1 0 44 = v.1 0 44 ∧ v'.1 0 45 = v.1 0 45 ∧ (∀ i, i < 4 * nd → v'.1 19 i = v.1 19 i) ∧ TR (v'.1 19) 1 nd [(nI w, s, x)])
section CWW
variable {S : List Int32} {Q : List (Int32 × Int32 × Int32)} {W on n lim b p s nd k w nS nT nW : Nat} {t : Tok} {T v T' v' T0 v0 D V vb : XM}
theorem St.rNum2 (h : St n lim b p s t T0 v0 T v) {y : Nat} (hy : y < 1000) : RD2 n lim p T0 v0 v (f_X8_takeNumber T 0 (nI y)) (f_X12_readNumber v 0 (nI y)) 1000 := by
  obtain ⟨⟨r, T'⟩, ⟨q, v'⟩, e1, e2, (⟨z1, z2, z3⟩ | ⟨m, m1, m2, z1, z2, z3, -, f1, f2, p', s', t', z4⟩)⟩ := h.num (x := 0) (by omega) hy
  · dsimp only at z1 z2 z3
    subst z1 z2
    exact Or.inl ⟨T', v', e1, e2, z3⟩
  · dsimp only at z1 z2 z3 z4 f1 f2
    subst z1 z2
    exact Or.inr ⟨m, T', v', p', s', t', by omega, e1, e2, z3, f2, z4⟩
theorem St.rNamed2 (h : St n lim b p s t T0 v0 T v) (d : WN nS nT nW V v) {o m M : Nat} (hs : (o = 0 ∧ m = nS ∧ M = 8) ∨ (o = 8 ∧ m = nT ∧ M = 6) ∨ (o = 14 ∧ m = nW ∧ M = 5)) : RD2 n lim p T0 v0 v (f_X8_takeNamed T V (nI o) (nI M)) (f_X12_readNamed v (nI o) (nI m)) 1000 := by
  have hc := h.1.2.2.1
  have hb := d.1
  obtain ⟨c1, -⟩ := c_named h (V := V) (o := o) (M := M) (by omega)
  unfold f_X12_readNamed
  rw [r_isName hc, bo_some]
  cases hn : nmB t with
  | false =>
    obtain ⟨T', v', b1, b2, b3⟩ := h.bad 1 (Or.inr rfl)
    rw [if_pos bIf, c1 hn, b1, show f_X12_bad v 1 = (0, v') from b2]
    exact Or.inl ⟨T', v', rfl, rfl, b3⟩
  | true =>
    have e2 := nm_2 hn
    rw [if_neg (show ¬ bI true = 0 by decide)]
    rcases h.look d hs hn with ⟨i, hi, q1, q2⟩ | ⟨q1, q2⟩
    · rw [q1, q2, bo_some, lt_eq, si_0, if_neg (nI_nm1 (by omega))]
      obtain ⟨T', v', a1, a2, p', s', t', a3, a4, a5⟩ := (h.told (x := nI i)).next
      rw [a1, a2, bo_some, bo_some]
      exact Or.inr ⟨i, T', v', p', s', t', by omega, rfl, rfl, (a5.2.1 13 (by omega)).trans si_0, a5, a3⟩
    · rw [q1, q2, bo_some, lt_eq, si_0, if_pos rfl]
      obtain ⟨T', v', b1, b2, b3⟩ := (h.told (x := -1)).bad 3 (Or.inl (by omega))
      rw [b1, show f_X12_bad (x_si v 0 13 (-1)) 3 = (0, v') from b2]
      exact Or.inl ⟨T', v', rfl, rfl, b3⟩
theorem c_98 {l3 l4 l5 : Int32} (hD : SRel D S Q W on) (hq : Q.length < 40) (h5 : ¬ l5 = -1) : ∃ D', f_X4_readPlain_98 V D T l3 l4 l5 = some (1, D', T) ∧ SRel D' S (Q ++ [(l3, l4, l5)]) W on := by
  obtain ⟨D', e, h⟩ := s_step hD hq l3 l4 l5
  refine ⟨D', ?_, h⟩
  unfold f_X4_readPlain_98
  rw [if_neg h5, e, lt_eq, if_neg one0]
/-- a node of a plain ONE -/
theorem one_node {a b c : Int32} {sg x : Int32} (h43 : v.1 0 43 = nI nd) (hn : nd < 60) (hw : 20 ≤ w) (hw2 : w ≤ 28) (h23 : w = 23 ∨ w = 24 → a = x) (h25 : 25 ≤ w → b = x ∧ c = sg ∧ (sg = 60 ∨ sg = 61 ∨ sg = 62)) : ∃ v', f_X12_saysOne v ((50 : Int32) + nI w) a b c = some (nI nd, v') ∧ (x_si v' 0 46 (nI nd)).1 0 43 = nI (nd + 1) ∧ (x_si v' 0 46 (nI nd)).1 0 46 = nI nd ∧ (∀ j, j ≠ 43 → j ≠ 46 → (x_si v' 0 46 (nI nd)).1 0 j = v.1 0 j) ∧ (∀ i, i ≠ 0 → i ≠ 19 → (x_si v' 0 46 (nI nd)).1 i = v.1 i) ∧ (x_si v' 0 46 (nI nd)).2 = v.2 ∧ (∀ i, i < 4 * nd → (x_si v' 0 46 (nI nd)).1 19 i = v.1 19 i) ∧ TR ((x_si v' 0 46 (nI nd)).1 19) 1 nd [(nI w, sg, x)] := by
  obtain ⟨v', e, g1, g2, g3, g4, g5⟩ := r_says (a := (50 : Int32) + nI w) (b := a) (c := b) (d := c) h43 hn
  obtain ⟨q0, q1, q2, q3, q4⟩ := nd4_at (g := v.1 19) (k := nd) (a := (50 : Int32) + nI w) (b := a) (c := b) (d := c)
  refine ⟨v', e, (si_n (by omega)).trans g2, si_0, fun j j3 j6 => (si_n j6).trans (g3 j j3), fun i i0 i19 => (si_r i0).trans (g4 i i0 i19), g5, fun i hi => ?_, ?_⟩
  · rw [si_r (by omega), g1, q4 i hi]
  · rw [si_r (by omega), g1]
    unfold TR
    rw [q0, q1, q2, q3]
    exact Or.inr (Or.inr (Or.inr ⟨w, sg, x, hw, hw2, by rw [kl_50, nI_add], rfl, h23, h25⟩))
theorem plain (hs : St n lim b p s t T0 v0 T v) (d : WN nS nT nW V v) (hD : SRel D S Q W on) (hq : Q.length < 40) (hw : 20 ≤ w) (hw2 : w ≤ 28) (h43 : v.1 0 43 = nI nd) (hn : nd < 60) : PLQ n lim b T0 v0 S Q W on nd w v (f_X4_readPlain D T V (nI w)) (PLr v w) := by
  have hc := hs.1.2.2.1
  have hp : b ≤ p := hs.1.2.1.2.2.2
  -- behind a thing read
  have tl : ∀ (T' v1 v2 : XM) (x : Nat) (p2 p' s' : Nat) (t' : Tok) (sg aa bb cc : Int32), x < 1000 → (∀ j, 42 ≤ j → v1.1 0 j = v.1 0 j) → v1.1 19 = v.1 19 → St n lim p2 p' s' t' T0 v0 T' v1 → b ≤ p2 → (w = 23 ∨ w = 24 → aa = nI x) → (25 ≤ w → bb = nI x ∧ cc = sg ∧ (sg = 60 ∨ sg = 61 ∨ sg = 62)) → PLQ n lim b T0 v0 S Q W on nd w v (f_X4_readPlain_98 V D T' (nI w) sg (nI x)) (x_bo (f_X12_saysOne v1 ((50 : Int32) + nI w) aa bb cc) (fun y8 => some ((1 : Int32), x_si y8.2 0 46 y8.1))) := by
    intro T' v1 v2 x p2 p' s' t' sg aa bb cc hx e0 e19 h1 hbp q1 q2
    obtain ⟨D', e1, hD'⟩ := c_98 (V := V) (T := T') (l3 := nI w) (l4 := sg) hD hq (nI_nm1 (n := x) (by omega))
    obtain ⟨v', e2, g1, g2, g3, g4, g5, g6, g7⟩ := one_node (v := v1) (a := aa) (b := bb) (c := cc) (sg := sg) (x := nI x) ((e0 43 (by omega)).trans h43) hn hw hw2 q1 q2
    rw [e1, e2, bo_some]
    exact Or.inr ⟨D', T', x_si v' 0 46 (nI nd), sg, nI x, p2, p', s', t', rfl, rfl, hD', hbp, h1.ref (fun j hj => g3 j (by omega) (by omega)) g4 g5, g1, g2, (g3 44 (by omega) (by omega)).trans (e0 44 (by omega)), (g3 45 (by omega) (by omega)).trans (e0 45 (by omega)), fun i hi => (g6 i hi).trans (by rw [e19]), g7⟩
  have fail : ∀ (T' v' : XM) (l4 : Int32), Bd T0 v0 T' v' → PLQ n lim b T0 v0 S Q W on nd w v (f_X4_readPlain_98 V D T' (nI w) l4 (-1)) (some (0, v')) := fun T' v' l4 hb => by
    refine Or.inl ⟨D, T', v', ?_, rfl, hb⟩
    unfold f_X4_readPlain_98
    rw [if_pos rfl]
  unfold f_X4_readPlain PLr
  by_cases c1 : w < 23
  · rw [if_neg (show ¬ nI w = 23 from fun z => by have := nI_iff (b := 23) (by omega) (by omega) z; omega), if_neg (show ¬ nI w = 24 from fun z => by have := nI_iff (b := 24) (by omega) (by omega) z; omega), if_pos (show nI w < 25 from nI_lt (b := 25) (by omega) (by omega)), if_neg (show ¬ (23 : Int32) ≤ nI w from nI_ge (b := 23) (by omega) (by omega))]
    exact tl T v v 0 b p s t 0 0 0 0 (by omega) (fun _ _ => rfl) rfl hs (Nat.le_refl _) (fun z => absurd z (by omega)) (fun z => absurd z (by omega))
  · rw [if_pos (show (23 : Int32) ≤ nI w from nI_le (a := 23) (by omega) (by omega))]
    by_cases c3 : w = 23
    · subst c3
      rw [if_pos (show nI 23 = 23 from rfl), if_neg (show ¬ (25 : Int32) ≤ nI 23 by decide)]
      unfold f_X12_readOf f_X12_readOf_13 f_X12_readOf_28
      rw [if_pos (show nI 23 = 23 from rfl), if_pos (show nI 23 = 23 from rfl), ck_eq (x := (0 : Int32)) (k := 0) rfl (by omega) (by omega), show x_ga v 2 (0 : Int32) = nI nS from by rw [kl_0, ga_in (by omega)]; exact d.2.2.1]
      rcases hs.rNamed2 d (o := 0) (m := nS) (M := 8) (by omega) with ⟨T', v', q1, q2, q3⟩ | ⟨x, T', v', p', s', t', qx, q1, q2, q3, q4, q5⟩
      · rw [show f_X8_takeNamed T V 0 8 = some (-1, T') from q1, show f_X12_readNamed v 0 (nI nS) = some (0, v') from q2, bo_some, bo_some, if_pos rfl]
        exact fail T' v' _ q3
      · rw [show f_X8_takeNamed T V 0 8 = some (nI x, T') from q1, show f_X12_readNamed v 0 (nI nS) = some (1, v') from q2, bo_some, bo_some, if_neg one0]
        dsimp only
        rw [q3]
        exact tl T' v' v x p p' s' t' 0 (nI x) 0 0 qx (fun j hj => (q4.2.1 j (by omega)).trans (si_n (by omega))) ((q4.1 19 (by omega)).trans (si_r (by omega))) q5 hp (fun _ => rfl) (fun z => absurd z (by omega))
    · by_cases c4 : w = 24
      · subst c4
        rw [if_neg (show ¬ nI 24 = 23 by decide), if_pos (show nI 24 = 24 from rfl), if_neg (show ¬ (25 : Int32) ≤ nI 24 by decide)]
        unfold f_X12_readOf f_X12_readOf_13 f_X12_readOf_28
        rw [if_neg (show ¬ nI 24 = 23 by decide), if_neg (show ¬ nI 24 = 23 by decide), kl_2, ck_in (by omega) (by omega), ga_in (by omega), d.2.2.2.1]
        rcases hs.rNamed2 d (o := 8) (m := nT) (M := 6) (by omega) with ⟨T', v', q1, q2, q3⟩ | ⟨x, T', v', p', s', t', qx, q1, q2, q3, q4, q5⟩
        · rw [show f_X8_takeNamed T V 8 6 = some (-1, T') from q1, show f_X12_readNamed v 8 (nI nT) = some (0, v') from q2, bo_some, bo_some, if_pos rfl]
          exact fail T' v' _ q3
        · rw [show f_X8_takeNamed T V 8 6 = some (nI x, T') from q1, show f_X12_readNamed v 8 (nI nT) = some (1, v') from q2, bo_some, bo_some, if_neg one0]
          dsimp only
          rw [q3]
          exact tl T' v' v x p p' s' t' 0 (nI x) 0 0 qx (fun j hj => (q4.2.1 j (by omega)).trans (si_n (by omega))) ((q4.1 19 (by omega)).trans (si_r (by omega))) q5 hp (fun _ => rfl) (fun z => absurd z (by omega))
      · rw [if_neg (show ¬ nI w = 23 from fun z => by have := nI_iff (b := 23) (by omega) (by omega) z; omega), if_neg (show ¬ nI w = 24 from fun z => by have := nI_iff (b := 24) (by omega) (by omega) z; omega), if_neg (show ¬ nI w < 25 from nI_ge' (b := 25) (by omega) (by omega)), if_pos (show (25 : Int32) ≤ nI w from nI_le (a := 25) (by omega) (by omega))]
        -- a comparison
        have cmp : ∀ c : Nat, t.1 = 4 → t.2.1 = c → (c = 60 ∨ c = 61 ∨ c = 62) → PLQ n lim b T0 v0 S Q W on nd w v (f_X4_readPlain_84 V D T (nI w) (nI c)) (f_X12_readCompare_33 v (nI w)) := by
          intro c h4 hc4 hcc
          obtain ⟨T1, v1, a1, a2, p1, s1, t1, hs1, fT, fV⟩ := hs.next
          unfold f_X4_readPlain_84 f_X12_readCompare_33
          rw [a1, a2, bo_some, bo_some, show v.1 0 9 = nI c from ((hc.2.1 h4).1).trans (by rw [hc4])]
          have hp1 : p ≤ p1 := hs1.1.2.1.2.2.2
          rcases hs1.rNum2 (y := 999) (by omega) with ⟨T', v', q1, q2, q3⟩ | ⟨x, T', v', p', s', t', qx, q1, q2, q3, q4, q5⟩
          · rw [show f_X8_takeNumber T1 0 999 = some (-1, T') from q1, show f_X12_readNumber v1 0 999 = some (0, v') from q2, bo_some, bo_some, if_pos rfl]
            exact fail T' v' _ q3
          · rw [show f_X8_takeNumber T1 0 999 = some (nI x, T') from q1, show f_X12_readNumber v1 0 999 = some (1, v') from q2, bo_some, bo_some, if_neg one0]
            dsimp only
            rw [q3]
            exact tl T' v' v x p1 p' s' t' (nI c) 0 (nI x) (nI c) qx (fun j hj => ((q4.2.1 j (by omega)).trans (si_n (by omega))).trans (fV.2.1 j (by omega))) (((q4.1 19 (by omega)).trans (si_r (by omega))).trans (fV.1 19 (by omega))) q5 (by omega) (fun z => absurd z (by omega)) (fun _ => ⟨rfl, rfl, by rcases hcc with rfl | rfl | rfl <;> decide⟩)
        have sg : ∀ c : Nat, (c = 60 ∨ c = 61 ∨ c = 62) → (T.1 0 6 = nI c ↔ t.1 = 4 ∧ t.2.1 = c) ∧ f_X12_isSign v (nI c) = bI (decide (t.1 = 4) && decide (t.2.1 = c)) := fun c hcc => ⟨tk_6 hc (by omega) (by omega), r_isSign hc (by omega) (by omega)⟩
        have no : ∀ c : Nat, ¬ (t.1 = 4 ∧ t.2.1 = c) → bI (decide (t.1 = 4) && decide (t.2.1 = c)) = 0 := fun c e => by
          by_cases c1 : t.1 = 4
          · rw [decide_eq_true c1, decide_eq_false (fun q => e ⟨c1, q⟩)]; rfl
          · rw [decide_eq_false c1]; rfl
        have yes : ∀ c : Nat, t.1 = 4 → t.2.1 = c → ¬ bI (decide (t.1 = 4) && decide (t.2.1 = c)) = 0 := fun c e1 e2 => by
          rw [decide_eq_true e1, decide_eq_true e2]; decide
        unfold f_X12_readCompare
        rw [show f_X12_isSign v 60 = _ from (sg 60 (by omega)).2, show f_X12_isSign v 61 = _ from (sg 61 (by omega)).2, show f_X12_isSign v 62 = _ from (sg 62 (by omega)).2]
        by_cases k0 : t.1 = 4 ∧ t.2.1 = 60
        · have e6 := (sg 60 (by omega)).1.mpr k0
          rw [if_pos (show T.1 0 6 = 60 from e6), e6, lt_eq (a := bI (decide (t.1 = 4) && decide (t.2.1 = 60))), if_neg (yes 60 k0.1 k0.2)]
          exact cmp 60 k0.1 k0.2 (by omega)
        rw [if_neg (show ¬ T.1 0 6 = 60 from fun q => k0 ((sg 60 (by omega)).1.mp q)), lt_eq (a := bI (decide (t.1 = 4) && decide (t.2.1 = 60))), if_pos (no 60 k0)]
        by_cases k1 : t.1 = 4 ∧ t.2.1 = 61
        · have e6 := (sg 61 (by omega)).1.mpr k1
          rw [if_pos (show T.1 0 6 = 61 from e6), e6, lt_eq (a := bI (decide (t.1 = 4) && decide (t.2.1 = 61))), if_neg (yes 61 k1.1 k1.2)]
          exact cmp 61 k1.1 k1.2 (by omega)
        rw [if_neg (show ¬ T.1 0 6 = 61 from fun q => k1 ((sg 61 (by omega)).1.mp q)), lt_eq (a := bI (decide (t.1 = 4) && decide (t.2.1 = 61))), if_pos (no 61 k1)]
        by_cases k2 : t.1 = 4 ∧ t.2.1 = 62
        · have e6 := (sg 62 (by omega)).1.mpr k2
          rw [if_pos (show T.1 0 6 = 62 from e6), e6, lt_eq (a := bI (decide (t.1 = 4) && decide (t.2.1 = 62))), if_neg (yes 62 k2.1 k2.2)]
          exact cmp 62 k2.1 k2.2 (by omega)
        rw [if_neg (show ¬ T.1 0 6 = 62 from fun q => k2 ((sg 62 (by omega)).1.mp q)), lt_eq (a := bI (decide (t.1 = 4) && decide (t.2.1 = 62))), if_pos (no 62 k2)]
        obtain ⟨T', v', b1, b2, b3⟩ := hs.bad 1 (Or.inr rfl)
        rw [show f_X8_refuse T 1 = (0, T') from b1, show f_X12_bad v 1 = (0, v') from b2]
        exact Or.inl ⟨D, T', v', rfl, rfl, b3⟩
end CWW
