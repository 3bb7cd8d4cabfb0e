-- the next token, both sides.
section TM
variable {n lim b p s a : Nat} {fl g : Bool} {t : Tok} {T v T' v' T'' v'' T0 v0 : XM}
theorem run2 (hn : n ≤ 940) (hsn : s < n) (hb : TB T0 v0) (hr : Rn s s 0 fl true T0 v0) (hT : T0.1 0 2 = nI n ∧ T0.1 0 5 = nI s ∧ T0.1 0 8 = -1) (hv : v0.1 0 3 = nI n ∧ v0.1 0 6 = nI s) (h0 : ∀ B, T0.1 2 s = nI B → B < 256 → ltr B = fl ∧ (ltr B = true ∨ dgt B = true)) : R2 (x_lp (φ := XM → Int32 → Option (XM)) (fun _ _ => none) (f_X8_readRun_12) x_NN T0 (0 : Int32)) (x_lp (φ := XM → Int32 → Int32 → Option (XM)) (fun _ _ _ => none) (f_X12_go_215) x_NN v0 (bI fl) (1 : Int32)) (fun T' v' => ∃ (p : Nat) (t : Tok), s < p ∧ p ≤ n ∧ TkC t T' v' ∧ 1 ≤ t.1 ∧ t.1 ≤ 3 ∧ FT T0 T' ∧ FV v0 v' ∧ T'.1 0 4 = nI p ∧ v'.1 0 5 = nI p ∧ T'.1 0 5 = nI s ∧ v'.1 0 6 = nI s) := by
  refine lp2_ind (σ := XM × XM × Int32 × Int32) (fun (K : XM → Int32 → Option XM) q => K q.1 q.2.2.1) (fun (K : XM → Int32 → Int32 → Option XM) q => K q.2.1 (bI fl) q.2.2.2) (fun k q => ∃ p a g, p + k = n ∧ q.2.2.1 = nI a ∧ q.2.2.2 = bI g ∧ Rn s p a fl g q.1 q.2.1 ∧ FT T0 q.1 ∧ FV v0 q.2.1 ∧ q.1.1 0 5 = nI s ∧ q.1.1 0 8 = -1 ∧ q.2.1.1 0 6 = nI s) _ ?_ x_NN x_NN (n - s) (T0, v0, 0, 1) (by show n - s < 1000000; omega) (by show n - s < 1000000; omega) ⟨s, 0, true, by omega, rfl, rfl, hr, FT.rf, FV.rf, hT.2.1, hT.2.2, hv.2⟩
  rintro k K K' ⟨T, v, _, _⟩ ⟨p, a, g, hk, rfl, rfl, hr, fT, fV, T5, T8, v6⟩ ih
  dsimp only at hr fT fV T5 T8 v6
  show R2 (f_X8_readRun_12 K T (nI a)) (f_X12_go_215 K' v (bI fl) (bI g)) _
  have hb' := hb.fr fT fV
  have T2 : T.1 0 2 = nI n := (fT.2.1 2 (by omega)).trans hT.1
  have v3 : v.1 0 3 = nI n := (fV.2.1 3 (by omega)).trans hv.1
  obtain ⟨T4, v5⟩ := hr.2.2.2.2.1
  have hsp := hr.1
  have fin : s < p → R2 (f_X8_readRun_131 T (nI a)) (if bI g = 0 then x_lt (x_si v 0 7 (1 : Int32)) (fun m18 => some m18) else if bI fl = 0 then f_X12_go_374 v (bI fl) ((v.1 0 5) - (v.1 0 6)) (3 : Int32) else f_X12_go_374 v (bI fl) ((v.1 0 5) - (v.1 0 6)) (7 : Int32)) (fun T' v' => ∃ (p : Nat) (t : Tok), s < p ∧ p ≤ n ∧ TkC t T' v' ∧ 1 ≤ t.1 ∧ t.1 ≤ 3 ∧ FT T0 T' ∧ FV v0 v' ∧ T'.1 0 4 = nI p ∧ v'.1 0 5 = nI p ∧ T'.1 0 5 = nI s ∧ v'.1 0 6 = nI s) := fun h => by
    obtain ⟨t, T', v', e1, e2, e3, e4, e5, e6, e7, e8⟩ := run_end hr hb' h (by omega) T5 v6 T8
    exact ⟨T', v', e1, e2, p, t, h, by omega, e3, e4, e5, fT.tr e6, fV.tr e7, e8⟩
  unfold f_X8_readRun_12 f_X12_go_215 f_X12_tapeAt
  rw [T2, T4, v3, v5]
  by_cases c : n ≤ p
  · rw [if_pos (nI_le c (by omega)), if_pos (nI_le c (by omega)), bo_some, bo_some, show f_X12_isLetter 0 = 0 by decide, show f_X12_isDigit 0 = 0 by decide, lt_eq, lt_eq, if_pos rfl, if_pos rfl, ← v5]
    exact fin (by omega)
  · obtain ⟨B, hB, t1, t2⟩ := hb'.at (show p < 940 by omega)
    have c' : p < 940 := by omega
    rw [if_neg (nI_ge (by omega) (by omega)), if_neg (nI_ge (by omega) (by omega)), ck_in c' (by omega), ga_in (by omega), t2, rg_in c' (by omega), show (x_sub T 1).1 1 p = nI B from t1, bo_some, bo_some]
    simp only [lt_eq]
    rw [k_ltr B hB, k_dgt B hB, q_ltr B hB, q_dgt B hB]
    have hst : s = p → ltr B = fl ∧ (ltr B = true ∨ dgt B = true) := fun q => by
      subst q
      exact h0 B ((congrFun (fT.1 2 (by omega)) s).symm.trans t1) hB
    have go : (ltr B = true ∨ dgt B = true) → R2 (f_X8_readRun_57 K T (nI a)) (f_X12_go_243 K' v (bI fl) (bI g)) (fun T' v' => ∃ (p : Nat) (t : Tok), s < p ∧ p ≤ n ∧ TkC t T' v' ∧ 1 ≤ t.1 ∧ t.1 ≤ 3 ∧ FT T0 T' ∧ FV v0 v' ∧ T'.1 0 4 = nI p ∧ v'.1 0 5 = nI p ∧ T'.1 0 5 = nI s ∧ v'.1 0 6 = nI s) := fun h => by
      obtain ⟨a1, a2⟩ := c_step (K := K) (a := a) c' hB t1 T4
      obtain ⟨b1, b2⟩ := rn_step hr hB (fun q => (hst q).1)
      rw [r_step c' hsp hB t2 v5 v6]
      by_cases d : ltr B = true
      · rw [a1 d]
        refine ih (k - 1) (x_si (x_sl T 0 9 (T.2 0 9 * 32 + lN (B - 96))) 0 4 (nI (p + 1)), rN s p B v, nI (a + 1), bI (g && decide (ltr B = fl))) (by omega) ⟨p + 1, a + 1, g && decide (ltr B = fl), by omega, rfl, rfl, b1 d, fT.sl.si (by omega), rN_FV fV, (si_n (by omega)).trans T5, (si_n (by omega)).trans T8, (rN_o (by omega) (by omega)).trans v6⟩
      · have d2 : dgt B = true := h.resolve_left d
        rw [a2 d2]
        refine ih (k - 1) (x_si (x_si T 0 7 (T.1 0 7 * 10 + nI (B - 48))) 0 4 (nI (p + 1)), rN s p B v, nI a, bI (g && decide (ltr B = fl))) (by omega) ⟨p + 1, a, g && decide (ltr B = fl), by omega, rfl, rfl, b2 d2, (fT.si (by omega)).si (by omega), rN_FV fV, ((si_n (by omega)).trans (si_n (by omega))).trans T5, ((si_n (by omega)).trans (si_n (by omega))).trans T8, (rN_o (by omega) (by omega)).trans v6⟩
    by_cases d1 : ltr B = true
    · rw [d1, if_neg (show ¬ bI true = 0 by decide), if_neg (show ¬ bI true = 0 by decide)]
      exact go (Or.inl d1)
    · rw [show ltr B = false from Bool.eq_false_iff.mpr d1, if_pos bIf, if_pos bIf]
      by_cases d2 : dgt B = true
      · rw [d2, if_neg (show ¬ bI true = 0 by decide), if_neg (show ¬ bI true = 0 by decide)]
        exact go (Or.inr d2)
      · rw [show dgt B = false from Bool.eq_false_iff.mpr d2, if_pos bIf, if_pos bIf, ← v5]
        refine fin ?_
        by_cases e : s = p
        · rcases (hst e).2 with e1 | e1
          · exact absurd e1 d1
          · exact absurd e1 d2
        · omega
/-- at p, nothing blank there -/
theorem adv1 (h : Tk0 n lim p T v) (hbl : p < n → ∀ B, T.1 2 p = nI B → B < 256 → blk B = false) (hbp : b ≤ p) : R2 (f_X8_advance_41 T) (f_X12_go_52 v) (fun T' v' => ∃ (p' s' : Nat) (t : Tok), Tk n lim b p' s' t T' v' ∧ FT T T' ∧ FV v v') := by
  obtain ⟨⟨n1, n2, n3⟩, ⟨a1, a2, a3, a4, a5, a6⟩, hb⟩ := h
  -- the token proper
  have key : ∀ (m : XM) (m' : XM), FT T m → FV v m' → m.1 0 4 = nI p → m'.1 0 5 = nI p → m.1 0 5 = nI p → m'.1 0 6 = nI p → m.1 0 8 = -1 → (n ≤ lim ∨ p < lim) → R2 (f_X8_advance_92 m) (f_X12_go_96 m') (fun T' v' => ∃ (p' s' : Nat) (t : Tok), Tk n lim b p' s' t T' v' ∧ FT T T' ∧ FV v v') := by
    intro m m' fm fm' m4 m5 m5' m6 m8 hl
    have hb' := hb.fr fm fm'
    have out : ∀ (p' : Nat) (t : Tok) (T' v' : XM), p ≤ p' → p' ≤ n → FT m T' → FV m' v' → TkC t T' v' → T'.1 0 4 = nI p' → v'.1 0 5 = nI p' → T'.1 0 5 = nI p → v'.1 0 6 = nI p → (2 ≤ t.1 → p < p' ∧ p < lim) → (t.1 = 4 → p' = p + 1) → ∃ (p' s' : Nat) (t : Tok), Tk n lim b p' s' t T' v' ∧ FT T T' ∧ FV v v' := by
      intro p' t T' v' q1 q2 g1 g2 g3 g4 g5 g6 g7 g8 g9
      have f1 := fm.tr g1
      have f2 := fm'.tr g2
      exact ⟨p', p, t, ⟨⟨⟨n1, n2, q2⟩, ⟨(f1.2.1 2 (by omega)).trans a1, (f2.2.1 3 (by omega)).trans a2, (f1.2.1 3 (by omega)).trans a3, (f2.2.1 4 (by omega)).trans a4, g4, g5⟩, hb.fr f1 f2⟩, ⟨g6, g7, by omega, by omega⟩, g3, fun q => ⟨hbp, g8 q⟩, g9⟩, f1, f2⟩
    unfold f_X8_advance_92 f_X12_go_96
    rw [m4, m5, show m.1 0 2 = nI n from (fm.2.1 2 (by omega)).trans a1, show m'.1 0 3 = nI n from (fm'.2.1 3 (by omega)).trans a2]
    by_cases c : p < n
    · obtain ⟨B, hB, t1, t2⟩ := hb'.at (show p < 940 by omega)
      have c' : p < 940 := by omega
      have hB0 : T.1 2 p = nI B := (congrFun (fm.1 2 (by omega)) p).symm.trans t1
      rw [if_pos (nI_lt c (by omega)), if_pos (nI_lt c (by omega)), ck_in c' (by omega), ga_in (by omega), t2, rg_in c' (by omega), show (x_sub m 1).1 1 p = nI B from t1]
      simp only [lt_eq]
      rw [k_ltr B hB, k_dgt B hB, q_ltr B hB, q_dgt B hB, k_sgn B hB]
      have run : (ltr B = true ∨ dgt B = true) → R2 (f_X8_advance_145 m) (f_X12_go_198 m' (nI B)) (fun T' v' => ∃ (p' s' : Nat) (t : Tok), Tk n lim b p' s' t T' v' ∧ FT T T' ∧ FV v v') := fun hh => by
        unfold f_X8_advance_145 f_X12_go_198 f_X8_readRun
        rw [q_ltr B hB]
        simp only [lt_eq]
        have f1 : FT m (x_sl (x_si m 0 7 0) 0 9 0) := (FT.rf.si (by omega)).sl
        have f2 : FV m' (x_si (x_sl m' 0 12 0) 0 8 0) := FV.rf.sl.si (by omega)
        have hrn : Rn p p 0 (ltr B) true (x_sl (x_si m 0 7 0) 0 9 0) (x_si (x_sl m' 0 12 0) 0 8 0) := by
          refine ⟨Nat.le_refl _, Nat.zero_le _, ⟨fun _ => ?_, fun _ => rfl⟩, fun q => absurd q (Nat.lt_irrefl _), ⟨(show (x_si m 0 7 0).1 0 4 = nI p from (si_n (by omega)).trans m4), (si_n (by omega)).trans m5⟩, fun _ _ => ⟨[], fun c hc => absurd hc (List.not_mem_nil), rfl, sl_0, (show (x_sl m' 0 12 0).2 0 12 = lN 0 from sl_0)⟩, fun _ _ => ⟨0, by rw [Nat.sub_self]; decide, (show (x_si m 0 7 0).1 0 7 = nI 0 from si_0), si_0⟩⟩
          rw [Nat.sub_self]; split <;> rfl
        obtain ⟨T', v', e1, e2, p', t, g1, g2, g3, g4, g5, g6, g7, g8, g9, g10, g11⟩ := run2 (n := n) n1 c (hb'.fr f1 f2) hrn ⟨(f1.2.1 2 (by omega)).trans ((fm.2.1 2 (by omega)).trans a1), (show (x_si m 0 7 0).1 0 5 = nI p from (si_n (by omega)).trans m5'), (show (x_si m 0 7 0).1 0 8 = -1 from (si_n (by omega)).trans m8)⟩ ⟨(f2.2.1 3 (by omega)).trans ((fm'.2.1 3 (by omega)).trans a2), (si_n (by omega)).trans m6⟩ (fun B' q1 q2 => by
          have : B' = B := nI_iff (by omega) (by omega) (q1.symm.trans t1)
          subst this
          exact ⟨rfl, hh⟩)
        rw [e1, bo_some, e2]
        exact R2_some (out p' t T' v' (by omega) g2 (f1.tr g6) (f2.tr g7) g3 g8 g9 g10 g11 (fun _ => by omega) (fun q => by omega))
      by_cases d1 : ltr B = true
      · rw [d1, if_neg (show ¬ bI true = 0 by decide), if_neg (show ¬ bI true = 0 by decide)]
        exact run (Or.inl d1)
      · rw [show ltr B = false from Bool.eq_false_iff.mpr d1, if_pos bIf, if_pos bIf]
        by_cases d2 : dgt B = true
        · rw [d2, if_neg (show ¬ bI true = 0 by decide), if_neg (show ¬ bI true = 0 by decide)]
          exact run (Or.inr d2)
        · rw [show dgt B = false from Bool.eq_false_iff.mpr d2, if_pos bIf, if_pos bIf]
          have sg : ∀ (k : Int32) (kk : Nat) (t : Tok), k = nI kk → kk < 256 → t.1 = (if sgn B = true then 4 else 1) → t.2.1 = B → (kk = if sgn B = true then B else 1) → R2 (f_X8_advance_185 m k) (f_X12_go_179 m' (nI B) (nI t.1)) (fun T' v' => ∃ (p' s' : Nat) (t : Tok), Tk n lim b p' s' t T' v' ∧ FT T T' ∧ FV v v') := by
            intro k kk t ek hkk et1 et2 ekk
            unfold f_X8_advance_185 f_X12_go_179
            simp only [lt_eq]
            rw [show (x_si m 0 6 k).1 0 4 = nI p from (si_n (by omega)).trans m4, nI_1, show (x_si (x_si m' 0 7 (nI t.1)) 0 9 (nI B)).1 0 5 = nI p from ((si_n (by omega)).trans (si_n (by omega))).trans m5, nI_1]
            refine R2_some (out (p + 1) t _ _ (by omega) (by omega) ((FT.rf.si (by omega)).si (by omega)) (((FV.rf.si (by omega)).si (by omega)).si (by omega)) ⟨⟨?_, ?_, ?_⟩, fun q => ⟨?_, ?_⟩, fun q => ?_, fun q => ?_, ?_⟩ si_0 si_0 ?_ ?_ (fun _ => by omega) (fun _ => rfl))
            · rw [et1]; split <;> decide
            · exact (si_n (by omega)).trans ((si_n (by omega)).trans si_0)
            · refine (si_n (by omega)).trans (si_0.trans ?_)
              rw [ek, ekk, et1, et2]
              by_cases z : sgn B = true
              · rw [if_pos z, if_pos z, if_pos rfl]
              · rw [if_neg z, if_neg z, if_neg (by decide)]
            · rw [et2]; exact (si_n (by omega)).trans si_0
            · rw [et2]
              by_cases z : sgn B = true
              · exact z
              · rw [et1, if_neg z] at q; exact absurd q (by decide)
            · rw [et1] at q; split at q <;> exact absurd q (by decide)
            · rw [et1] at q; split at q <;> exact absurd q (by decide)
            · rw [if_neg (fun q => by have q := q.1; rw [et1] at q; split at q <;> exact absurd q (by decide))]
              exact ((si_n (by omega)).trans (si_n (by omega))).trans m8
            · exact ((si_n (by omega)).trans (si_n (by omega))).trans m5'
            · exact ((si_n (by omega)).trans ((si_n (by omega)).trans (si_n (by omega)))).trans m6
          have hsg : sgn B = true → (B = 59 ∨ B = 60 ∨ B = 61 ∨ B = 62 ∨ B = 40 ∨ B = 41) := fun z => by
            unfold sgn at z
            simp only [Bool.or_eq_true, beq_iff_eq] at z
            omega
          have hns : ¬ sgn B = true → ∀ k, k = 59 ∨ k = 60 ∨ k = 61 ∨ k = 62 ∨ k = 40 ∨ k = 41 → ¬ nI B = nI k := fun z k hk q => by
            have := nI_iff (by omega) (by omega) q
            refine z ?_
            subst this
            rcases hk with rfl | rfl | rfl | rfl | rfl | rfl <;> rfl
          by_cases z : sgn B = true
          · have r4 : f_X12_go_174 m' (nI B) = f_X12_go_179 m' (nI B) (nI 4) := rfl
            have key := sg (nI B) B (4, B, []) rfl hB (by rw [if_pos z]) rfl (by rw [if_pos z])
            rw [z, if_neg (show ¬ bI true = 0 by decide), r4]
            rcases hsg z with rfl | rfl | rfl | rfl | rfl | rfl
            · exact key
            · exact key
            · exact key
            · exact key
            · exact key
            · exact key
          · have key := sg 1 1 (1, B, []) rfl (by decide) (by rw [if_neg z]) rfl (by rw [if_neg z])
            have nn := hns z
            rw [show sgn B = false from Bool.eq_false_iff.mpr z, if_pos bIf, if_neg (show ¬ nI B = (59 : Int32) from nn 59 (by omega)), if_neg (show ¬ nI B = (60 : Int32) from nn 60 (by omega)), if_neg (show ¬ nI B = (61 : Int32) from nn 61 (by omega)), if_neg (show ¬ nI B = (62 : Int32) from nn 62 (by omega)), if_neg (show ¬ nI B = (40 : Int32) from nn 40 (by omega)), if_neg (show ¬ nI B = (41 : Int32) from nn 41 (by omega))]
            exact key
    · rw [if_neg (nI_ge' (by omega) (by omega)), if_neg (nI_ge' (by omega) (by omega)), lt_eq, lt_eq]
      refine R2_some (out p (0, 0, []) _ _ (Nat.le_refl _) n3 (FT.rf.si (by omega)) (FV.rf.si (by omega)) ⟨⟨by decide, si_0, si_0⟩, fun q => absurd q (by decide), fun q => absurd q (by decide), fun q => absurd q (by decide), ?_⟩ ((si_n (by omega)).trans m4) ((si_n (by omega)).trans m5) ((si_n (by omega)).trans m5') ((si_n (by omega)).trans m6) (fun q => absurd q (by decide)) (fun q => absurd q (by decide)))
      rw [if_neg (fun q => absurd q.1 (by decide))]
      exact (si_n (by omega)).trans m8
  unfold f_X8_advance_41 f_X12_go_52
  simp only [lt_eq]
  have fm : FT T (x_si (x_si T 0 5 (T.1 0 4)) 0 8 (-1)) := (FT.rf.si (by omega)).si (by omega)
  have fv : FV v (x_si v 0 6 (v.1 0 5)) := FV.rf.si (by omega)
  have e4 : (x_si (x_si T 0 5 (T.1 0 4)) 0 8 (-1)).1 0 4 = nI p := ((si_n (by omega)).trans (si_n (by omega))).trans a5
  have e3 : (x_si (x_si T 0 5 (T.1 0 4)) 0 8 (-1)).1 0 3 = nI lim := ((si_n (by omega)).trans (si_n (by omega))).trans a3
  have e2 : (x_si (x_si T 0 5 (T.1 0 4)) 0 8 (-1)).1 0 2 = nI n := ((si_n (by omega)).trans (si_n (by omega))).trans a1
  have e5 : (x_si (x_si T 0 5 (T.1 0 4)) 0 8 (-1)).1 0 5 = nI p := ((si_n (by omega)).trans si_0).trans a5
  have w3 : (x_si v 0 6 (v.1 0 5)).1 0 3 = nI n := (si_n (by omega)).trans a2
  have w4 : (x_si v 0 6 (v.1 0 5)).1 0 4 = nI lim := (si_n (by omega)).trans a4
  have w6 : (x_si v 0 6 (v.1 0 5)).1 0 6 = nI p := si_0.trans a6
  have w5 : (x_si v 0 6 (v.1 0 5)).1 0 5 = nI p := (si_n (by omega)).trans a6
  have kk := fun hl => key _ _ fm fv e4 w5 e5 w6 si_0 hl
  rw [e4, e3, e2, w3, w4, w6]
  by_cases c1 : p < lim
  · rw [if_pos (nI_lt c1 (by omega)), if_pos (nI_lt c1 (by omega))]
    have := kk (Or.inr c1)
    split <;> exact this
  · rw [if_neg (nI_ge' (by omega) (by omega)), if_neg (nI_ge' (by omega) (by omega))]
    by_cases c2 : n ≤ lim
    · rw [if_pos (nI_le c2 (by omega)), if_pos (nI_le c2 (by omega))]
      exact kk (Or.inl c2)
    · rw [if_neg (nI_ge (by omega) (by omega)), if_neg (nI_ge (by omega) (by omega))]
      have fm' := (fm.si (j := 5) (x := nI lim) (by omega)).si (j := 6) (x := 1) (by omega)
      have fv' := (fv.si (j := 6) (x := nI lim) (by omega)).si (j := 7) (x := 1) (by omega)
      refine R2_some ⟨p, lim, (1, 0, []), ⟨⟨⟨n1, n2, n3⟩, ⟨(fm'.2.1 2 (by omega)).trans a1, (fv'.2.1 3 (by omega)).trans a2, (fm'.2.1 3 (by omega)).trans a3, (fv'.2.1 4 (by omega)).trans a4, ((si_n (by omega)).trans (si_n (by omega))).trans e4, ((si_n (by omega)).trans (si_n (by omega))).trans w5⟩, hb.fr fm' fv'⟩, ⟨(si_n (by omega)).trans si_0, (si_n (by omega)).trans si_0, n2, hbp⟩, ⟨⟨by decide, si_0, si_0⟩, fun q => absurd q (by decide), fun q => absurd q (by decide), fun q => absurd q (by decide), ?_⟩, fun q => absurd q (by decide), fun q => absurd q (by decide)⟩, fm', fv'⟩
      rw [if_neg (fun q => absurd q.1 (by decide))]
      exact ((si_n (by omega)).trans (si_n (by omega))).trans si_0
/-- the next token on both sides -/
theorem adv (h : Tk0 n lim p T v) : R2 (f_X8_advance T) (f_X12_go v) (fun T' v' => ∃ (p' s' : Nat) (t : Tok), Tk n lim p p' s' t T' v' ∧ FT T T' ∧ FV v v') := by
  unfold f_X8_advance f_X12_go
  have hpn := h.1.2.2
  refine lp2_ind (σ := XM × XM) (fun (K : XM → Option XM) q => K q.1) (fun (K : XM → Option XM) q => K q.2) (fun k q => ∃ p', p' + k = n ∧ p ≤ p' ∧ Tk0 n lim p' q.1 q.2 ∧ FT T q.1 ∧ FV v q.2) _ ?_ x_NN x_NN (n - p) (T, v) (by have := h.1.1; show n - p < 1000000; omega) (by have := h.1.1; show n - p < 1000000; omega) ⟨p, by omega, Nat.le_refl _, h, FT.rf, FV.rf⟩
  rintro k K K' ⟨T1, v1⟩ ⟨p', hk, hpp, h1, f1, f2⟩ ih
  dsimp only at h1 f1 f2
  show R2 (f_X8_advance_0 K T1) (f_X12_go_0 K' v1) _
  have go : (p' < n → ∀ B, T1.1 2 p' = nI B → B < 256 → blk B = false) → R2 (f_X8_advance_41 T1) (f_X12_go_52 v1) (fun T' v' => ∃ (p' s' : Nat) (t : Tok), Tk n lim p p' s' t T' v' ∧ FT T T' ∧ FV v v') := fun q =>
    R2_mono (adv1 h1 q hpp) (fun _ _ ⟨p', s', t, z1, z2, z3⟩ => ⟨p', s', t, z1, f1.tr z2, f2.tr z3⟩)
  obtain ⟨⟨n1, n2, n3⟩, ⟨a1, a2, a3, a4, a5, a6⟩, hb⟩ := h1
  unfold f_X8_advance_0 f_X12_go_0
  rw [a1, a2, a5, a6]
  by_cases c : n ≤ p'
  · rw [if_pos (nI_le c (by omega)), if_pos (nI_le c (by omega))]
    exact go (fun q => absurd q (by omega))
  · obtain ⟨B, hB, t1, t2⟩ := hb.at (show p' < 940 by omega)
    have c' : p' < 940 := by omega
    rw [if_neg (nI_ge (by omega) (by omega)), if_neg (nI_ge (by omega) (by omega)), ck_in c' (by omega), ck_in c' (by omega), ga_in (by omega), t2, rg_in c' (by omega), show (x_sub T1 1).1 1 p' = nI B from t1]
    simp only [lt_eq]
    rw [k_blk B hB]
    have st : R2 (K (x_si T1 0 4 (nI p' + 1))) (f_X12_go_39 K' v1) (fun T' v' => ∃ (p' s' : Nat) (t : Tok), Tk n lim p p' s' t T' v' ∧ FT T T' ∧ FV v v') := by
      unfold f_X12_go_39
      rw [a6, nI_1, lt_eq]
      refine ih (k - 1) (x_si T1 0 4 (nI (p' + 1)), x_si v1 0 5 (nI (p' + 1))) (by omega) ⟨p' + 1, by omega, by omega, ⟨⟨n1, n2, by omega⟩, ⟨(si_n (by omega)).trans a1, (si_n (by omega)).trans a2, (si_n (by omega)).trans a3, (si_n (by omega)).trans a4, si_0, si_0⟩, hb.fr (FT.rf.si (by omega)) (FV.rf.si (by omega))⟩, f1.si (by omega), f2.si (by omega)⟩
    by_cases z : blk B = true
    · rw [z, if_neg (show ¬ bI true = 0 by decide)]
      unfold blk at z
      simp only [Bool.or_eq_true, beq_iff_eq] at z
      rcases z with rfl | rfl
      · exact st
      · exact st
    · have n32 : ¬ nI B = (32 : Int32) := fun q => z (by rw [show B = 32 from nI_iff (by omega) (by omega) q]; rfl)
      have n10 : ¬ nI B = (10 : Int32) := fun q => z (by rw [show B = 10 from nI_iff (by omega) (by omega) q]; rfl)
      rw [show blk B = false from Bool.eq_false_iff.mpr z, if_pos bIf, if_neg n32, if_neg n10]
      exact go (fun _ B' q1 q2 => by rw [show B' = B from nI_iff (by omega) (by omega) (q1.symm.trans t1)]; exact Bool.eq_false_iff.mpr z)
end TM
