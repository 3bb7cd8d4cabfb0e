-- what is said: one ONE.
def CL (V : XM) (N : Nat) (D T : XM) (due i : Int32) : Option (Int32 × XM × XM) := x_lp (φ := XM → XM → Int32 → Int32 → Option (Int32 × XM × XM)) (fun _ _ _ _ => none) (f_X4_readSentence_26 V) N D T due i
theorem CL_s {V D T : XM} {N : Nat} {due i : Int32} : CL V (N + 1) D T due i = f_X4_readSentence_26 V (CL V N) D T due i := rfl
def stp (R : List Int32) : List (Int32 × Int32 × Int32) := R.map (fun x => (x, 0, 0))
/-- both have failed alike -/
def FailQ (V T0 v0 D T : XM) (i : Nat) (R : Option (Int32 × XM)) : Prop := ∃ (c : Nat) (D' T' v' : XM), c ≤ 202 - i ∧ (∀ N, CL V (N + c) D T 1 (nI i) = some (0, D', T')) ∧ R = some (0, v') ∧ Bd T0 v0 T' v'
/-- behind a ONE, or ONES that are joined -/
def Mid (V T0 v0 : XM) (n b0 : Nat) (D0 Ts : XM) (i0 : Nat) (S : List Int32) (Q : List (Int32 × Int32 × Int32)) (W on0 nd0 : Nat) (vs D T v : XM) (i b p s : Nat) (t : Tok) (W' : Nat) (L Qx : List (Int32 × Int32 × Int32)) (Sx : List Int32) (on nd a : Nat) : Prop :=
  (∃ c, i = i0 + c ∧ ∀ N, CL V (N + c) D0 Ts 1 (nI i0) = CL V N D T 0 (nI i)) ∧ SRel D (S ++ Sx) (Q ++ Qx) W' on ∧ (v.1 0 43 = nI nd ∧ v.1 0 44 = nI on ∧ v.1 0 45 = nI W) ∧ St n 200 b p s t T0 v0 T v ∧ (i ≤ b ∧ i ≤ 200 ∧ b0 ≤ b ∧ on ≤ 20 ∧ L.length + 1 + 2 * on0 ≤ 2 * on ∧ nd = nd0 + L.length ∧ nd0 ≤ a ∧ a < nd) ∧ TR (v.1 19) (a + 1) a L ∧ ∀ j, j < 4 * nd0 → v.1 19 j = vs.1 19 j
def SaidP (V T0 v0 : XM) (n d : Nat) : Prop := ∀ (b p s : Nat) (t : Tok) (T v D : XM) (S : List Int32) (m : Nat) (Q : List (Int32 × Int32 × Int32)) (W on nd i : Nat), St n 200 b p s t T0 v0 T v → SRel D (S ++ List.replicate m 19) Q W on → (v.1 0 43 = nI nd ∧ v.1 0 44 = nI on ∧ v.1 0 45 = nI W) → (W ≤ 8 ∧ on ≤ 20 ∧ m ≤ W ∧ Q.length + m ≤ 2 * on ∧ nd ≤ 2 * on ∧ S.length + m ≤ 3 * W + 2 ∧ i ≤ b ∧ i ≤ 200) → (∀ S0, S ≠ S0 ++ [19]) → 4 * (8 - W) + 1 ≤ d → FailQ V T0 v0 D T i (g_read d 2 v) ∨ ∃ (D' T' v' : XM) (i' b' p' s' : Nat) (t' : Tok) (L : List (Int32 × Int32 × Int32)) (on' nd' a : Nat), g_read d 2 v = some (1, v') ∧ v'.1 0 46 = nI a ∧ Mid V T0 v0 n b D T i S Q W on nd v D' T' v' i' b' p' s' t' (W - m) L (L ++ List.replicate m (19, 0, 0)) [] on' nd' a
def AndP (V T0 v0 : XM) (n d : Nat) : Prop := ∀ (b p s : Nat) (t : Tok) (T v D : XM) (S : List Int32) (Q : List (Int32 × Int32 × Int32)) (W on nd i : Nat), St n 200 b p s t T0 v0 T v → SRel D S Q W on → (v.1 0 43 = nI nd ∧ v.1 0 44 = nI on ∧ v.1 0 45 = nI W) → (W ≤ 8 ∧ on ≤ 20 ∧ Q.length ≤ 2 * on ∧ nd ≤ 2 * on ∧ S.length ≤ 3 * W + 1 ∧ i ≤ b ∧ i ≤ 200) → (∀ S0, S ≠ S0 ++ [19] ∧ S ≠ S0 ++ [18]) → 4 * (8 - W) + 2 ≤ d → FailQ V T0 v0 D T i (g_read d 1 v) ∨ ∃ (D' T' v' : XM) (i' b' p' s' : Nat) (t' : Tok) (L : List (Int32 × Int32 × Int32)) (R : List Int32) (on' nd' a : Nat), g_read d 1 v = some (1, v') ∧ v'.1 0 46 = nI a ∧ (R = [] ∨ R = [18]) ∧ ¬ (t'.1 = 2 ∧ wi t'.2.2 = 18) ∧ Mid V T0 v0 n b D T i S Q W on nd v D' T' v' i' b' p' s' t' W (L ++ stp R) L R.reverse on' nd' a
def OrP (V T0 v0 : XM) (n d : Nat) : Prop := ∀ (b p s : Nat) (t : Tok) (T v D : XM) (S : List Int32) (Q : List (Int32 × Int32 × Int32)) (W on nd i : Nat), St n 200 b p s t T0 v0 T v → SRel D S Q W on → (v.1 0 43 = nI nd ∧ v.1 0 44 = nI on ∧ v.1 0 45 = nI W) → (W ≤ 8 ∧ on ≤ 20 ∧ Q.length ≤ 2 * on ∧ nd ≤ 2 * on ∧ S.length ≤ 3 * W ∧ i ≤ b ∧ i ≤ 200) → (∀ S0, S ≠ S0 ++ [19] ∧ S ≠ S0 ++ [18] ∧ S ≠ S0 ++ [17]) → 4 * (8 - W) + 3 ≤ d → FailQ V T0 v0 D T i (g_read d 0 v) ∨ ∃ (D' T' v' : XM) (i' b' p' s' : Nat) (t' : Tok) (L : List (Int32 × Int32 × Int32)) (R : List Int32) (on' nd' a : Nat), g_read d 0 v = some (1, v') ∧ v'.1 0 46 = nI a ∧ (R = [] ∨ R = [18] ∨ R = [17] ∨ R = [18, 17]) ∧ ¬ (t'.1 = 2 ∧ wi t'.2.2 = 18) ∧ ¬ (t'.1 = 2 ∧ wi t'.2.2 = 17) ∧ Mid V T0 v0 n b D T i S Q W on nd v D' T' v' i' b' p' s' t' W (L ++ stp R) L R.reverse on' nd' a
section CX
variable {S : List Int32} {Q : List (Int32 × Int32 × Int32)} {W on n lim b p s nd k w i d nS nT nW : Nat} {t : Tok} {T v T' v' T0 v0 D V vb : XM} {rc : Nat → XM → Option (Int32 × XM)} {K : XM → XM → Int32 → Int32 → Option (Int32 × XM × XM)}
theorem Bd.s0 (h : Bd T0 v0 T v) {q : Nat} {z : Int32} (hq : 42 ≤ q) : Bd T0 v0 T (x_si v 0 q z) := by
  obtain ⟨h1, h2, h3, h4, h5⟩ := h
  refine ⟨h1, h2.si (by omega), ?_, ?_, ?_⟩
  · rw [si_n (by omega)]; exact h3
  · rw [si_n (by omega)]; exact h4
  · rw [si_n (by omega)]; exact h5
/-- the class, where a ONE is due -/
theorem due_1 (hi : i ≤ 200) : f_X4_readSentence_26 V K D T 1 (nI i) = x_bo (f_X4_readOne D T V (T.1 0 8)) (fun y1 => if y1.1 = (0 : Int32) then some ((0 : Int32), y1.2.1, y1.2.2) else K y1.2.1 y1.2.2 (if T.1 0 8 = 19 ∨ T.1 0 8 = -1 then 1 else 0) (nI (i + 1))) := by
  unfold f_X4_readSentence_26 f_X4_readSentence_57 f_X4_readSentence_62 f_X4_readSentence_166
  rw [if_neg (show ¬ (200 : Int32) < nI i from nI_ge' (a := 200) (by omega) (by omega)), if_neg one0, nI_1]
  by_cases c1 : T.1 0 8 = 19
  · rw [if_pos c1, if_pos (Or.inl c1)]
  · rw [if_neg c1]
    by_cases c2 : T.1 0 8 = -1
    · rw [if_pos c2, if_pos (Or.inr c2)]
    · rw [if_neg c2, if_neg (fun q => q.elim c1 c2)]
theorem r_166 {z : Int32} (h : v.1 0 45 = nI (W + 1)) : f_X12_readSaid_166 rc v z = some (z, x_si v 0 45 (nI W)) := by
  unfold f_X12_readSaid_166
  rw [h, (nI_m1 (by omega)).2, Nat.add_sub_cancel, lt_eq]
/-- how a ONE begins -/
theorem said_in (hs : St n 200 b p s t T0 v0 T v) (hD : SRel D S Q W on) (he : v.1 0 43 = nI nd ∧ v.1 0 44 = nI on ∧ v.1 0 45 = nI W) (hW : W ≤ 8) (hon : on ≤ 20) (hi : i ≤ b) (hi2 : i ≤ 200) : FailQ V T0 v0 D T i (f_X12_readSaid rc v) ∨ (W < 8 ∧ on < 20 ∧ i < 200 ∧ ∃ (T1 v1 : XM) (p1 s1 : Nat) (t1 : Tok), St n 200 p p1 s1 t1 T0 v0 T1 v1 ∧ i + 1 ≤ p ∧ b ≤ p ∧ v1.1 0 43 = nI nd ∧ v1.1 0 44 = nI (on + 1) ∧ v1.1 0 45 = nI (W + 1) ∧ v1.1 19 = v.1 19 ∧ ((wo t = 19 ∧ (∀ N, CL V (N + 1) D T 1 (nI i) = CL V N (x_si (f_X4_push (x_si D 0 0 (nI (on + 1))) 19) 0 7 (nI (W + 1))) T1 1 (nI (i + 1))) ∧ f_X12_readSaid rc v = x_bo (rc 3 v1) (fun y10 => f_X12_readSaid_166 rc y10.2 y10.1)) ∨ ((∀ N, CL V (N + 1) D T 1 (nI i) = CL V N (x_si (f_X4_push (x_si D 0 0 (nI (on + 1))) (-1)) 0 7 (nI (W + 1))) T1 1 (nI (i + 1))) ∧ f_X12_readSaid rc v = x_bo (rc 4 v1) (fun y10 => f_X12_readSaid_166 rc y10.2 y10.1)) ∨ ∃ w, 20 ≤ w ∧ w ≤ 28 ∧ (∀ N, CL V (N + 1) D T 1 (nI i) = x_bo (x_bo (f_X4_readPlain (x_si D 0 0 (nI (on + 1))) T1 V (nI w)) (fun y7 => if y7.1 = (0 : Int32) then some ((0 : Int32), y7.2.1, y7.2.2) else x_bo (f_X4_settleNots y7.2.1) (fun y8 => some ((1 : Int32), y8, y7.2.2)))) (fun y1 => if y1.1 = (0 : Int32) then some ((0 : Int32), y1.2.1, y1.2.2) else CL V N y1.2.1 y1.2.2 0 (nI (i + 1)))) ∧ f_X12_readSaid rc v = x_bo (PLr v1 w) (fun y => f_X12_readSaid_166 rc y.2 y.1))) := by
  have hc := hs.1.2.2.1
  have hle := wi_le t.2.2
  have h8 := hc.2.2.2.2
  rw [r_said hc]
  by_cases ok : (t.1 = 4 ∧ t.2.1 = 40) ∨ wo t ≠ 29
  · -- a ONE can begin here
    have hk2 : 2 ≤ t.1 := by
      rcases ok with ok | ok
      · omega
      · unfold wo at ok
        by_cases c : t.1 = 2 ∧ 19 ≤ wi t.2.2 ∧ wi t.2.2 ≤ 28
        · omega
        · rw [if_neg c] at ok; exact absurd rfl ok
    have hsp := hs.1.2.2.2.1 hk2
    have one : f_X4_readOne D T V (T.1 0 8) = f_X4_readOne_27 V D T (T.1 0 8) := by
      unfold f_X4_readOne
      rcases ok with ok | ok
      · rw [if_pos (show T.1 0 6 = 40 from (tk_6 hc (c := 40) (by omega) (by omega)).mpr ok)]
      · have hw : t.1 = 2 ∧ 19 ≤ wi t.2.2 ∧ wi t.2.2 ≤ 28 := by
          unfold wo at ok
          by_cases c : t.1 = 2 ∧ 19 ≤ wi t.2.2 ∧ wi t.2.2 ≤ 28
          · exact c
          · rw [if_neg c] at ok; exact absurd rfl ok
        have e8 : T.1 0 8 = nI (wi t.2.2) := by rw [h8, if_pos ⟨hw.1, by omega⟩]
        rw [e8, if_neg (show ¬ T.1 0 6 = 40 from fun q => by have := (tk_6 hc (c := 40) (by omega) (by omega)).mp q; omega), if_neg (show ¬ nI (wi t.2.2) < 19 from nI_ge' (b := 19) (by omega) (by omega)), if_pos (show nI (wi t.2.2) ≤ 28 from nI_le (b := 28) (by omega) (by omega))]
    have s30 : f_X12_readSaid_30 rc v (bI (decide (t.1 = 4) && decide (t.2.1 = 40))) (nI (wo t)) = f_X12_readSaid_46 rc v (bI (decide (t.1 = 4) && decide (t.2.1 = 40))) (nI (wo t)) := by
      unfold f_X12_readSaid_30
      by_cases c : t.1 = 4 ∧ t.2.1 = 40
      · rw [decide_eq_true c.1, decide_eq_true c.2, if_neg (show ¬ bI (true && true) = 0 by decide)]
      · have hw : wo t ≠ 29 := ok.resolve_left c
        rw [if_pos (show bI (decide (t.1 = 4) && decide (t.2.1 = 40)) = 0 from by
          by_cases c1 : t.1 = 4
          · rw [decide_eq_true c1, decide_eq_false (fun q => c ⟨c1, q⟩)]; rfl
          · rw [decide_eq_false c1]; rfl), if_pos (show nI (wo t) ≤ 28 from nI_le (b := 28) (by
          unfold wo at hw ⊢
          by_cases c : t.1 = 2 ∧ 19 ≤ wi t.2.2 ∧ wi t.2.2 ≤ 28
          · rw [if_pos c]; omega
          · rw [if_neg c] at hw; exact absurd rfl hw) (by omega))]
    rw [s30]
    have full : (on = 20 ∨ W = 8) → FailQ V T0 v0 D T i (f_X12_readSaid_46 rc v (bI (decide (t.1 = 4) && decide (t.2.1 = 40))) (nI (wo t))) := fun hf => by
      obtain ⟨T', v', b1, b2, b3⟩ := hs.bad 4 (Or.inl (by omega))
      refine ⟨1, D, T', v', by omega, fun N => ?_, ?_, b3⟩
      · rw [CL_s, due_1 hi2, one]
        have : f_X4_readOne_27 V D T (T.1 0 8) = some (0, D, T') := by
          unfold f_X4_readOne_27 f_X4_readOne_45
          rw [hD.1, hD.2.2.2.1, show f_X8_refuse T 4 = (0, T') from b1]
          by_cases c : on = 20
          · rw [if_pos (show (20 : Int32) ≤ nI on from nI_le (a := 20) (by omega) (by omega))]; rfl
          · rw [if_neg (show ¬ (20 : Int32) ≤ nI on from nI_ge (b := 20) (by omega) (by omega)), if_neg (show ¬ nI W < 8 from nI_ge' (b := 8) (by omega) (by omega))]; rfl
        rw [this, bo_some, if_pos rfl]
      · unfold f_X12_readSaid_46 f_X12_readSaid_64
        rw [he.2.1, he.2.2, show f_X12_bad v 4 = (0, v') from b2]
        by_cases c : on = 20
        · rw [if_pos (show nI on = 20 by rw [c]; rfl)]; rfl
        · rw [if_neg (show ¬ nI on = 20 from fun q => c (nI_iff (b := 20) (by omega) (by omega) q)), if_pos (show nI W = 8 by rw [show W = 8 by omega]; rfl)]; rfl
    by_cases hf : on = 20 ∨ W = 8
    · exact Or.inl (full hf)
    · have hW8 : W < 8 := by omega
      have hon2 : on < 20 := by omega
      obtain ⟨T1, v1, a1, a2, p1, s1, t1, hs1, fT, fV⟩ := ((hs.s0 (q := 44) (z := nI (on + 1)) (by omega)).s0 (q := 45) (z := nI (W + 1)) (by omega)).next
      refine Or.inr ⟨hW8, hon2, by omega, T1, v1, p1, s1, t1, hs1, by omega, by omega, ?_, ?_, ?_, ?_, ?_⟩
      · rw [fV.2.1 43 (by omega), si_n (by omega), si_n (by omega)]; exact he.1
      · rw [fV.2.1 44 (by omega), si_n (by omega), si_0]
      · rw [fV.2.1 45 (by omega), si_0]
      · rw [fV.1 19 (by omega), si_r (by omega), si_r (by omega)]
      · have c27 : f_X4_readOne_27 V D T (T.1 0 8) = if T.1 0 8 = 19 then f_X4_readOne_76 V (x_si D 0 0 (nI (on + 1))) T1 (T.1 0 8) else if T.1 0 8 = -1 then f_X4_readOne_76 V (x_si D 0 0 (nI (on + 1))) T1 (T.1 0 8) else x_bo (f_X4_readPlain (x_si D 0 0 (nI (on + 1))) T1 V (T.1 0 8)) (fun y7 => if y7.1 = (0 : Int32) then some ((0 : Int32), y7.2.1, y7.2.2) else x_bo (f_X4_settleNots y7.2.1) (fun y8 => some ((1 : Int32), y8, y7.2.2))) := by
          unfold f_X4_readOne_27
          rw [hD.1, hD.2.2.2.1, if_neg (show ¬ (20 : Int32) ≤ nI on from nI_ge (b := 20) (by omega) (by omega)), if_pos (show nI W < 8 from nI_lt (b := 8) (by omega) (by omega)), nI_1, lt_eq, a1, bo_some]
        have c76 : ∀ z : Int32, f_X4_readOne_76 V (x_si D 0 0 (nI (on + 1))) T1 z = some (1, x_si (f_X4_push (x_si D 0 0 (nI (on + 1))) z) 0 7 (nI (W + 1)), T1) := fun z => by
          unfold f_X4_readOne_76
          rw [lt_eq, lt_eq, show (f_X4_push (x_si D 0 0 (nI (on + 1))) z).1 0 7 = nI W from by
            unfold f_X4_push
            simp only [lt_eq]
            rw [si_n (by omega), show ∀ U : XM, (x_put (x_si D 0 0 (nI (on + 1))) 7 2 U).1 0 7 = (x_si D 0 0 (nI (on + 1))).1 0 7 from fun U => by rw [put_out (by omega)], si_n (by omega)]; exact hD.2.2.2.1, nI_1]
        have r46 : f_X12_readSaid_46 rc v (bI (decide (t.1 = 4) && decide (t.2.1 = 40))) (nI (wo t)) = if bI (decide (t.1 = 4) && decide (t.2.1 = 40)) = 0 then (if nI (wo t) = 19 then x_bo (rc 3 v1) (fun y10 => f_X12_readSaid_166 rc y10.2 y10.1) else x_bo (PLr v1 (wo t)) (fun y => f_X12_readSaid_166 rc y.2 y.1)) else x_bo (rc 4 v1) (fun y11 => f_X12_readSaid_166 rc y11.2 y11.1) := by
          unfold f_X12_readSaid_46
          rw [he.2.1, he.2.2, if_neg (show ¬ nI on = 20 from fun q => by have := nI_iff (b := 20) (by omega) (by omega) q; omega), if_neg (show ¬ nI W = 8 from fun q => by have := nI_iff (b := 8) (by omega) (by omega) q; omega), nI_1, lt_eq, lt_eq, show (x_si v 0 44 (nI (on + 1))).1 0 45 = nI W from (si_n (by omega)).trans he.2.2, nI_1, a2, bo_some]
          by_cases c : bI (decide (t.1 = 4) && decide (t.2.1 = 40)) = 0
          · rw [if_pos c, if_pos c]
            by_cases c2 : nI (wo t) = 19
            · rw [if_pos c2, if_pos c2]
            · rw [if_neg c2, if_neg c2]
              unfold PLr
              by_cases c3 : (23 : Int32) ≤ nI (wo t)
              · rw [if_pos c3, if_pos c3]
                by_cases c4 : (25 : Int32) ≤ nI (wo t)
                · rw [if_pos c4, if_pos c4]; rfl
                · rw [if_neg c4, if_neg c4]; rfl
              · rw [if_neg c3, if_neg c3]
                cases f_X12_saysOne v1 ((50 : Int32) + nI (wo t)) 0 0 0 with
                | none => rfl
                | some z => rfl
          · rw [if_neg c, if_neg c]
        rw [r46]
        by_cases co : t.1 = 4 ∧ t.2.1 = 40
        · have e8 : T.1 0 8 = -1 := by rw [h8, if_neg (fun q => by omega)]
          refine Or.inr (Or.inl ⟨fun N => ?_, ?_⟩)
          · rw [CL_s, due_1 hi2, one, c27, e8, if_neg (show ¬ (-1 : Int32) = 19 by decide), if_pos rfl, c76, bo_some, if_neg one0, if_pos (Or.inr rfl)]
          · rw [decide_eq_true co.1, decide_eq_true co.2, if_neg (show ¬ bI (true && true) = 0 by decide)]
        · have hop : bI (decide (t.1 = 4) && decide (t.2.1 = 40)) = 0 := by
            by_cases c1 : t.1 = 4
            · rw [decide_eq_true c1, decide_eq_false (fun q => co ⟨c1, q⟩)]; rfl
            · rw [decide_eq_false c1]; rfl
          have hw : t.1 = 2 ∧ 19 ≤ wi t.2.2 ∧ wi t.2.2 ≤ 28 := by
            have ok := ok.resolve_left co
            unfold wo at ok
            by_cases c : t.1 = 2 ∧ 19 ≤ wi t.2.2 ∧ wi t.2.2 ≤ 28
            · exact c
            · rw [if_neg c] at ok; exact absurd rfl ok
          have ewo : wo t = wi t.2.2 := if_pos hw
          have e8 : T.1 0 8 = nI (wi t.2.2) := by rw [h8, if_pos ⟨hw.1, by omega⟩]
          rw [hop, if_pos rfl, ewo]
          by_cases c19 : wi t.2.2 = 19
          · refine Or.inl ⟨c19, fun N => ?_, ?_⟩
            · rw [CL_s, due_1 hi2, one, c27, e8, c19, if_pos (show nI 19 = 19 from rfl), c76, bo_some, if_neg one0, if_pos (Or.inl (show nI 19 = 19 from rfl))]; rfl
            · rw [c19, if_pos (show nI 19 = 19 from rfl)]
          · have n19 : ¬ nI (wi t.2.2) = 19 := fun q => c19 (nI_iff (b := 19) (by omega) (by omega) q)
            have nm : ¬ nI (wi t.2.2) = -1 := nI_nm1 (by omega)
            refine Or.inr (Or.inr ⟨wi t.2.2, by omega, hw.2.2, fun N => ?_, ?_⟩)
            · rw [CL_s, due_1 hi2, one, c27, e8, if_neg n19, if_neg nm, if_neg (fun q => q.elim n19 nm)]
            · rw [if_neg n19]
  · -- none can
    have hno : ¬ (t.1 = 4 ∧ t.2.1 = 40) := fun q => ok (Or.inl q)
    have hwo : wo t = 29 := Classical.not_not.mp (fun q => ok (Or.inr q))
    obtain ⟨T', v', b1, b2, b3⟩ := hs.bad 1 (Or.inr rfl)
    refine Or.inl ⟨1, D, T', v', by omega, fun N => ?_, ?_, b3⟩
    · have lt19 : T.1 0 8 < 19 := by
        rw [h8]
        by_cases c : t.1 = 2 ∧ wi t.2.2 < 29
        · rw [if_pos c]
          refine nI_lt (b := 19) ?_ (by omega)
          unfold wo at hwo
          by_cases c2 : t.1 = 2 ∧ 19 ≤ wi t.2.2 ∧ wi t.2.2 ≤ 28
          · rw [if_pos c2] at hwo; omega
          · omega
        · rw [if_neg c]; decide
      rw [CL_s, due_1 hi2]
      have : f_X4_readOne D T V (T.1 0 8) = some (0, D, T') := by
        unfold f_X4_readOne f_X4_readOne_21
        rw [if_neg (show ¬ T.1 0 6 = 40 from fun q => hno ((tk_6 hc (c := 40) (by omega) (by omega)).mp q)), if_pos lt19, show f_X8_refuse T 1 = (0, T') from b1]; rfl
      rw [this, bo_some, if_pos rfl]
    · unfold f_X12_readSaid_30
      rw [hwo, if_pos (show bI (decide (t.1 = 4) && decide (t.2.1 = 40)) = 0 from by
        by_cases c1 : t.1 = 4
        · rw [decide_eq_true c1, decide_eq_false (fun q => hno ⟨c1, q⟩)]; rfl
        · rw [decide_eq_false c1]; rfl), if_neg (show ¬ nI 29 ≤ 28 by decide), show f_X12_bad v 1 = (0, v') from b2]; rfl
end CX
