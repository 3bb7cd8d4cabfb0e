-- what is said: ONES within ONES.
theorem snoc_last {l l' : List Int32} {a x : Int32} (h : l ++ [a] = l' ++ [x]) : a = x := by
  have := congrArg List.getLast? h
  rw [List.getLast?_concat, List.getLast?_concat] at this
  exact Option.some.inj this
theorem r_166' {rc : Nat → XM → Option (Int32 × XM)} {v : XM} {z : Int32} : f_X12_readSaid_166 rc v z = some (z, x_si v 0 45 (v.1 0 45 - 1)) := rfl
section CY
variable {S : List Int32} {Q : List (Int32 × Int32 × Int32)} {W on n lim b p s nd k w i d m nS nT nW : Nat} {t : Tok} {T v T' v' T0 v0 D V vb : XM} {rc : Nat → XM → Option (Int32 × XM)} {K : XM → XM → Int32 → Int32 → Option (Int32 × XM × XM)}
/-- the class, where none is due -/
theorem nd_1 (hi : i ≤ 200) : f_X4_readSentence_26 V K D T 0 (nI i) = if T.1 0 8 = 18 ∨ T.1 0 8 = 17 then x_bo (f_X4_settle D (T.1 0 8)) (fun y2 => x_bo (f_X8_advance T) (fun y4 => K (f_X4_push y2 (T.1 0 8)) y4 1 (nI (i + 1)))) else if T.1 0 6 = 41 then (if D.1 0 7 ≤ 0 then f_X4_readSentence_138 V D T else x_bo (f_X4_closeBracket D) (fun y7 => x_bo (f_X8_advance T) (fun y8 => K y7 y8 0 (nI (i + 1))))) else f_X4_readSentence_138 V D T := by
  unfold f_X4_readSentence_26 f_X4_readSentence_90 f_X4_readSentence_166
  rw [if_neg (show ¬ (200 : Int32) < nI i from nI_ge' (a := 200) (by omega) (by omega)), if_pos rfl, nI_1]
  by_cases c1 : T.1 0 8 = 18
  · rw [if_pos c1, if_pos (Or.inl c1)]; rfl
  · rw [if_neg c1]
    by_cases c2 : T.1 0 8 = 17
    · rw [if_pos c2, if_pos (Or.inr c2)]; rfl
    · rw [if_neg c2, if_neg (show ¬ (T.1 0 8 = 18 ∨ T.1 0 8 = 17) from fun q => q.elim c1 c2)]
theorem FailQ.pre {D2 T1 : XM} {R R' : Option (Int32 × XM)} (h : FailQ V T0 v0 D2 T1 (i + 1) R) (hi : i < 200) (hc : ∀ N, CL V (N + 1) D T 1 (nI i) = CL V N D2 T1 1 (nI (i + 1))) (hR : ∀ v', R = some (0, v') → ∃ v'', R' = some (0, v'') ∧ ∀ T', Bd T0 v0 T' v' → Bd T0 v0 T' v'') : FailQ V T0 v0 D T i R' := by
  obtain ⟨c, D', T', v', h1, h2, h3, h4⟩ := h
  obtain ⟨v'', e1, e2⟩ := hR v' h3
  exact ⟨c + 1, D', T', v'', by omega, fun N => by rw [← Nat.add_assoc, hc, h2], e1, e2 _ h4⟩
theorem said_plain {T1 v1 : XM} {p1 s1 : Nat} {t1 : Tok} (d : WN nS nT nW V v1) (hs1 : St n 200 p p1 s1 t1 T0 v0 T1 v1) (hD : SRel D (S ++ List.replicate m 19) Q W on) (e43 : v1.1 0 43 = nI nd) (e44 : v1.1 0 44 = nI (on + 1)) (e45 : v1.1 0 45 = nI (W + 1)) (e19 : v1.1 19 = v.1 19) (hb : W ≤ 8 ∧ m ≤ W ∧ Q.length + m ≤ 2 * on ∧ nd ≤ 2 * on ∧ S.length + m ≤ 3 * W + 2) (hon : on < 20) (hne : ∀ S0, S ≠ S0 ++ [19]) (hbp : b ≤ p) (hip : i + 1 ≤ p) (hi : i < 200) (hw : 20 ≤ w) (hw2 : w ≤ 28) (hcl : ∀ N, CL V (N + 1) D T 1 (nI i) = x_bo (x_bo (f_X4_readPlain (x_si D 0 0 (nI (on + 1))) T1 V (nI w)) (fun y7 => if y7.1 = (0 : Int32) then some ((0 : Int32), y7.2.1, y7.2.2) else x_bo (f_X4_settleNots y7.2.1) (fun y8 => some ((1 : Int32), y8, y7.2.2)))) (fun y1 => if y1.1 = (0 : Int32) then some ((0 : Int32), y1.2.1, y1.2.2) else CL V N y1.2.1 y1.2.2 0 (nI (i + 1)))) : FailQ V T0 v0 D T i (x_bo (PLr v1 w) (fun y => f_X12_readSaid_166 rc y.2 y.1)) ∨ ∃ (D' T' v' : XM) (i' b' p' s' : Nat) (t' : Tok) (L : List (Int32 × Int32 × Int32)) (on' nd' a : Nat), x_bo (PLr v1 w) (fun y => f_X12_readSaid_166 rc y.2 y.1) = some (1, v') ∧ v'.1 0 46 = nI a ∧ Mid V T0 v0 n b D T i S Q W on nd v D' T' v' i' b' p' s' t' (W - m) L (L ++ List.replicate m (19, 0, 0)) [] on' nd' a := by
  rcases plain hs1 d (s_ones hD (on + 1)) (by omega) hw hw2 e43 (by omega) with ⟨D', T', v', q1, q2, q3⟩ | ⟨D', T', v', sg, x, b', p', s', t', q1, q2, q3, q4, q5, q6, q7, q8, q9, q10, q11⟩
  · refine Or.inl ⟨1, D', T', x_si v' 0 45 (v'.1 0 45 - 1), by omega, fun N => ?_, ?_, q3.s0 (by omega)⟩
    · rw [hcl, q1, bo_some, if_pos rfl, bo_some, if_pos rfl]
    · rw [q2, bo_some, r_166']
  · obtain ⟨D2, e2, h2⟩ := s_nots (S := S) (on := on + 1) m x_NN D' (Q ++ [(nI w, sg, x)]) W (by show m < 1000000; omega) q3 hb.2.1 hb.1 (by rw [len_1]; omega) (by omega) hne
    refine Or.inr ⟨D2, T', x_si v' 0 45 (nI W), i + 1, b', p', s', t', [(nI w, sg, x)], on + 1, nd + 1, nd, ?_, ?_, ⟨⟨1, rfl, fun N => ?_⟩, ?_, ⟨(si_n (by omega)).trans q6, (si_n (by omega)).trans (q8.trans e44), si_0⟩, q5.s0 (by omega), ⟨by omega, by omega, by omega, by omega, ?_, rfl, Nat.le_refl _, by omega⟩, ?_, fun j hj => ?_⟩⟩
    · rw [q2, bo_some]; exact r_166 (q9.trans e45)
    · exact (si_n (by omega)).trans q7
    · rw [hcl, q1, bo_some, if_neg one0]
      unfold f_X4_settleNots
      rw [e2, bo_some, bo_some, if_neg one0]
    · rw [List.append_nil, ← List.append_assoc]; exact h2
    · show 1 + 1 + 2 * on ≤ 2 * (on + 1); omega
    · rw [si_r (by omega)]; exact q11.mono (by omega)
    · rw [si_r (by omega), q10 j hj, e19]
theorem said_not {T1 v1 : XM} {p1 s1 d2 : Nat} {t1 : Tok} (ih : SaidP V T0 v0 n d2) (hd : 4 * (8 - (W + 1)) + 1 ≤ d2) (hs1 : St n 200 p p1 s1 t1 T0 v0 T1 v1) (hD : SRel D (S ++ List.replicate m 19) Q W on) (e43 : v1.1 0 43 = nI nd) (e44 : v1.1 0 44 = nI (on + 1)) (e45 : v1.1 0 45 = nI (W + 1)) (e19 : v1.1 19 = v.1 19) (hb : W < 8 ∧ m ≤ W ∧ Q.length + m ≤ 2 * on ∧ nd ≤ 2 * on ∧ S.length + m ≤ 3 * W + 2) (hon : on < 20) (hne : ∀ S0, S ≠ S0 ++ [19]) (hbp : b ≤ p) (hip : i + 1 ≤ p) (hi : i < 200) (hcl : ∀ N, CL V (N + 1) D T 1 (nI i) = CL V N (x_si (f_X4_push (x_si D 0 0 (nI (on + 1))) 19) 0 7 (nI (W + 1))) T1 1 (nI (i + 1))) : FailQ V T0 v0 D T i (x_bo (f_X12_readNot (g_read d2) v1) (fun y10 => f_X12_readSaid_166 rc y10.2 y10.1)) ∨ ∃ (D' T' v' : XM) (i' b' p' s' : Nat) (t' : Tok) (L : List (Int32 × Int32 × Int32)) (on' nd' a : Nat), x_bo (f_X12_readNot (g_read d2) v1) (fun y10 => f_X12_readSaid_166 rc y10.2 y10.1) = some (1, v') ∧ v'.1 0 46 = nI a ∧ Mid V T0 v0 n b D T i S Q W on nd v D' T' v' i' b' p' s' t' (W - m) L (L ++ List.replicate m (19, 0, 0)) [] on' nd' a := by
  have hln : (S ++ List.replicate m (19 : Int32)).length = S.length + m := by rw [List.length_append, List.length_replicate]
  have hD2 : SRel (x_si (f_X4_push (x_si D 0 0 (nI (on + 1))) 19) 0 7 (nI (W + 1))) (S ++ List.replicate (m + 1) 19) Q (W + 1) (on + 1) := by
    have := s_within (s_push (s_ones hD (on + 1)) (by omega) 19) (W + 1)
    rw [List.append_assoc, ← List.replicate_succ'] at this
    exact this
  rcases ih p p1 s1 t1 T1 v1 _ S (m + 1) Q (W + 1) (on + 1) nd (i + 1) hs1 hD2 ⟨e43, e44, e45⟩ (by omega) hne hd with hf | ⟨D', T', v', i', b', p', s', t', L, on', nd', a, q1, q2, ⟨⟨c, c1, c2⟩, q4, ⟨q5, q6, q7⟩, q8, ⟨q9, q10, q11, q12, q13, q14, q15, q16⟩, q17, q18⟩⟩
  · refine Or.inl (hf.pre (by omega) hcl (fun v' hv => ⟨x_si v' 0 45 (v'.1 0 45 - 1), ?_, fun T' hb => hb.s0 (by omega)⟩))
    unfold f_X12_readNot
    rw [hv, bo_some, if_pos rfl, bo_some, r_166']
  · obtain ⟨v2, e2, g1, g2, g3, g4, g5⟩ := r_says (v := v') (a := 1) (b := nI a) (c := 0) (d := 0) q5 (by omega)
    obtain ⟨w0, w1, w2, w3, w4⟩ := nd4_at (g := v'.1 19) (k := nd') (a := 1) (b := nI a) (c := 0) (d := 0)
    refine Or.inr ⟨D', T', x_si (x_si v2 0 46 (nI nd')) 0 45 (nI W), i', b', p', s', t', L ++ [(19, 0, 0)], on', nd' + 1, nd', ?_, ?_, ⟨⟨c + 1, by omega, fun N => ?_⟩, ?_, ⟨?_, ?_, si_0⟩, ((q8.ref (fun j hj => g3 j (by omega)) g4 g5).s0 (by omega)).s0 (by omega), ⟨q9, q10, by omega, q12, ?_, ?_, by omega, by omega⟩, ?_, fun j hj => ?_⟩⟩
    · unfold f_X12_readNot
      rw [q1, bo_some, if_neg one0, q2, e2, bo_some, lt_eq, bo_some]
      exact r_166 ((si_n (by omega)).trans ((g3 45 (by omega)).trans q7))
    · exact (si_n (by omega)).trans si_0
    · rw [← Nat.add_assoc, hcl, c2]
    · have eL : (L ++ [(19, 0, 0)]) ++ List.replicate m ((19, 0, 0) : Int32 × Int32 × Int32) = L ++ List.replicate (m + 1) (19, 0, 0) := by rw [List.append_assoc, List.replicate_succ]; rfl
      rw [eL, show W - m = W + 1 - (m + 1) by omega]; exact q4
    · rw [si_n (by omega), si_n (by omega)]; exact g2
    · rw [si_n (by omega), si_n (by omega), g3 44 (by omega)]; exact q6
    · rw [len_1]; omega
    · rw [len_1]; omega
    · rw [si_r (by omega), si_r (by omega), g1]
      unfold TR
      rw [w0, w1]
      exact Or.inl ⟨rfl, a, L, q16, rfl, (TR.ext (a + 1) a L (fun j hj => w4 j (by omega)) q17).mono (by omega), rfl⟩
    · rw [si_r (by omega), si_r (by omega), g1, w4 j (by omega), q18 j hj, e19]
theorem said_bra {T1 v1 : XM} {p1 s1 d2 : Nat} {t1 : Tok} (ih : OrP V T0 v0 n d2) (hd : 4 * (8 - (W + 1)) + 3 ≤ d2) (hs1 : St n 200 p p1 s1 t1 T0 v0 T1 v1) (hD : SRel D (S ++ List.replicate m 19) Q W on) (e43 : v1.1 0 43 = nI nd) (e44 : v1.1 0 44 = nI (on + 1)) (e45 : v1.1 0 45 = nI (W + 1)) (e19 : v1.1 19 = v.1 19) (hb : W < 8 ∧ m ≤ W ∧ Q.length + m ≤ 2 * on ∧ nd ≤ 2 * on ∧ S.length + m ≤ 3 * W + 2) (hon : on < 20) (hne : ∀ S0, S ≠ S0 ++ [19]) (hbp : b ≤ p) (hip : i + 1 ≤ p) (hi : i < 200) (hcl : ∀ N, CL V (N + 1) D T 1 (nI i) = CL V N (x_si (f_X4_push (x_si D 0 0 (nI (on + 1))) (-1)) 0 7 (nI (W + 1))) T1 1 (nI (i + 1))) : FailQ V T0 v0 D T i (x_bo (f_X12_readBracket (g_read d2) v1) (fun y10 => f_X12_readSaid_166 rc y10.2 y10.1)) ∨ ∃ (D' T' v' : XM) (i' b' p' s' : Nat) (t' : Tok) (L : List (Int32 × Int32 × Int32)) (on' nd' a : Nat), x_bo (f_X12_readBracket (g_read d2) v1) (fun y10 => f_X12_readSaid_166 rc y10.2 y10.1) = some (1, v') ∧ v'.1 0 46 = nI a ∧ Mid V T0 v0 n b D T i S Q W on nd v D' T' v' i' b' p' s' t' (W - m) L (L ++ List.replicate m (19, 0, 0)) [] on' nd' a := by
  have hln : (S ++ List.replicate m (19 : Int32)).length = S.length + m := by rw [List.length_append, List.length_replicate]
  have hln1 : ((S ++ List.replicate m (19 : Int32)) ++ [-1]).length = S.length + m + 1 := by rw [len_1, hln]
  have hD2 := s_within (s_push (s_ones hD (on + 1)) (by omega) (-1)) (W + 1)
  have hl : ∀ (S0 : List Int32) (x : Int32), ¬ x = -1 → (S ++ List.replicate m (19 : Int32)) ++ [-1] ≠ S0 ++ [x] := fun S0 x hx q => hx (snoc_last q).symm
  rcases ih p p1 s1 t1 T1 v1 _ ((S ++ List.replicate m (19 : Int32)) ++ [-1]) Q (W + 1) (on + 1) nd (i + 1) hs1 hD2 ⟨e43, e44, e45⟩ (by omega) (fun S0 => ⟨hl S0 19 (by decide), hl S0 18 (by decide), hl S0 17 (by decide)⟩) hd with hf | ⟨D', T', v', i', b', p', s', t', L, R, on', nd', a, q1, q2, hR, nA, nO, ⟨⟨c, c1, c2⟩, q4, ⟨q5, q6, q7⟩, q8, ⟨q9, q10, q11, q12, q13, q14, q15, q16⟩, q17, q18⟩⟩
  · refine Or.inl (hf.pre (by omega) hcl (fun v' hv => ⟨x_si v' 0 45 (v'.1 0 45 - 1), ?_, fun T' hb => hb.s0 (by omega)⟩))
    unfold f_X12_readBracket
    rw [hv, bo_some, if_pos rfl, bo_some, r_166']
  · have hc := q8.1.2.2.1
    have n8 : ¬ (T'.1 0 8 = 18 ∨ T'.1 0 8 = 17) := fun q => by
      rcases q with q | q
      · exact nA ((tk_8 hc (k := 18) (by omega)).mp q)
      · exact nO ((tk_8 hc (k := 17) (by omega)).mp q)
    have r41 : f_X12_isSign v' 41 = bI (decide (t'.1 = 4) && decide (t'.2.1 = 41)) := r_isSign hc (c := 41) (by omega) (by omega)
    have hRl : R.length ≤ 2 ∧ ∀ x ∈ R, x = 18 ∨ x = 17 := by
      rcases hR with rfl | rfl | rfl | rfl <;> simp
    have hst : (stp R).length = R.length := List.length_map ..
    have hLl : (L ++ stp R).length = L.length + R.length := by rw [List.length_append, hst]
    by_cases cl : t'.1 = 4 ∧ t'.2.1 = 41
    · -- the bracket closes
      have hsp := q8.1.2.2.2
      have h4 := hsp.1 (by omega)
      obtain ⟨T2, v2, a1, a2, p2, s2, t2, hs2, fT, fV⟩ := q8.next
      obtain ⟨D1, e1, h1⟩ := s_settle (S := (S ++ List.replicate m (19 : Int32)) ++ [-1]) (j := 17) (W := W + 1) (on := on') (fun S0 => ⟨hl S0 18 (by decide), hl S0 17 (by decide)⟩) R x_NN D' (Q ++ L) (by show R.length < 1000000; omega) q4 hRl.2 (by rw [List.length_append]; omega) (by omega)
      have h2 := s_within (s_pop h1) W
      obtain ⟨D3, e3, h3⟩ := s_nots (S := S) (on := on') m x_NN _ _ W (by show m < 1000000; omega) h2 hb.2.1 (by omega) (by rw [List.length_append, List.length_append, List.length_map]; omega) (by omega) hne
      have ecl : f_X4_closeBracket D' = some D3 := by
        unfold f_X4_closeBracket f_X4_settle f_X4_settleNots
        rw [e1, bo_some, lt_eq, lt_eq, show D1.1 0 6 = nI (S.length + m + 1) from by rw [h1.2.2.1, hln1], (nI_m1 (by omega)).2, Nat.add_sub_cancel, show (x_si D1 0 6 (nI (S.length + m))).1 0 7 = nI (W + 1) from (si_n (by omega)).trans h1.2.2.2.1, (nI_m1 (by omega)).2, Nat.add_sub_cancel, ← hln, e3]; rfl
      refine Or.inr ⟨D3, T2, x_si v2 0 45 (nI W), i' + 1, p', p2, s2, t2, L ++ stp R, on', nd', a, ?_, ?_, ⟨⟨c + 1 + 1, by omega, fun N => ?_⟩, ?_, ⟨?_, ?_, si_0⟩, hs2.s0 (by omega), ⟨by omega, by omega, by omega, q12, by omega, q14, by omega, q16⟩, ?_, fun j hj => ?_⟩⟩
      · unfold f_X12_readBracket
        rw [q1, bo_some, if_neg one0, r41, decide_eq_true cl.1, decide_eq_true cl.2, lt_eq, if_neg (show ¬ bI (true && true) = 0 by decide), a2, bo_some, bo_some]
        exact r_166 ((fV.2.1 45 (by omega)).trans q7)
      · exact (si_n (by omega)).trans ((fV.2.1 46 (by omega)).trans q2)
      · rw [show N + (c + 1 + 1) = (N + 1) + c + 1 by omega, hcl, c2, CL_s, nd_1 q10, if_neg n8, if_pos (show T'.1 0 6 = 41 from (tk_6 hc (c := 41) (by omega) (by omega)).mpr cl), if_neg (show ¬ D'.1 0 7 ≤ 0 from by rw [q4.2.2.2.1]; exact nI_nle (by omega) (by omega)), ecl, bo_some, a1, bo_some]
      · rw [List.append_nil]
        have : Q ++ ((L ++ stp R) ++ List.replicate m ((19, 0, 0) : Int32 × Int32 × Int32)) = Q ++ L ++ List.map (fun x => (x, 0, 0)) R ++ List.replicate m (19, 0, 0) := by
          unfold stp; simp only [List.append_assoc]
        rw [this]; exact h3
      · rw [si_n (by omega), fV.2.1 43 (by omega)]; exact q5
      · rw [si_n (by omega), fV.2.1 44 (by omega)]; exact q6
      · rw [si_r (by omega), fV.1 19 (by omega)]; exact q17
      · rw [si_r (by omega), fV.1 19 (by omega), q18 j hj, e19]
    · -- it doesn't
      obtain ⟨T2, v2, b1, b2, b3⟩ := q8.bad 1 (Or.inr rfl)
      refine Or.inl ⟨c + 1 + 1, D', T2, x_si v2 0 45 (v2.1 0 45 - 1), by omega, fun N => ?_, ?_, b3.s0 (by omega)⟩
      · have r138 : f_X4_readSentence_138 V D' T' = some (0, D', T2) := by
          unfold f_X4_readSentence_138 f_X4_readSentence_160
          rw [if_neg (show ¬ D'.1 0 7 = 0 from by rw [q4.2.2.2.1]; exact nI_ne0 (by omega) (by omega)), show f_X8_refuse T' 1 = (0, T2) from b1, lt_eq]
          split <;> rfl
        rw [show N + (c + 1 + 1) = (N + 1) + c + 1 by omega, hcl, c2, CL_s, nd_1 q10, if_neg n8, if_neg (show ¬ T'.1 0 6 = 41 from fun q => cl ((tk_6 hc (c := 41) (by omega) (by omega)).mp q)), r138]
      · unfold f_X12_readBracket
        rw [q1, bo_some, if_neg one0, r41, lt_eq, if_pos (show bI (decide (t'.1 = 4) && decide (t'.2.1 = 41)) = 0 from by
          by_cases c1 : t'.1 = 4
          · rw [decide_eq_true c1, decide_eq_false (fun q => cl ⟨c1, q⟩)]; rfl
          · rw [decide_eq_false c1]; rfl), show f_X12_bad v' 1 = (0, v2) from b2, lt_eq, bo_some, r_166']
theorem said_all (hwn : WN nS nT nW V v0) (hS : ∀ d2, d2 < d → SaidP V T0 v0 n d2) (hO : ∀ d2, d2 < d → OrP V T0 v0 n d2) : SaidP V T0 v0 n d := by
  intro b p s t T v D S m Q W on nd i hs hD he hb hne hd
  obtain ⟨d1, rfl⟩ : ∃ q, d = q + 1 := ⟨d - 1, by omega⟩
  show FailQ V T0 v0 D T i (f_X12_readSaid (g_read d1) v) ∨ ∃ (D' T' v' : XM) (i' b' p' s' : Nat) (t' : Tok) (L : List (Int32 × Int32 × Int32)) (on' nd' a : Nat), f_X12_readSaid (g_read d1) v = some (1, v') ∧ _
  rcases said_in (rc := g_read d1) hs hD he hb.1 hb.2.1 hb.2.2.2.2.2.2.1 hb.2.2.2.2.2.2.2 with hf | ⟨W8, on20, i200, T1, v1, p1, s1, t1, hs1, hi1, hbp, e43, e44, e45, e19, hcs⟩
  · exact Or.inl hf
  · obtain ⟨d2, rfl⟩ : ∃ q, d1 = q + 1 := ⟨d1 - 1, by omega⟩
    rcases hcs with ⟨-, hcl, hr⟩ | ⟨hcl, hr⟩ | ⟨w, w20, w28, hcl, hr⟩
    · rw [hr]
      exact said_not (hS d2 (by omega)) (by omega) hs1 hD e43 e44 e45 e19 (by omega) on20 hne hbp hi1 i200 hcl
    · rw [hr]
      exact said_bra (hO d2 (by omega)) (by omega) hs1 hD e43 e44 e45 e19 (by omega) on20 hne hbp hi1 i200 hcl
    · rw [hr]
      exact said_plain (hwn.gl hs1.2.2.2) hs1 hD e43 e44 e45 e19 (by omega) on20 hne hbp hi1 i200 w20 w28 hcl
end CY
