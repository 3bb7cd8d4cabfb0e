-- sentence, the call.
section D0
variable {S : List Int32} {Q L : List (Int32 × Int32 × Int32)} {R : List Int32} {W on n lim b p s nd k i d m nS nF nT nW bB e a : Nat} {t : Tok} {T v T' v' T0 v0 D V vb w M : XM}
theorem r_copyS (v : XM) : wp (x_lp (φ := XM → Int32 → Option (Int32 × XM)) (fun _ _ => none) (f_X12_sentence_77) x_NN v (0 : Int32)) (fun r => r.1 = v.1 0 44 ∧ Fr [2] v r.2 ∧ (∀ j, j < 113 → r.2.1 2 j = v.1 2 j) ∧ ∀ j, j < 240 → r.2.1 2 (113 + j) = v.1 19 j) := by
  refine lp_fora (σ := XM) (n := 240) (fun (K : XM → Int32 → Option (Int32 × XM)) q c => K q c) (fun i q => Fr [2] v q ∧ (∀ j, j < 113 → q.1 2 j = v.1 2 j) ∧ ∀ j, j < i → q.1 2 (113 + j) = v.1 19 j) _ ?_ ?_ x_NN v (by decide) ⟨Fr.rf, fun _ _ => rfl, fun j q => absurd q (Nat.not_lt_zero _)⟩
  · rintro K i q hi ⟨g1, g2, g3⟩ ih
    show wp (f_X12_sentence_77 K q (nI i)) _
    unfold f_X12_sentence_77
    rw [if_neg (show ¬ (240 : Int32) ≤ nI i from nI_ge (b := 240) (by omega) (by omega)), ck_in hi (by omega), kl_113, nI_add, ck_in (by omega) (by omega), lt_eq, pa_in (by omega), ga_in (by omega), nI_1]
    refine ih _ ⟨g1.row (by simp), fun j hj => ?_, fun j hj => ?_⟩
    · rw [row_at, up_ne (by omega)]; exact g2 j hj
    · rw [row_at]
      by_cases c : j = i
      · subst c; rw [up_eq, g1.2 19 (by simp)]
      · rw [up_ne (by omega)]; exact g3 j (by omega)
  · rintro K q ⟨g1, g2, g3⟩
    show wp (f_X12_sentence_77 K q (nI 240)) _
    unfold f_X12_sentence_77
    rw [if_pos (show (240 : Int32) ≤ nI 240 from nI_le (a := 240) (b := 240) (by omega) (by omega)), wp_some]
    exact ⟨by rw [g1.2 0 (by simp)], g1, g2, g3⟩
theorem c_becomeS (v0 v1 : XM) : (f_X4_become v0 v1).1 0 0 = v1.1 0 0 ∧ (f_X4_become v0 v1).1 0 1 = v1.1 0 1 ∧ (∀ j, j < 40 → (f_X4_become v0 v1).1 2 j = v1.1 2 j ∧ (f_X4_become v0 v1).1 4 j = v1.1 4 j ∧ (f_X4_become v0 v1).1 6 j = v1.1 6 j) ∧ (f_X4_become v0 v1).2 = v0.2 := by
  have e2 : (f_X4_become v0 v1).2 = v0.2 := by
    simp only [f_X4_become, lt_eq, put_bec]; rfl
  refine ⟨?_, ?_, fun j hj => ⟨?_, ?_, ?_⟩, e2⟩
  all_goals simp only [f_X4_become, lt_eq, put_bec, Nat.reduceAdd, si_row]
  · simp (disch := omega) only [row_off, row_at]; rw [up_ne (by omega), up_eq]
  · simp (disch := omega) only [row_off, row_at]; rw [up_eq]
  all_goals simp (disch := omega) only [row_off, row_at, bec_in]
/-- another SENTENCE -/
theorem RelN.sen (h : RelN nS nF nT nW bB w v) (h2 : ∀ i, i = 4 ∨ i = 21 ∨ i = 62 ∨ i = 103 → M.2 i = w.2 i) (hc : ∀ i, i ≠ 1 → i ≠ 3 → ¬ (37 ≤ i ∧ i < 46) → ¬ scrW i → M.1 i = w.1 i) (hv2 : v'.2 7 = v.2 7 ∧ v'.2 9 = v.2 9) (hv : ∀ i, i = 4 ∨ i = 5 ∨ i = 10 ∨ i = 12 ∨ i = 15 ∨ i = 16 ∨ i = 18 → v'.1 i = v.1 i) (hN : ∀ j, j < 111 → v'.1 2 j = v.1 2 j) (hf : ∀ j, vF j → j ≠ 2 → j ≠ 10 → v'.1 0 j = v.1 0 j) (hT : RTape M v') (hS : RSen (fun i => M.1 (i + 32 + 5)) (fun j => v'.1 2 (111 + j))) : RelN nS nF nT nW bB M v' := by
  have hb := h.1.1.1
  have a1 := h.1
  refine h.mk2 (fun i hi => h2 i (by omega)) (fun i hi hs => hc i (by omega) (by omega) (by omega) hs) hv2.2 (fun i hi => hv i (by omega)) (fun j q1 q2 q3 _ => hf j q1 q2 q3) ⟨a1.1.congr (fun i hi => hc _ (by omega) (by omega) (by omega) (by unfold scrW; omega)) (fun j hj => hN j (by omega)), a1.2.1.congr (fun i hi => hc _ (by omega) (by omega) (by omega) (by unfold scrW; omega)) (fun j hj => hN j (by omega)) (fun j hj => hN _ (by omega)) (by omega) (by omega), ?_, hS⟩ (h.2.1.congr ⟨by omega, by omega⟩ (fun j hj => hN j (by omega)) (fun i p q => hc i (by omega) (by omega) (by omega) (by unfold scrW; omega)) ⟨hv 5 (by omega), hf 24 (by unfold vF; omega) (by omega) (by omega)⟩) hT
  rw [h2 21 (by omega), hv2.1]; exact a1.2.2.1
theorem b_sentence (h : RelN nS nF nT nW bB w v) : R2 (f_X11_sentence w) (f_X12_sentence v) Both := by
  have hb := h.1.1.1
  obtain ⟨n, T, vb, p, s, t, n1, n2, n3, e1, e2, hs, fT, fV⟩ := begun h (lim := 200) (by omega)
  have hwn : WN nS nT nW (x_sub w 6) (opV 200 n v) := by
    have := h.wn
    unfold WN at this ⊢
    rw [opV_r (by omega)]; exact this
  have hs' := ((hs.s0 (q := 43) (z := 0) (by omega)).s0 (q := 44) (z := 0) (by omega)).s0 (q := 45) (z := 0) (by omega)
  have hD : SRel (x_si (x_si (f_X4_forget (x_sub w 291)) 0 6 0) 0 7 0) [] [] 0 0 := by
    unfold f_X4_forget
    rw [lt_eq, lt_eq]
    refine ⟨?_, ?_, (si_n (by omega)).trans si_0, si_0, fun i x hx => absurd hx (by simp), fun i x hx => absurd hx (by simp)⟩
    · rw [si_n (by omega), si_n (by omega), si_n (by omega), si_0]; rfl
    · rw [si_n (by omega), si_n (by omega), si_0]; rfl
  have hor := or_of (n := n) (T0 := opT 200 w) (sen_all hwn n1 198) n1
  have key := hor 0 p s t T _ _ [] [] 0 0 0 0 hs' hD ⟨(si_n (by omega)).trans ((si_n (by omega)).trans si_0), (si_n (by omega)).trans si_0, si_0⟩ ⟨by omega, by omega, by decide, by omega, by decide, by omega, by omega⟩ (fun S0 => ⟨by simp, by simp, by simp⟩) (by omega)
  have erd : ∀ (r : Int32) (D' T' : XM) (c : Nat), c ≤ 300 → (∀ N, CL (x_sub w 6) (N + c) (x_si (x_si (f_X4_forget (x_sub w 291)) 0 6 0) 0 7 0) T 1 (nI 0) = some (r, D', T')) → f_X4_readSentence (x_sub w 291) (x_sub w 1) (x_sub w 6) = some (r, D', T') := fun r D' T' c hc hr => by
    unfold f_X4_readSentence
    rw [lt_eq, lt_eq, lt_eq, show f_X8_open (x_sub w 1) 200 = some T from e1, bo_some]
    have := hr (x_NN - c)
    have hcN : c ≤ x_NN := by show c ≤ 1000000; omega
    rw [Nat.sub_add_cancel hcN] at this
    exact this
  unfold f_X11_sentence f_X12_sentence
  rw [show f_X12_begin v 200 = some vb from e2, bo_some, show F_X12_readOr = g_read 200 0 from rfl]
  rw [show ∀ (f : XM → Option (Int32 × XM)), x_lt (x_si vb 0 43 0) f = f (x_si vb 0 43 0) from fun f => rfl]
  -- what holds behind a reading
  have rel0 : ∀ (r : Int32) (D' T' v' : XM), FL (opT 200 w) T' → GL (opV 200 n v) v' → T'.1 0 10 = v'.1 0 10 → RelN nS nF nT nW bB (x_si (x_put (x_put w 291 9 D') 1 4 T') 1 2 0) v' := by
    intro r D' T' v' z2 z3 z4
    obtain ⟨m_T, m_B, m_o, l_T, l_o⟩ := read_mem (w := w) (T := T') (D := D') (o := 291) (m := 9) (by omega)
    refine h.txt (fun i hi => ?_) (fun i i1 i3 hi => ?_) ⟨z3.2.2 7 (by omega) (by omega), z3.2.2 9 (by omega) (by omega)⟩ (fun i hi => ?_) (fun j hj j2 j10 => ?_) ?_
    · show (x_put (x_put w 291 9 D') 1 4 T').2 i = w.2 i
      by_cases c : i = 4
      · subst c; rw [l_T, z2.2.2 3 (by omega)]; rfl
      · exact l_o i (by omega) (by omega)
    · rw [si_r i1]
      by_cases c : 1 ≤ i ∧ i < 5
      · rw [m_T i c.1 c.2, z2.1 _ (by omega), opT_r (by omega), show i - 1 + 1 = i by omega]
      · exact m_o i c (by unfold scrW at hi; omega)
    · rw [z3.1 i (by omega) (by omega) (by omega) (by omega), opV_r (by omega)]
    · have : ¬ (5 ≤ j ∧ j ≤ 13) ∧ j ≠ 23 ∧ ¬ (j = 40 ∨ 42 ≤ j) ∧ j ≠ 0 ∧ j ≠ 3 ∧ j ≠ 4 ∧ j ≠ 5 := by unfold vF at hj; omega
      rw [z3.2.1 j this.1 this.2.1 this.2.2.1, opV_o this.2.2.2.1 j2 this.2.2.2.2.1 this.2.2.2.2.2.1 this.2.2.2.2.2.2 j10]
    · exact read_tape (M := x_si (x_put (x_put w 291 9 D') 1 4 T') 1 2 0) h m_T z2 (fun i => by rw [z3.1 1 (by omega) (by omega) (by omega) (by omega), opV_r (by omega)]) (by rw [z3.2.1 2 (by omega) (by omega) (by omega)]; exact opV_2) z4 si_0 (si_n (by omega)) (si_r (by omega))
  have bad : ∀ (D' T' v' : XM) (c : Nat) (RR : Option (Int32 × XM)), c ≤ 300 → (∀ N, CL (x_sub w 6) (N + c) (x_si (x_si (f_X4_forget (x_sub w 291)) 0 6 0) 0 7 0) T 1 (nI 0) = some (0, D', T')) → RR = some (-1 - v'.1 0 11, v') → Bd (opT 200 w) (opV 200 n v) T' v' → R2 (x_bo (f_X4_readSentence (x_sub w 291) (x_sub w 1) (x_sub w 6)) (fun y1 => x_lt (x_put (x_put w 291 9 y1.2.1) 1 4 y1.2.2) (fun m2 => x_lt (x_si m2 1 2 (0 : Int32)) (fun m3 => if y1.1 = (0 : Int32) then (some ((-1 : Int32) - (m3.1 1 11), m3)) else (x_lt (f_X4_become (x_sub m3 37) (x_sub m3 291)) (fun y4 => x_lt (x_put m3 37 9 y4) (fun m5 => some (m5.1 291 0, m5)))))))) RR Both := by
    intro D' T' v' c RR hc hr hR hbd
    obtain ⟨z2, z3, z4, z5, -⟩ := hbd
    obtain ⟨m_T, -, -, -, -⟩ := read_mem (w := w) (T := T') (D := D') (o := 291) (m := 9) (by omega)
    rw [erd 0 D' T' c hc hr, bo_some, lt_eq, lt_eq, if_pos rfl, hR]
    refine R2_some ⟨?_, (rel0 0 D' T' v' z2 z3 z4).rel⟩
    show (-1 : Int32) - (x_si (x_put (x_put w 291 9 D') 1 4 T') 1 2 0).1 1 11 = -1 - v'.1 0 11
    rw [si_n (by omega), m_T 1 (by omega) (by omega)]
    exact congrArg (fun z => (-1 : Int32) - z) z5
  rcases key with ⟨c, D', T', v', hc, hr, hR, hbd⟩ | ⟨D', T', v', i', b', p', s', t', L, R, on', nd', a, q1, q2, hRR, nA, nO, ⟨⟨c, c1, c2⟩, q4, ⟨q5, q6, q7⟩, q8, ⟨q9, q10, q11, q12, q13, q14, q15, q16⟩, q17, q18⟩⟩
  · refine bad D' T' v' c _ (by omega) hr ?_ hbd
    show x_bo (g_read 200 0 _) _ = _
    rw [show g_read 200 0 _ = some (0, v') from hR, bo_some, if_pos rfl]
  · have hc := q8.1.2.2.1
    have n8 : ¬ (T'.1 0 8 = 18 ∨ T'.1 0 8 = 17) := fun q => by
      rcases q with q | q
      · exact nA ((tk_8 hc (k := 18) (by omega)).mp q)
      · exact nO ((tk_8 hc (k := 17) (by omega)).mp q)
    have hRl : R.length ≤ 2 ∧ ∀ x ∈ R, x = 18 ∨ x = 17 := by
      rcases hRR with rfl | rfl | rfl | rfl <;> simp
    have hst : (stp R).length = R.length := List.length_map ..
    have hLl : (L ++ stp R).length = L.length + R.length := by rw [List.length_append, hst]
    have hD0 : D'.1 0 7 = 0 := q4.2.2.2.1
    have one : ∀ N, CL (x_sub w 6) (N + (c + 1)) (x_si (x_si (f_X4_forget (x_sub w 291)) 0 6 0) 0 7 0) T 1 (nI 0) = f_X4_readSentence_138 (x_sub w 6) D' T' := fun N => by
      rw [show N + (c + 1) = N + 1 + c by omega, c2, CL_s, nd_1 q10, if_neg n8, hD0, if_pos (show (0 : Int32) ≤ 0 by decide)]
      split <;> rfl
    by_cases ce : t'.1 = 0
    · -- all is read
      obtain ⟨D1, es, hD1⟩ := s_settle (S := []) (j := 17) (W := 0) (on := on') (fun S0 => ⟨by simp, by simp⟩) R x_NN D' ([] ++ L) (by show R.length < 1000000; omega) q4 hRl.2 (by rw [List.nil_append]; omega) (by simp; omega)
      rw [List.nil_append] at hD1
      have e138 : f_X4_readSentence_138 (x_sub w 6) D' T' = some (1, D1, T') := by
        unfold f_X4_readSentence_138 f_X4_settle
        rw [if_pos (show T'.1 0 6 = 0 from (tk_6k hc (c := 0) (by omega)).mpr ce), if_pos hD0, es, bo_some]
      have z2 := q8.2.2.1
      have z3 := q8.2.2.2
      have z4 := q8.2.1
      obtain ⟨m_T, m_B, m_o, l_T, l_o⟩ := read_mem (w := w) (T := T') (D := D1) (o := 291) (m := 9) (by omega)
      have hr0 := rel0 1 D1 T' v' z2 z3 z4
      rw [erd 1 D1 T' (c + 1) (by omega) (fun N => by rw [one, e138]), bo_some, lt_eq, lt_eq, if_neg one0, lt_eq, lt_eq]
      dsimp only
      generalize hm3 : x_si (x_put (x_put w 291 9 D1) 1 4 T') 1 2 0 = m3 at hr0 ⊢
      have m291 : ∀ i, i < 9 → m3.1 (i + 291) = D1.1 i := fun i hi => by
        subst hm3
        rw [si_r (by omega), m_B _ (by omega) (by omega), Nat.add_sub_cancel]
      obtain ⟨b0, b1, b2, b3⟩ := c_becomeS (x_sub m3 37) (x_sub m3 291)
      generalize f_X4_become (x_sub m3 37) (x_sub m3 291) = Y at b0 b1 b2 b3 ⊢
      -- the reference
      show R2 _ (x_bo (g_read 200 0 _) _) Both
      rw [show g_read 200 0 _ = some (1, v') from q1, bo_some, if_neg one0, if_pos (show v'.1 0 7 = 0 from (tk_7 hc (c := 0) (by omega)).mpr ce)]
      rw [show x_pa v' 2 111 1 = x_si v' 2 111 1 from pa_si (k := 111) (by omega), show ∀ (f : XM → Option (Int32 × XM)), x_lt (x_si v' 2 111 1) f = f (x_si v' 2 111 1) from fun f => rfl, show (x_si v' 2 111 1).1 0 46 = nI a from (congrFun (si_r (show 0 ≠ 2 by omega)) 46).trans q2, show x_pa (x_si v' 2 111 1) 2 112 (nI a) = x_si (x_si v' 2 111 1) 2 112 (nI a) from pa_si (k := 112) (by omega), show ∀ (f : XM → Option (Int32 × XM)), x_lt (x_si (x_si v' 2 111 1) 2 112 (nI a)) f = f (x_si (x_si v' 2 111 1) 2 112 (nI a)) from fun f => rfl]
      obtain ⟨r, er, r1, r2, r3, r4⟩ := r_copyS (x_si (x_si v' 2 111 1) 2 112 (nI a))
      rw [er]
      have ro : ∀ i, i ≠ 2 → r.2.1 i = v'.1 i := fun i hi => by rw [r2.2 i (by simp; omega), si_r hi, si_r hi]
      refine R2_some ⟨?_, (hr0.sen (fun i hi => ?_) (fun i i1 i3 i37 hi => put_out (by omega)) ⟨?_, ?_⟩ (fun i hi => ro i (by omega)) (fun j hj => ?_) (fun j hj _ _ => by rw [ro 0 (by omega)]) ?_ ?_).rel⟩
      · show (x_put m3 37 9 Y).1 291 0 = r.1
        rw [put_out (by omega), show m3.1 291 = D1.1 0 from m291 0 (by omega), hD1.1, r1, congrFun (si_r (show 0 ≠ 2 by omega)) 44, congrFun (si_r (show 0 ≠ 2 by omega)) 44, q6]
      · rw [put_2 b3]
      · rw [r2.1]; rfl
      · rw [r2.1]; rfl
      · rw [r3 j (by omega), si_n (by omega), si_n (by omega)]
      · exact hr0.tape.congr ⟨by rw [put_out (by omega)], by rw [put_out (by omega)], put_out (by omega)⟩ ⟨by rw [ro 0 (by omega)], by rw [ro 0 (by omega)], ro 1 (by omega)⟩
      · have eY : ∀ i, i < 9 → (x_put m3 37 9 Y).1 (i + 32 + 5) = Y.1 i := fun i hi => by
          rw [put_inn (by omega), show i + 32 + 5 - 37 = i by omega]
        have e19 : (x_si (x_si v' 2 111 1) 2 112 (nI a)).1 19 = v'.1 19 := by rw [si_r (by omega), si_r (by omega)]
        have hql : (L ++ stp R).length ≤ 40 := by omega
        refine Or.inr ⟨?_, on', a, L ++ stp R, by omega, q12, ?_, by omega, ?_, hql, ?_, ?_, fun i x hx => ?_⟩
        · show r.2.1 2 111 = 1
          rw [r3 111 (by omega), si_n (by omega), si_0]
        · show (x_put m3 37 9 Y).1 (0 + 32 + 5) 0 = nI on'
          rw [eY 0 (by omega), b0, show (x_sub m3 291).1 0 = D1.1 0 from m291 0 (by omega)]; exact hD1.1
        · show r.2.1 2 112 = nI a
          rw [r3 112 (by omega), si_0]
        · show (x_put m3 37 9 Y).1 (0 + 32 + 5) 1 = _
          rw [eY 0 (by omega), b1, show (x_sub m3 291).1 0 = D1.1 0 from m291 0 (by omega)]; exact hD1.2.1
        · refine TR.mono (n := a + 1) ?_ (by omega)
          refine TR.ext (g := v'.1 19) (a + 1) a _ (fun j hj => ?_) q17
          show r.2.1 2 (111 + (2 + j)) = v'.1 19 j
          rw [show 111 + (2 + j) = 113 + j by omega, r4 j (by omega), e19]
        · have hi : i < (L ++ stp R).length := (List.getElem?_eq_some_iff.mp hx).1
          obtain ⟨w1, w2, w3⟩ := b2 i (by omega)
          obtain ⟨u1, u2, u3⟩ := hD1.2.2.2.2.2 i x hx
          show (x_put m3 37 9 Y).1 (2 + 32 + 5) i = _ ∧ (x_put m3 37 9 Y).1 (4 + 32 + 5) i = _ ∧ (x_put m3 37 9 Y).1 (6 + 32 + 5) i = _
          rw [eY 2 (by omega), eY 4 (by omega), eY 6 (by omega), w1, w2, w3, show (x_sub m3 291).1 2 = D1.1 2 from m291 2 (by omega), show (x_sub m3 291).1 4 = D1.1 4 from m291 4 (by omega), show (x_sub m3 291).1 6 = D1.1 6 from m291 6 (by omega)]
          exact ⟨u1, u2, u3⟩
    · -- something stands behind it
      obtain ⟨T2, v2, b1, b2, b3⟩ := q8.bad 1 (Or.inr rfl)
      refine bad D' T2 v2 (c + 1) _ (by omega) (fun N => ?_) ?_ b3
      · rw [one]
        unfold f_X4_readSentence_138 f_X4_readSentence_160
        rw [if_neg (show ¬ T'.1 0 6 = 0 from fun q => ce ((tk_6k hc (c := 0) (by omega)).mp q)), show f_X8_refuse T' 1 = (0, T2) from b1]; rfl
      · show x_bo (g_read 200 0 _) _ = _
        rw [show g_read 200 0 _ = some (1, v') from q1, bo_some, if_neg one0, if_neg (show ¬ v'.1 0 7 = 0 from fun q => ce ((tk_7 hc (c := 0) (by omega)).mp q)), show f_X12_bad v' 1 = (0, v2) from b2]; rfl
end D0
