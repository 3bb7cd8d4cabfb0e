-- what is said: ONES joined.
/-- ONES joined by a word -/
def JB (F : XM → Option (Int32 × XM)) (wd : Nat) (nde : Int32) (K : XM → Int32 → Option (Int32 × XM)) (w0 : XM) (l1 : Int32) : Option (Int32 × XM) :=
  x_lt (f_X12_isWord w0 (nI wd)) (fun y1 =>
  if y1 = (0 : Int32) then
  (x_lt (x_si w0 0 46 l1) (fun m2 =>
  some ((1 : Int32), m2)))
  else (x_bo (f_X12_go w0) (fun y3 =>
  x_bo (F y3) (fun y4 =>
  if y4.1 = (0 : Int32) then
  (some ((0 : Int32), y4.2))
  else (x_bo (f_X12_saysOne y4.2 nde l1 (y4.2.1 0 46) (0 : Int32)) (fun y5 =>
  K y5.2 y5.1))))))
def JF (F : XM → Option (Int32 × XM)) (wd : Nat) (nde : Int32) (v : XM) : Option (Int32 × XM) := x_bo (F v) (fun y6 => if y6.1 = (0 : Int32) then some ((0 : Int32), y6.2) else x_lp (φ := XM → Int32 → Option (Int32 × XM)) (fun _ _ => none) (JB F wd nde) x_NN y6.2 (y6.2.1 0 46))
theorem JF_and {d : Nat} : g_read (d + 1) 1 = JF (g_read d 2) 18 2 := rfl
theorem JF_or {d : Nat} : g_read (d + 1) 0 = JF (g_read d 1) 17 3 := rfl
def JP (V T0 v0 : XM) (n : Nat) (F : XM → Option (Int32 × XM)) (e : Nat) (X : List Int32) (Rs : List Int32 → Prop) (C : Tok → Prop) (Wok : Nat → Prop) : Prop := ∀ (b p s : Nat) (t : Tok) (T v D : XM) (S : List Int32) (Q : List (Int32 × Int32 × Int32)) (W on nd i : Nat), St n 200 b p s t T0 v0 T v → SRel D S Q W on → (v.1 0 43 = nI nd ∧ v.1 0 44 = nI on ∧ v.1 0 45 = nI W) → (W ≤ 8 ∧ on ≤ 20 ∧ Q.length ≤ 2 * on ∧ nd ≤ 2 * on ∧ S.length ≤ 3 * W + e ∧ i ≤ b ∧ i ≤ 200) → (∀ x ∈ X, ∀ S0, S ≠ S0 ++ [x]) → Wok W → FailQ V T0 v0 D T i (F v) ∨ ∃ (D' T' v' : XM) (i' b' p' s' : Nat) (t' : Tok) (L : List (Int32 × Int32 × Int32)) (R : List Int32) (on' nd' a : Nat), F v = some (1, v') ∧ v'.1 0 46 = nI a ∧ Rs R ∧ C t' ∧ Mid V T0 v0 n b D T i S Q W on nd v D' T' v' i' b' p' s' t' W (L ++ stp R) L R.reverse on' nd' a
section CZ
variable {S : List Int32} {Q : List (Int32 × Int32 × Int32)} {W on n lim b p s nd k w i d m nS nT nW e wd : Nat} {t : Tok} {T v T' v' T0 v0 D V vb : XM} {F : XM → Option (Int32 × XM)} {X : List Int32} {Rs : List Int32 → Prop} {C : Tok → Prop} {Wok : Nat → Prop} {nde : Int32}
theorem FailQ.preN {D2 T1 : XM} {R R' : Option (Int32 × XM)} {c : Nat} (h : FailQ V T0 v0 D2 T1 (i + c) R) (hi : i + c ≤ 202) (hc : ∀ N, CL V (N + c) D T 1 (nI i) = CL V N D2 T1 1 (nI (i + c))) (hR : ∀ v', R = some (0, v') → R' = some (0, v')) : FailQ V T0 v0 D T i R' := by
  obtain ⟨c', D', T', v', h1, h2, h3, h4⟩ := h
  exact ⟨c' + c, D', T', v', by omega, fun N => by rw [← Nat.add_assoc, hc, h2], hR v' h3, h4⟩
theorem said_JP (h : SaidP V T0 v0 n d) : JP V T0 v0 n (g_read d 2) 2 [19] (fun R => R = []) (fun _ => True) (fun W => 4 * (8 - W) + 1 ≤ d) := by
  intro b p s t T v D S Q W on nd i h1 h2 h3 h4 h5 h6
  rcases h b p s t T v D S 0 Q W on nd i h1 (by rw [List.replicate_zero, List.append_nil]; exact h2) h3 (by omega) (h5 19 (List.mem_singleton.mpr rfl)) h6 with hf | ⟨D', T', v', i', b', p', s', t', L, on', nd', a, q1, q2, q3⟩
  · exact Or.inl hf
  · refine Or.inr ⟨D', T', v', i', b', p', s', t', L, [], on', nd', a, q1, q2, rfl, trivial, ?_⟩
    have e1 : L ++ stp [] = L := List.append_nil _
    have e2 : L ++ List.replicate 0 ((19, 0, 0) : Int32 × Int32 × Int32) = L := List.append_nil _
    rw [e2, Nat.sub_zero] at q3
    rw [e1]; exact q3
theorem joined (h : JP V T0 v0 n F (e + 1) X Rs C Wok) (he1 : e ≤ 1) (hn : n ≤ 940) (hwd : wd = 17 ∨ wd = 18) (hnde : (wd = 18 ∧ nde = 2) ∨ (wd = 17 ∧ nde = 3)) (hX : ∀ x ∈ X, x ≠ nI wd) (h18 : wd = 18 ∨ (18 : Int32) ∈ X) (hRs : ∀ R, Rs R → R.length ≤ 1 ∧ ∀ x ∈ R, x = 18 ∨ x = nI wd) : JP V T0 v0 n (JF F wd nde) e (nI wd :: X) (fun R => Rs R ∨ ∃ R2, Rs R2 ∧ R = R2 ++ [nI wd]) (fun t => C t ∧ ¬ (t.1 = 2 ∧ wi t.2.2 = wd)) Wok := by
  intro b p s t T v D S Q W on nd i h1 h2 h3 h4 h5 h6
  have hS18 : ∀ S0, S ≠ S0 ++ [18] ∧ S ≠ S0 ++ [nI wd] := fun S0 => ⟨by
    rcases h18 with z | z
    · have := h5 (nI wd) (List.mem_cons_self ..) S0
      rw [z] at this; exact this
    · exact h5 18 (List.mem_cons_of_mem _ z) S0, h5 (nI wd) (List.mem_cons_self ..) S0⟩
  rcases h b p s t T v D S Q W on nd i h1 h2 h3 (by omega) (fun x hx S0 => h5 x (List.mem_cons_of_mem _ hx) S0) h6 with hf | ⟨D1, T1, v1, i1, b1, p1, s1, t1, L1, R1, on1, nd1, a1, q1, q2, q3, q4, q5⟩
  · refine Or.inl (hf.preN (c := 0) (by omega) (fun N => rfl) (fun v' hv => ?_))
    unfold JF
    rw [hv, bo_some, if_pos rfl]
  · unfold JF
    rw [q1, bo_some, if_neg one0]
    dsimp only
    rw [q2]
    refine lp1_gen (σ := XM × Nat) (fun (K : XM → Int32 → Option (Int32 × XM)) q => K q.1 (nI q.2)) (fun m q => ∃ (D' T' : XM) (i' b' p' s' : Nat) (t' : Tok) (L : List (Int32 × Int32 × Int32)) (R : List Int32) (on' nd' : Nat), b' + m = 941 ∧ (Rs R ∨ ∃ R2, Rs R2 ∧ R = R2 ++ [nI wd]) ∧ C t' ∧ Mid V T0 v0 n b D T i S Q W on nd v D' T' q.1 i' b' p' s' t' W (L ++ stp R) L R.reverse on' nd' q.2) (fun RR => FailQ V T0 v0 D T i RR ∨ ∃ (D' T' v' : XM) (i' b' p' s' : Nat) (t' : Tok) (L : List (Int32 × Int32 × Int32)) (R : List Int32) (on' nd' a : Nat), RR = some (1, v') ∧ v'.1 0 46 = nI a ∧ (Rs R ∨ ∃ R2, Rs R2 ∧ R = R2 ++ [nI wd]) ∧ (C t' ∧ ¬ (t'.1 = 2 ∧ wi t'.2.2 = wd)) ∧ Mid V T0 v0 n b D T i S Q W on nd v D' T' v' i' b' p' s' t' W (L ++ stp R) L R.reverse on' nd' a) ?_ x_NN (941 - b1) (v1, a1) (by show 941 - b1 < 1000000; omega) ⟨D1, T1, i1, b1, p1, s1, t1, L1, R1, on1, nd1, by have := q5.2.2.2.1.1.1.1; have := q5.2.2.2.1.1.2.1; omega, Or.inl q3, q4, q5⟩
    rintro mm K ⟨vv, a⟩ ⟨D', T', i', b', p', s', t', L, R, on', nd', hm, hR, hC, hMid⟩ ih
    dsimp only at hMid
    show (fun RR => _) (JB F wd nde K vv (nI a))
    obtain ⟨⟨c, c1, c2⟩, g4, ⟨g43, g44, g45⟩, gS, ⟨g9, g10, g11, g12, g13, g14, g15, g16⟩, g17, g18⟩ := hMid
    have hc := gS.1.2.2.1
    have hpm : pm wd = wd := by rcases hwd with rfl | rfl <;> decide
    have hw29 : wd < 29 := by omega
    have hw : f_X12_isWord vv (nI wd) = bI (decide (t'.1 = 2) && decide (wi t'.2.2 = wd)) := by rw [r_isWord hc hw29, hpm]
    have hRl : R.length ≤ 2 ∧ ∀ x ∈ R, x = 18 ∨ x = nI wd := by
      rcases hR with hR | ⟨R2, hR, rfl⟩
      · exact ⟨by have := (hRs R hR).1; omega, (hRs R hR).2⟩
      · refine ⟨by have := (hRs R2 hR).1; rw [len_1]; omega, fun x hx => ?_⟩
        rcases List.mem_append.mp hx with hx | hx
        · exact (hRs R2 hR).2 x hx
        · exact Or.inr (List.mem_singleton.mp hx)
    have hst : (stp R).length = R.length := List.length_map ..
    have hLl : (L ++ stp R).length = L.length + R.length := by rw [List.length_append, hst]
    unfold JB
    rw [hw]
    by_cases cw : t'.1 = 2 ∧ wi t'.2.2 = wd
    · -- one more
      have hsp := gS.1.2.2.2.1 (by omega)
      obtain ⟨T2, v2, a2, a3, p2, s2, t2, hs2, fT, fV⟩ := gS.next
      obtain ⟨D1', e1, hD1⟩ := s_settle (S := S) (j := nI wd) (W := W) (on := on') hS18 R x_NN D' (Q ++ L) (by show R.length < 1000000; omega) g4 hRl.2 (by rw [List.length_append]; omega) (by omega)
      have hD2 := s_push hD1 (by omega) (nI wd)
      have e8 : T'.1 0 8 = nI wd := (tk_8 hc hw29).mpr cw
      have hor : T'.1 0 8 = 18 ∨ T'.1 0 8 = 17 := by
        rw [e8]; rcases hwd with rfl | rfl
        · exact Or.inr rfl
        · exact Or.inl rfl
      have path : ∀ N, CL V (N + (c + 1)) D T 1 (nI i) = CL V N (f_X4_push D1' (nI wd)) T2 1 (nI (i + (c + 1))) := fun N => by
        rw [show N + (c + 1) = N + 1 + c by omega, c2, CL_s, nd_1 g10, if_pos hor, e8]
        unfold f_X4_settle
        rw [e1, bo_some, a2, bo_some, show i' + 1 = i + (c + 1) by omega]
      have eQ : Q ++ L ++ List.map (fun x => (x, 0, 0)) R = Q ++ (L ++ stp R) := by unfold stp; rw [List.append_assoc]
      rw [eQ] at hD2
      have nX : ∀ x ∈ X, ∀ S0, S ++ [nI wd] ≠ S0 ++ [x] := fun x hx S0 q => hX x hx (snoc_last q).symm
      rw [decide_eq_true cw.1, decide_eq_true cw.2, lt_eq, if_neg (show ¬ bI (true && true) = 0 by decide), a3, bo_some]
      rcases h p' p2 s2 t2 T2 v2 _ (S ++ [nI wd]) (Q ++ (L ++ stp R)) W on' nd' (i + (c + 1)) hs2 hD2 ⟨(fV.2.1 43 (by omega)).trans g43, (fV.2.1 44 (by omega)).trans g44, (fV.2.1 45 (by omega)).trans g45⟩ ⟨by omega, by omega, by rw [List.length_append]; omega, by omega, by rw [len_1]; omega, by omega, by omega⟩ nX h6 with hf | ⟨D3, T3, v3, i3, b3, p3, s3, t3, L3, R3, on3, nd3, a4, k1, k2, k3, k4, ⟨⟨c3, c31, c32⟩, k5, ⟨k43, k44, k45⟩, kS, ⟨k9, k10, k11, k12, k13, k14, k15, k16⟩, k17, k18⟩⟩
      · refine Or.inl (hf.preN (by omega) path (fun v' hv => ?_))
        rw [hv, bo_some, if_pos rfl]
      · obtain ⟨v4, e4, w1, w2, w3, w4, w5⟩ := r_says (v := v3) (a := nde) (b := nI a) (c := nI a4) (d := 0) k43 (by omega)
        obtain ⟨n0, n1, n2, -, n4⟩ := nd4_at (g := v3.1 19) (k := nd3) (a := nde) (b := nI a) (c := nI a4) (d := 0)
        rw [k1, bo_some, if_neg one0]
        dsimp only
        rw [k2, e4, bo_some]
        have hst3 : (stp R3).length = R3.length := List.length_map ..
        have hL3 : (L3 ++ stp R3).length = L3.length + R3.length := by rw [List.length_append, hst3]
        have eL : ((L ++ stp R) ++ L3) ++ stp (R3 ++ [nI wd]) = (L ++ stp R) ++ (L3 ++ stp R3) ++ [(nI wd, 0, 0)] := by
          unfold stp; rw [List.map_append]; simp only [List.append_assoc]; rfl
        have hlen : (((L ++ stp R) ++ L3) ++ stp (R3 ++ [nI wd])).length = (L ++ stp R).length + (L3 ++ stp R3).length + 1 := by
          rw [eL, len_1, List.length_append]
        have hb3 : b3 ≤ 940 := by
          have z1 := kS.1.2.1.2.2.2
          have z2 := kS.1.1.1
          omega
        refine ih (941 - b3) (v4, nd3) (by omega) ⟨D3, T3, i3, b3, p3, s3, t3, (L ++ stp R) ++ L3, R3 ++ [nI wd], on3, nd3 + 1, by omega, Or.inr ⟨R3, k3, rfl⟩, k4, ⟨⟨c3 + (c + 1), by omega, fun N => ?_⟩, ?_, ⟨w2, ?_, ?_⟩, kS.ref (fun j hj => w3 j (by omega)) w4 w5, ⟨k9, k10, by omega, k12, ?_, ?_, by dsimp only; omega, by dsimp only; omega⟩, ?_, fun j hj => ?_⟩⟩
        · rw [← Nat.add_assoc, path, c32]
        · have e5 : S ++ (R3 ++ [nI wd]).reverse = S ++ [nI wd] ++ R3.reverse := by
            rw [List.reverse_append, List.append_assoc]; rfl
          have e6 : Q ++ ((L ++ stp R) ++ L3) = Q ++ (L ++ stp R) ++ L3 := by simp only [List.append_assoc]
          rw [e5, e6]; exact k5
        · exact (w3 44 (by omega)).trans k44
        · exact (w3 45 (by omega)).trans k45
        · rw [hlen]; omega
        · rw [hlen]; omega
        · dsimp only
          rw [eL, w1]
          have t1 : TR (nd4 (v3.1 19) nd3 nde (nI a) (nI a4) 0) nd3 a (L ++ stp R) := (TR.ext (a + 1) a _ (fun j hj => by
            rw [n4 j (by omega), k18 j (by omega), fV.1 19 (by omega)]) g17).mono (by omega)
          have t2 : TR (nd4 (v3.1 19) nd3 nde (nI a) (nI a4) 0) nd3 a4 (L3 ++ stp R3) := (TR.ext (a4 + 1) a4 _ (fun j hj => n4 j (by omega)) k17).mono (by omega)
          unfold TR
          rw [n0, n1, n2]
          rcases hnde with ⟨z1, z2⟩ | ⟨z1, z2⟩
          · exact Or.inr (Or.inl ⟨z2, a, a4, _, _, by omega, k16, rfl, rfl, t1, t2, by rw [z1]; rfl⟩)
          · exact Or.inr (Or.inr (Or.inl ⟨z2, a, a4, _, _, by omega, k16, rfl, rfl, t1, t2, by rw [z1]; rfl⟩))
        · dsimp only
          rw [w1, n4 j (by omega), k18 j (by omega), fV.1 19 (by omega)]
          exact g18 j hj
    · -- no more
      rw [lt_eq, if_pos (show bI (decide (t'.1 = 2) && decide (wi t'.2.2 = wd)) = 0 from by
        by_cases c1 : t'.1 = 2
        · rw [decide_eq_true c1, decide_eq_false (fun q => cw ⟨c1, q⟩)]; rfl
        · rw [decide_eq_false c1]; rfl)]
      refine Or.inr ⟨D', T', x_si vv 0 46 (nI a), i', b', p', s', t', L, R, on', nd', a, rfl, si_0, hR, ⟨hC, cw⟩, ⟨⟨c, c1, c2⟩, g4, ⟨(si_n (by omega)).trans g43, (si_n (by omega)).trans g44, (si_n (by omega)).trans g45⟩, gS.s0 (by omega), ⟨g9, g10, g11, g12, g13, g14, g15, g16⟩, ?_, fun j hj => ?_⟩⟩
      · rw [si_r (by omega)]; exact g17
      · rw [si_r (by omega)]; exact g18 j hj
theorem and_of (h : SaidP V T0 v0 n d) (hn : n ≤ 940) : JP V T0 v0 n (g_read (d + 1) 1) 1 [18, 19] (fun R => R = [] ∨ ∃ R2, R2 = [] ∧ R = R2 ++ [18]) (fun t => True ∧ ¬ (t.1 = 2 ∧ wi t.2.2 = 18)) (fun W => 4 * (8 - W) + 1 ≤ d) := by
  rw [JF_and]
  exact joined (wd := 18) (e := 1) (said_JP h) (by omega) hn (by omega) (Or.inl ⟨rfl, rfl⟩) (fun x hx => by rw [List.mem_singleton.mp hx]; decide) (Or.inl rfl) (fun R hR => by subst hR; exact ⟨by decide, fun x hx => absurd hx (List.not_mem_nil)⟩)
theorem or_of (h : SaidP V T0 v0 n d) (hn : n ≤ 940) : OrP V T0 v0 n (d + 2) := by
  have key := joined (wd := 17) (nde := 3) (e := 0) (and_of h hn) (by omega) hn (by omega) (Or.inr ⟨rfl, rfl⟩) (fun x hx => by
    rcases List.mem_cons.mp hx with hx | hx
    · rw [hx]; decide
    · rw [List.mem_singleton.mp hx]; decide) (Or.inr (List.mem_cons_self ..)) (fun R hR => by
    rcases hR with rfl | ⟨R2, rfl, rfl⟩
    · exact ⟨by decide, fun x hx => absurd hx (List.not_mem_nil)⟩
    · exact ⟨by decide, fun x hx => Or.inl (List.mem_singleton.mp hx)⟩)
  rw [← JF_or] at key
  intro b p s t T v D S Q W on nd i h1 h2 h3 h4 h5 h6
  have h5' : ∀ x ∈ [nI 17, 18, 19], ∀ S0, S ≠ S0 ++ [x] := fun x hx S0 => by
    obtain ⟨z1, z2, z3⟩ := h5 S0
    rcases List.mem_cons.mp hx with hx | hx
    · rw [hx]; exact z3
    · rcases List.mem_cons.mp hx with hx | hx
      · rw [hx]; exact z2
      · rw [List.mem_singleton.mp hx]; exact z1
  rcases key b p s t T v D S Q W on nd i h1 h2 h3 (by omega) h5' (by omega) with hf | ⟨D', T', v', i', b', p', s', t', L, R, on', nd', a, q1, q2, q3, q4, q5⟩
  · exact Or.inl hf
  · refine Or.inr ⟨D', T', v', i', b', p', s', t', L, R, on', nd', a, q1, q2, ?_, q4.1.2, q4.2, q5⟩
    rcases q3 with (rfl | ⟨R2, rfl, rfl⟩) | ⟨R2, (rfl | ⟨R3, rfl, rfl⟩), rfl⟩
    · exact Or.inl rfl
    · exact Or.inr (Or.inl rfl)
    · exact Or.inr (Or.inr (Or.inl rfl))
    · exact Or.inr (Or.inr (Or.inr rfl))
theorem sen_all (hwn : WN nS nT nW V v0) (hn : n ≤ 940) : ∀ d, SaidP V T0 v0 n d := by
  intro d
  induction d using Nat.strongRecOn with
  | ind d ih =>
    refine said_all hwn ih (fun d2 h2 => ?_)
    by_cases c : d2 < 2
    · intro b p s t T v D S Q W on nd i h1 h2 h3 h4 h5 h6
      omega
    · have := or_of (ih (d2 - 2) (by omega)) hn
      rw [show d2 - 2 + 2 = d2 by omega] at this
      exact this
end CZ
