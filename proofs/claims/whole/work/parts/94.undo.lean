-- undo, odds.
section CU
variable {nS nF nT nW bB : Nat} {w v h s : XM}
theorem back_eq {x m : Nat} (hx : x < 8) (h1 : h.1 0 1 = nI x) (hm : m ≤ 8) (h2 : h.1 0 2 = nI m) : f_X1_takeBack h s = if m = 0 then (0, h, s) else (1, x_si (x_si h 0 1 (nI ((x + 7) % 8))) 0 2 (nI (m - 1)), f_X5_become s (x_sub h (2 + 15 * ((x + 7) % 8)))) := by
  unfold f_X1_takeBack
  have e : (((h.1 0 1 + (8 : Int32)) - (1 : Int32)) - ((h.1 0 1 + (8 : Int32)) - (1 : Int32)) / (8 : Int32) * (8 : Int32)) = nI ((x + 7) % 8) := by
    rw [h1, kl_8, nI_add, kl_1, pk_sub (by omega), pk_rem (by omega) (by omega) (by omega)]
    congr 1
  rw [lt_eq, e, h2]
  have key : ∀ oo k, (x + 7) % 8 = k → oo = 2 + 15 * k → (if nI m = (0 : Int32) then (((0 : Int32), h, s)) else (x_lt (f_X5_become s (x_sub h oo)) (fun y2 => x_lt (x_si h 0 1 (nI k)) (fun m3 => x_lt (x_si m3 0 2 ((m3.1 0 2) - (1 : Int32))) (fun m4 => ((1 : Int32), m4, y2)))))) = if m = 0 then (0, h, s) else (1, x_si (x_si h 0 1 (nI k)) 0 2 (nI (m - 1)), f_X5_become s (x_sub h (2 + 15 * k))) := by
    intro oo k _ ho
    subst ho
    by_cases c : m = 0
    · subst c; rw [if_pos (show nI 0 = 0 from rfl), if_pos rfl]
    · rw [if_neg (nI_ne0 (by omega) (by omega)), if_neg c, lt_eq, lt_eq, lt_eq, show (x_si h 0 1 (nI k)).1 0 2 = nI m by rw [si_row, row_at, up_ne (by omega), h2], (nI_m1 (by omega)).2]
  generalize hk : (x + 7) % 8 = k at key ⊢
  rcases (show k = 0 ∨ k = 1 ∨ k = 2 ∨ k = 3 ∨ k = 4 ∨ k = 5 ∨ k = 6 ∨ k = 7 by omega) with rfl | rfl | rfl | rfl | rfl | rfl | rfl | rfl
  · rw [if_pos (show nI 0 = 0 from rfl)]
    exact key 2 0 rfl rfl
  · rw [if_neg (show ¬ nI 1 = 0 by decide), if_pos (show nI 1 = 1 from rfl)]
    exact key 17 1 rfl rfl
  · rw [if_neg (show ¬ nI 2 = 0 by decide), if_neg (show ¬ nI 2 = 1 by decide), if_pos (show nI 2 = 2 from rfl)]
    exact key 32 2 rfl rfl
  · rw [if_neg (show ¬ nI 3 = 0 by decide), if_neg (show ¬ nI 3 = 1 by decide), if_neg (show ¬ nI 3 = 2 by decide), if_pos (show nI 3 = 3 from rfl)]
    exact key 47 3 rfl rfl
  · rw [if_neg (show ¬ nI 4 = 0 by decide), if_neg (show ¬ nI 4 = 1 by decide), if_neg (show ¬ nI 4 = 2 by decide), if_neg (show ¬ nI 4 = 3 by decide), if_pos (show nI 4 = 4 from rfl)]
    exact key 62 4 rfl rfl
  · rw [if_neg (show ¬ nI 5 = 0 by decide), if_neg (show ¬ nI 5 = 1 by decide), if_neg (show ¬ nI 5 = 2 by decide), if_neg (show ¬ nI 5 = 3 by decide), if_neg (show ¬ nI 5 = 4 by decide), if_pos (show nI 5 = 5 from rfl)]
    exact key 77 5 rfl rfl
  · rw [if_neg (show ¬ nI 6 = 0 by decide), if_neg (show ¬ nI 6 = 1 by decide), if_neg (show ¬ nI 6 = 2 by decide), if_neg (show ¬ nI 6 = 3 by decide), if_neg (show ¬ nI 6 = 4 by decide), if_neg (show ¬ nI 6 = 5 by decide), if_pos (show nI 6 = 6 from rfl)]
    exact key 92 6 rfl rfl
  · rw [if_neg (show ¬ nI 7 = 0 by decide), if_neg (show ¬ nI 7 = 1 by decide), if_neg (show ¬ nI 7 = 2 by decide), if_neg (show ¬ nI 7 = 3 by decide), if_neg (show ¬ nI 7 = 4 by decide), if_neg (show ¬ nI 7 = 5 by decide), if_neg (show ¬ nI 7 = 6 by decide), if_pos (show nI 7 = 7 from rfl)]
    exact key 107 7 rfl rfl
theorem r_copy {m : Nat} (hm : v.1 0 24 = nI m) (h8 : m < 8) : wp (x_lp (φ := XM → Int32 → Option (Int32 × XM)) (fun _ _ => none) f_X12_undo_26 x_NN v 0) (fun r => r.1 = nI m ∧ ∃ N, r.2 = x_row v 2 N ∧ ∀ j, N j = if 70 ≤ j ∧ j < 111 then v.1 5 (41 * m + (j - 70)) else v.1 2 j) := by
  refine lp_for (n := 41) (fun i a => ∃ N, a = x_row v 2 N ∧ ∀ j, N j = if 70 ≤ j ∧ j < 70 + i then v.1 5 (41 * m + (j - 70)) else v.1 2 j) _ (fun K i a hi hP ih => ?_) (fun K a hP => ?_) x_NN v (by unfold x_NN; omega) ⟨v.1 2, row_self.symm, fun k => by rw [if_neg (by omega)]⟩
  · obtain ⟨S, rfl, hS⟩ := hP
    unfold f_X12_undo_26
    rw [kl_41, if_neg (nI_ge hi (by omega)), show (x_row v 2 S).1 0 24 = nI m from hm, pk_mul, nI_add, ck_in (by omega) (by omega), kl_70, nI_add, ck_in (by omega) (by omega), lt_eq, pa_in (by omega), ga_in (by omega), row_row, row_at, nI_1, show (x_row v 2 S).1 5 = v.1 5 from rfl]
    refine ih _ ⟨_, rfl, fun k => ?_⟩
    by_cases c : k = 70 + i
    · subst c
      rw [up_eq, if_pos (by omega)]
      exact congrArg (v.1 5) (by omega)
    · rw [up_ne c, hS]
      by_cases c2 : 70 ≤ k ∧ k < 70 + i
      · rw [if_pos c2, if_pos (by omega)]
      · rw [if_neg c2, if_neg (by omega)]
  · obtain ⟨S, rfl, hS⟩ := hP
    unfold f_X12_undo_26
    rw [kl_41, if_pos (nI_le (by omega) (by omega)), wp_some]
    exact ⟨hm, S, rfl, hS⟩
theorem b_undo (h : RelN nS nF nT nW bB w v) : R2 (some (f_X11_undo w)) (f_X12_undo v) Both := by
  have h1 := h.th (x := 0)
  have hb := h.1.1.1
  unfold f_X11_undo f_X12_undo
  simp only [lt_eq]
  generalize x_si v 0 0 0 = v1 at h1 ⊢
  obtain ⟨m, x, a1, a2, a3, a4, a5, a6⟩ := h1.2.1
  rw [back_eq (h := x_sub w 143) (s := x_sub w 22) a2 (show (x_sub w 143).1 0 1 = nI x from a4) a1 (show (x_sub w 143).1 0 2 = nI m from a3), a5]
  by_cases c : m = 0
  · subst c
    rw [if_pos rfl, if_pos (show nI 0 = 0 from rfl), put_self, put_self]
    exact R2_some ⟨rfl, h1.rel⟩
  · rw [if_neg c, if_neg (nI_ne0 (by omega) (by omega)), if_neg (show ¬ (1 : Int32) = 0 by decide), (nI_m1 (by omega)).2]
    dsimp only
    have hc0 : (x_si v1 0 24 (nI (m - 1))).1 0 24 = nI (m - 1) := by rw [si_row, row_at, up_eq]
    obtain ⟨r, e, r1, N, r2, hN⟩ := r_copy hc0 (by omega)
    rw [e]
    generalize hH : x_si (x_si (x_sub w 143) 0 1 (nI ((x + 7) % 8))) 0 2 (nI (m - 1)) = H
    have hH2 : H.2 = (x_sub w 143).2 := by rw [← hH]; rfl
    have hH0 : H.1 0 2 = nI (m - 1) ∧ H.1 0 1 = nI ((x + 7) % 8) ∧ ∀ i, i ≠ 0 → H.1 i = w.1 (i + 143) := by
      rw [← hH]
      refine ⟨?_, ?_, fun i hi => ?_⟩
      · rw [si_row, row_at, up_eq]
      · rw [si_row, row_at, up_ne (by omega), si_row, row_at, up_eq]
      · rw [si_row, row_off hi, si_row, row_off hi]; rfl
    generalize hB : f_X5_become (x_sub w 22) (x_sub (x_sub w 143) (2 + 15 * ((x + 7) % 8))) = B
    have hB2 : B.2 = (x_sub w 22).2 := by rw [← hB]; exact become_2 _ _
    have hst : StEq B.1 (x_sub (x_sub w 143) (2 + 15 * ((x + 7) % 8))).1 := by rw [← hB]; exact become_st _ _
    have i143 : ∀ i, 143 ≤ i → i < 265 → (x_put (x_put w 143 122 H) 22 15 B).1 i = H.1 (i - 143) := fun i p q => by rw [put_out (by omega), put_inn (by omega)]
    have i22 : ∀ i, i < 15 → (x_put (x_put w 143 122 H) 22 15 B).1 (i + 22) = B.1 i := fun i hi => by rw [put_inn (by omega), Nat.add_sub_cancel]
    have iout : ∀ i, (i < 22 ∨ (37 ≤ i ∧ i < 143) ∨ 265 ≤ i) → (x_put (x_put w 143 122 H) 22 15 B).1 i = w.1 i := fun i hi => by rw [put_out (by omega), put_out (by omega)]
    have hR := a6 0 (by omega)
    rw [Nat.sub_zero, Nat.sub_zero] at hR
    refine R2_some ⟨?_, (h1.state ?_ (fun i p _ _ => iout i (by omega)) ?_ ?_ (fun j p q => ?_) (fun j p => ?_) ?_ ?_).rel⟩
    · rw [r1]
      show (x_put (x_put w 143 122 H) 22 15 B).1 143 2 = _
      rw [i143 143 (by omega) (by omega)]; exact hH0.1
    · show (x_put (x_put w 143 122 H) 22 15 B).2 = _
      rw [put_2 (by rw [hB2]; show _ = fun i => (x_put w 143 122 H).2 (i + 22); rw [put_2 hH2]; rfl), put_2 hH2]
    · rw [r2]; exact ⟨rfl, rfl⟩
    · rw [r2]; simp (disch := omega) only [row_off, si_row, and_self]
    · rw [r2, row_off (by omega), si_row, row_at, up_ne q]
    · rw [r2, row_at, hN, if_neg (by omega), si_row, row_off (by omega)]
    · rw [r2, row_at]
      refine (hR.steq (cs' := B.1) ?_ (by omega) (by omega)).congr (fun i hi => i22 i hi) (fun j hj => ?_) (fun j hj => ?_) (by omega) (by omega)
      · obtain ⟨b1, b2, b3⟩ := hst
        have e : ∀ i, (x_sub (x_sub w 143) (2 + 15 * ((x + 7) % 8))).1 i = w.1 (i + (145 + 15 * ((x + 7) % 8))) := fun i => by
          show w.1 (i + (2 + 15 * ((x + 7) % 8)) + 143) = _
          exact congrArg w.1 (by omega)
        simp only [e] at b1 b2 b3
        exact ⟨b1, b2, b3⟩
      · rw [hN, if_neg (by omega), si_row, row_off (by omega)]
      · rw [hN, if_pos (by omega), si_row, row_off (by omega)]
        exact congrArg (v1.1 5) (by omega)
    · rw [r2, row_at]
      refine ⟨m - 1, (x + 7) % 8, by omega, Nat.mod_lt _ (by omega), ?_, ?_, ?_, fun k hk => ?_⟩
      · show (x_put (x_put w 143 122 H) 22 15 B).1 143 2 = _
        rw [i143 143 (by omega) (by omega)]; exact hH0.1
      · show (x_put (x_put w 143 122 H) 22 15 B).1 143 1 = _
        rw [i143 143 (by omega) (by omega)]; exact hH0.2.1
      · rw [row_off (by omega)]; exact hc0
      · have hR2 := a6 (k + 1) (by omega)
        rw [show (x + 7 - (k + 1)) % 8 = ((x + 7) % 8 + 7 - k) % 8 by omega] at hR2
        refine hR2.congr (fun i hi => ?_) (fun j hj => ?_) (fun j hj => ?_) (by omega) (by omega)
        · show (x_put (x_put w 143 122 H) 22 15 B).1 (i + (145 + 15 * (((x + 7) % 8 + 7 - k) % 8))) = _
          have := Nat.mod_lt ((x + 7) % 8 + 7 - k) (show 0 < 8 by omega)
          rw [i143 _ (by omega) (by omega), hH0.2.2 _ (by omega)]
          exact congrArg w.1 (by omega)
        · rw [hN, if_neg (by omega), si_row, row_off (by omega)]
        · rw [row_off (by omega), si_row, row_off (by omega)]
          exact congrArg (v1.1 5) (by omega)
theorem r_aside : wp (f_X12_layAside v) (fun r => ∃ S, r = x_row v 6 S ∧ ∀ j, j < 41 → S j = v.1 2 (70 + j)) := by
  unfold f_X12_layAside
  refine wp_mono (lp_for (n := 41) (fun i a => ∃ S, a = x_row v 6 S ∧ ∀ j, j < i → S j = v.1 2 (70 + j)) (fun r => ∃ S, r = x_row v 6 S ∧ ∀ j, j < 41 → S j = v.1 2 (70 + j)) (fun K i a hi hP ih => ?_) (fun K a hP => ?_) x_NN v (by unfold x_NN; omega) ⟨v.1 6, row_self.symm, fun k hk => absurd hk (by omega)⟩) (fun r hr => hr)
  · obtain ⟨S, rfl, hS⟩ := hP
    unfold f_X12_layAside_2
    rw [kl_41, if_neg (nI_ge hi (by omega)), kl_70, nI_add, ck_in (by omega) (by omega), ck_in (by omega) (by omega), lt_eq, pa_in (by omega), ga_in (by omega), row_row, row_at, nI_1, show (x_row v 6 S).1 2 = v.1 2 from rfl]
    refine ih _ ⟨_, rfl, fun k hk => ?_⟩
    by_cases c : k = i
    · subst c; rw [up_eq]
    · rw [up_ne c, hS k (by omega)]
  · obtain ⟨S, rfl, hS⟩ := hP
    unfold f_X12_layAside_2
    rw [kl_41, if_pos (nI_le (by omega) (by omega)), wp_some]
    exact ⟨S, rfl, hS⟩
theorem r_takeBack : wp (f_X12_takeBack v) (fun r => ∃ N, r = x_row v 2 N ∧ ∀ j, N j = if 70 ≤ j ∧ j < 111 then v.1 6 (j - 70) else v.1 2 j) := by
  unfold f_X12_takeBack
  refine lp_for (n := 41) (fun i a => ∃ N, a = x_row v 2 N ∧ ∀ j, N j = if 70 ≤ j ∧ j < 70 + i then v.1 6 (j - 70) else v.1 2 j) _ (fun K i a hi hP ih => ?_) (fun K a hP => ?_) x_NN v (by unfold x_NN; omega) ⟨v.1 2, row_self.symm, fun k => by rw [if_neg (by omega)]⟩
  · obtain ⟨S, rfl, hS⟩ := hP
    unfold f_X12_takeBack_2
    rw [kl_41, if_neg (nI_ge hi (by omega)), ck_in (by omega) (by omega), kl_70, nI_add, ck_in (by omega) (by omega), lt_eq, pa_in (by omega), ga_in (by omega), row_row, row_at, nI_1, show (x_row v 2 S).1 6 = v.1 6 from rfl]
    refine ih _ ⟨_, rfl, fun k => ?_⟩
    by_cases c : k = 70 + i
    · subst c
      rw [up_eq, if_pos (by omega)]
      exact congrArg (v.1 6) (by omega)
    · rw [up_ne c, hS]
      by_cases c2 : 70 ≤ k ∧ k < 70 + i
      · rw [if_pos c2, if_pos (by omega)]
      · rw [if_neg c2, if_neg (by omega)]
  · obtain ⟨S, rfl, hS⟩ := hP
    unfold f_X12_takeBack_2
    rw [kl_41, if_pos (nI_le (by omega) (by omega)), wp_some]
    exact ⟨S, rfl, hS⟩
/-- while seeds are tried: the state and what was laid aside are alike -/
def OInv (nS nF nT nW bB : Nat) (cm vm : XM) : Prop := RelN nS nF nT nW bB cm vm ∧ RS nS nF nW bB (vm.1 2) (fun i => cm.1 (i + 128)) (fun j => vm.1 6 j)
theorem odds_step {cm vm : XM} (h : OInv nS nF nT nW bB cm vm) {k : Nat} (hk : k < nW) (x : Int32) : ∃ (r s : Int32 × XM) (vm2 : XM), f_X10_drawHours (x_sub cm 5) 20 x = some r ∧ f_X12_drawHours vm 20 x = some s ∧ r_get 5 (x_sub (x_put cm 5 32 r.2) 31) (nI k) = s.2.1 2 (94 + k) ∧ r_get 5 (x_sub (x_put cm 5 32 r.2) 137) (nI k) = s.2.1 6 (24 + k) ∧ f_X12_takeBack s.2 = some vm2 ∧ OInv nS nF nT nW bB (x_put (x_put cm 5 32 r.2) 22 15 (f_X5_become (x_sub (x_put cm 5 32 r.2) 22) (x_sub (x_put cm 5 32 r.2) 128))) vm2 := by
  have hb := h.1.1.1.1
  obtain ⟨hh, hh1, hh2⟩ := h.1.rw.hourN
  obtain ⟨r, s, e1, e2, q1, q2, q3, q4, q5⟩ := drawHours h.1.rw (N := 20) (by omega) hh1 hh2 x
  obtain ⟨vm2, e3, N, rfl, hN⟩ := r_takeBack (v := s.2)
  have q6 : s.2.1 6 = vm.1 6 := q5.2.1 6 (by omega) (by omega)
  have hBef : RS nS nF nW bB (vm.1 2) (fun i => cm.1 (i + 128)) (fun j => vm.1 6 j) := h.2
  have hm4 : ∀ i, i < 15 → (x_put cm 5 32 r.2).1 (i + 128) = cm.1 (i + 128) := fun i hi => put_out (by omega)
  refine ⟨r, s, _, e1, e2, ?_, ?_, e3, ?_⟩
  · rw [rg_in (by omega) (by omega)]
    show (x_put cm 5 32 r.2).1 32 k = _
    rw [put_inn (by omega)]; exact q3.known hk
  · rw [rg_in (by omega) (by omega), q6]
    show (x_put cm 5 32 r.2).1 138 k = _
    rw [put_out (by omega)]; exact (hBef.2.2.1 k hk).2.2.2.2
  · generalize hB : f_X5_become (x_sub (x_put cm 5 32 r.2) 22) (x_sub (x_put cm 5 32 r.2) 128) = B
    have hB2 : B.2 = (x_sub (x_put cm 5 32 r.2) 22).2 := by rw [← hB]; exact become_2 _ _
    have hst : StEq B.1 (fun i => (x_put cm 5 32 r.2).1 (i + 128)) := by rw [← hB]; exact become_st _ _
    have i22 : ∀ i, i < 15 → (x_put (x_put cm 5 32 r.2) 22 15 B).1 (i + 22) = B.1 i := fun i hi => by rw [put_inn (by omega), Nat.add_sub_cancel]
    have iout : ∀ i, (i < 22 ∨ 37 ≤ i) → i ≠ 5 → (x_put (x_put cm 5 32 r.2) 22 15 B).1 i = cm.1 i := by
      intro i hi h5
      rw [put_out (by omega)]
      by_cases c : i < 37 ∧ 5 ≤ i
      · rw [put_inn (by omega), q4.2 (i - 5) (by simp only [List.mem_cons, List.not_mem_nil, or_false]; omega)]
        show cm.1 (i - 5 + 5) = _
        rw [Nat.sub_add_cancel c.2]
      · rw [put_out (by omega)]
    have hd : ∀ j, j < 70 ∨ 111 ≤ j → N j = vm.1 2 j := fun j hj => by rw [hN, if_neg (by omega)]; exact q5.2.2.2 j hj
    have hS : RS nS nF nW bB N (fun i => (x_put (x_put cm 5 32 r.2) 22 15 B).1 (i + 22)) (fun j => N (70 + j)) := by
      refine ((hBef.congr (cs' := fun i => (x_put cm 5 32 r.2).1 (i + 128)) (fun i hi => hm4 i hi) (fun _ _ => rfl) (fun _ _ => rfl) (by omega) (by omega)).steq (cs' := B.1) hst (by omega) (by omega)).congr (fun i hi => i22 i hi) (fun j hj => hd j (by omega)) (fun j hj => ?_) (by omega) (by omega)
      rw [hN, if_pos (by omega), q6]
      exact congrArg (vm.1 6) (by omega)
    refine ⟨h.1.state ?_ (fun i p p5 _ => iout i (by omega) p5) ⟨by rw [show (x_row s.2 2 N).2 = s.2.2 from rfl, q5.1], by rw [show (x_row s.2 2 N).2 = s.2.2 from rfl, q5.1]⟩ ?_ (fun j p _ => ?_) (fun j p => by rw [row_at]; exact hd j p) (by rw [row_at]; exact hS) ?_, ?_⟩
    · rw [put_2 hB2, put_2 (by rw [q4.1])]
    · simp (disch := omega) only [row_off]
      exact ⟨q5.2.1 1 (by omega) (by omega), q5.2.1 4 (by omega) (by omega), q5.2.1 10 (by omega) (by omega), q5.2.1 12 (by omega) (by omega), q5.2.1 15 (by omega) (by omega), q5.2.1 16 (by omega) (by omega), q5.2.1 18 (by omega) (by omega)⟩
    · rw [row_off (by omega)]; exact q5.2.2.1 j (by unfold vF at p; omega)
    · rw [row_at]
      refine h.1.2.1.congr ⟨by omega, by omega⟩ (fun j hj => hd j (by omega)) (fun i p q => iout i (by omega) (by omega)) ⟨?_, ?_⟩
      · rw [row_off (by omega)]; exact q5.2.1 5 (by omega) (by omega)
      · rw [row_off (by omega)]; exact q5.2.2.1 24 (by omega)
    · rw [row_at]
      refine hBef.congr (fun i hi => iout _ (by omega) (by omega)) (fun j hj => hd j (by omega)) (fun j hj => ?_) (by omega) (by omega)
      rw [row_off (by omega), q6]
theorem b_odds (h : RelN nS nF nT nW bB w v) (x y z : Int32) : R2 (f_X11_odds w x y z) (f_X12_odds v x y z) Both := by
  have h1 := h.th (x := 0)
  have hb := h.1.1.1
  unfold f_X11_odds f_X12_odds
  simp only [lt_eq]
  generalize x_si v 0 0 0 = v1 at h1 ⊢
  rcases h_Walker h1.rw x with ⟨k, hk, rfl, e1, e2⟩ | ⟨-, e1, e2⟩
  · rw [show f_X9_hasWalker (x_sub w 6) (nI k) = 1 from e1, e2, if_neg one0, if_neg one0]
    rcases rng (a := 1) (b := 30) (by omega) (by omega) y with ⟨n, n1, n2, rfl, e3, e4, e5⟩ | ⟨e3, e5⟩
    · rw [if_neg (show ¬ nI n < 1 from e3), if_pos (show nI n ≤ 30 from e4), show f_X12_isIn (nI n) 1 30 = 1 from e5, if_neg one0]
      obtain ⟨hm2, hB⟩ := h1.before
      generalize x_put w 128 15 (f_X5_become (x_sub w 128) (x_sub w 22)) = m2 at hm2 hB ⊢
      obtain ⟨va, e6, S, rfl, hS⟩ := r_aside (v := v1)
      rw [e6, bo_some]
      have hI : OInv nS nF nT nW bB m2 (x_row v1 6 S) := by
        refine ⟨hm2.same rfl (fun _ _ _ => rfl) ⟨rfl, rfl⟩ (by simp (disch := omega) only [row_off, and_self]) (fun j _ => by rw [row_off (by omega)]), ?_⟩
        exact hB.congr (fun _ _ => rfl) (fun j _ => by rw [row_off (by omega)]) (fun j hj => by rw [row_at]; exact hS j hj) (by omega) (by omega)
      refine lp2_ind (fun (K : XM → Int32 → Int32 → Int32 → Int32 → Int32 → Option (Int32 × XM)) (s : XM × XM × Int32 × Int32) => K s.1 (nI k) (nI n) z s.2.2.1 s.2.2.2) (fun (K : XM → Int32 → Int32 → Int32 → Int32 → Int32 → Option (Int32 × XM)) (s : XM × XM × Int32 × Int32) => K s.2.1 (nI k) (nI n) z s.2.2.1 s.2.2.2) (fun m s => ∃ i, i + m = n ∧ s.2.2.2 = nI i ∧ OInv nS nF nT nW bB s.1 s.2.1) Both (fun m K K' s hP ih => ?_) x_NN x_NN n (m2, x_row v1 6 S, 0, 0) (by unfold x_NN; omega) (by unfold x_NN; omega) ⟨0, by omega, rfl, hI⟩
      obtain ⟨a, b, c, d⟩ := s
      obtain ⟨i, g1, g2, g3⟩ := hP
      have g2 : d = nI i := g2
      subst g2
      dsimp only at g3 ⊢
      match m, g1 with
      | 0, g1 =>
        unfold f_X11_odds_47 f_X12_odds_35
        rw [if_pos (nI_le (by omega) (by omega)), if_pos (nI_le (by omega) (by omega))]
        exact R2_some ⟨rfl, g3.1.rel⟩
      | m + 1, g1 =>
        unfold f_X11_odds_47 f_X12_odds_35 f_X11_odds_101 f_X12_odds_79
        rw [if_neg (nI_ge (by omega) (by omega)), if_neg (nI_ge (by omega) (by omega))]
        obtain ⟨r, s, vm2, p1, p2, p3, p4, p5, p6⟩ := odds_step g3 hk (z + nI i)
        rw [p1, p2, bo_some, bo_some, lt_eq, lt_eq, p3, lt_eq, p4, kl_94, nI_add, ck_in (by omega) (by omega), kl_24, nI_add, ck_in (by omega) (by omega), lt_eq, ga_in (by omega), ga_in (by omega), nI_1, p5, bo_some, bo_some]
        simp only [lt_eq]
        by_cases q : (s.2.1 2 (94 + k) &&& (s.2.1 6 (24 + k) ^^^ (-1))) = 0
        · rw [if_pos q, if_pos q]
          exact ih m (_, _, c, nI (i + 1)) (by omega) ⟨i + 1, by omega, rfl, p6⟩
        · rw [if_neg q, if_neg q]
          exact ih m (_, _, c + 1, nI (i + 1)) (by omega) ⟨i + 1, by omega, rfl, p6⟩
    · rw [show f_X12_isIn y 1 30 = 0 from e5, if_pos rfl]
      rcases e3 with e3 | ⟨e3, e4⟩
      · rw [if_pos (show y < 1 from e3)]; exact R2_some ⟨rfl, h1.rel⟩
      · rw [if_neg (show ¬ y < 1 from e3), if_neg (show ¬ y ≤ 30 from e4)]; exact R2_some ⟨rfl, h1.rel⟩
  · rw [show f_X9_hasWalker (x_sub w 6) x = 0 from e1, e2, if_pos rfl, if_pos rfl]
    exact R2_some ⟨rfl, h1.rel⟩
end CU
