-- The history: kept states, on both sides.
theorem put_out {v u : XM} {o n i : Nat} (h : ¬ (o ≤ i ∧ i < o + n)) : (x_put v o n u).1 i = v.1 i := if_neg h
theorem put_inn {v u : XM} {o n i : Nat} (h : o ≤ i ∧ i < o + n) : (x_put v o n u).1 i = u.1 (i - o) := if_pos h
theorem put_2 {v u : XM} {o n : Nat} (h : u.2 = (x_sub v o).2) : (x_put v o n u).2 = v.2 := by
  funext i
  show (if o ≤ i ∧ i < o + n then u.2 (i - o) else v.2 i) = v.2 i
  by_cases c : o ≤ i ∧ i < o + n
  · rw [if_pos c, h]
    show v.2 (i - o + o) = _
    rw [Nat.sub_add_cancel c.1]
  · rw [if_neg c]
theorem si_self {v : XM} {i k : Nat} {x : Int32} (h : v.1 i k = x) : x_si v i k x = v := by
  refine Prod.ext ?_ rfl
  funext a b
  show (if a = i ∧ b = k then x else v.1 a b) = v.1 a b
  by_cases c : a = i ∧ b = k
  · rw [if_pos c, c.1, c.2, h]
  · rw [if_neg c]
theorem become_2 (v0 v1 : XM) : (f_X5_become v0 v1).2 = v0.2 := by
  simp only [f_X5_become, lt_eq, put_bec, Nat.reduceAdd, si_row]
  rfl
section KP
variable {nS nF nW bB : Nat} {w v h b : XM}
theorem keep_o {x m o : Nat} (ho : 2 ≤ o) (hx : x < 8) (h1 : h.1 0 1 = nI x) (hm : m ≤ 8) (h2 : h.1 0 2 = nI m) : x_lt (f_X5_become (x_sub h o) b) (fun y1 => x_lt (x_put h o 15 y1) (fun m2 => x_lt (((m2.1 0 1) + (1 : Int32)) - ((m2.1 0 1) + (1 : Int32)) / (8 : Int32) * (8 : Int32)) (fun y3 => x_lt (x_si m2 0 1 y3) (fun m4 => if ((8 : Int32) : Int32) ≤ (m4.1 0 2) then (m4) else (x_lt (x_si m4 0 2 ((m4.1 0 2) + (1 : Int32))) (fun m5 => m5)))))) = x_si (x_si (x_put h o 15 (f_X5_become (x_sub h o) b)) 0 1 (nI ((x + 1) % 8))) 0 2 (nI (if m = 8 then 8 else m + 1)) := by
  simp only [lt_eq]
  have e1 : (x_put h o 15 (f_X5_become (x_sub h o) b)).1 0 = h.1 0 := put_out (by omega)
  rw [e1, h1, nI_1, kl_8, pk_rem (by omega) (by omega) (by omega)]
  have e2 : (x_si (x_put h o 15 (f_X5_become (x_sub h o) b)) 0 1 (nI ((x + 1) % 8))).1 0 2 = nI m := by
    rw [si_row, row_at, up_ne (by omega), e1, h2]
  rw [e2]
  by_cases c : m = 8
  · subst c
    rw [if_pos (nI_le (by omega) (by omega)), if_pos rfl, si_self e2]
  · rw [if_neg (nI_ge (by omega) (by omega)), if_neg c, nI_1]
theorem keep_eq {x m : Nat} (hx : x < 8) (h1 : h.1 0 1 = nI x) (hm : m ≤ 8) (h2 : h.1 0 2 = nI m) : f_X1_keep h b = x_si (x_si (x_put h (2 + 15 * x) 15 (f_X5_become (x_sub h (2 + 15 * x)) b)) 0 1 (nI ((x + 1) % 8))) 0 2 (nI (if m = 8 then 8 else m + 1)) := by
  unfold f_X1_keep
  rcases (show x = 0 ∨ x = 1 ∨ x = 2 ∨ x = 3 ∨ x = 4 ∨ x = 5 ∨ x = 6 ∨ x = 7 by omega) with rfl | rfl | rfl | rfl | rfl | rfl | rfl | rfl
  · rw [if_pos (show h.1 0 1 = 0 from h1)]
    exact keep_o (by omega) hx h1 hm h2
  · rw [if_neg (by rw [h1]; decide), if_pos (show h.1 0 1 = 1 from h1)]
    exact keep_o (by omega) hx h1 hm h2
  · rw [if_neg (by rw [h1]; decide), if_neg (by rw [h1]; decide), if_pos (show h.1 0 1 = 2 from h1)]
    exact keep_o (by omega) hx h1 hm h2
  · rw [if_neg (by rw [h1]; decide), if_neg (by rw [h1]; decide), if_neg (by rw [h1]; decide), if_pos (show h.1 0 1 = 3 from h1)]
    exact keep_o (by omega) hx h1 hm h2
  · rw [if_neg (by rw [h1]; decide), if_neg (by rw [h1]; decide), if_neg (by rw [h1]; decide), if_neg (by rw [h1]; decide), if_pos (show h.1 0 1 = 4 from h1)]
    exact keep_o (by omega) hx h1 hm h2
  · rw [if_neg (by rw [h1]; decide), if_neg (by rw [h1]; decide), if_neg (by rw [h1]; decide), if_neg (by rw [h1]; decide), if_neg (by rw [h1]; decide), if_pos (show h.1 0 1 = 5 from h1)]
    exact keep_o (by omega) hx h1 hm h2
  · rw [if_neg (by rw [h1]; decide), if_neg (by rw [h1]; decide), if_neg (by rw [h1]; decide), if_neg (by rw [h1]; decide), if_neg (by rw [h1]; decide), if_neg (by rw [h1]; decide), if_pos (show h.1 0 1 = 6 from h1)]
    exact keep_o (by omega) hx h1 hm h2
  · rw [if_neg (by rw [h1]; decide), if_neg (by rw [h1]; decide), if_neg (by rw [h1]; decide), if_neg (by rw [h1]; decide), if_neg (by rw [h1]; decide), if_neg (by rw [h1]; decide), if_neg (by rw [h1]; decide), if_pos (show h.1 0 1 = 7 from h1)]
    exact keep_o (by omega) hx h1 hm h2
/-- the reference's kept states -/
def SnapV (v v' : XM) : Prop := v'.2 = v.2 ∧ (∀ i, i ≠ 0 → i ≠ 5 → v'.1 i = v.1 i) ∧ ∀ j, j ≠ 24 → v'.1 0 j = v.1 0 j
theorem r_snap49 {m : Nat} (hm : v.1 0 24 = nI m) (h8 : m < 8) : wp (f_X12_snap_49 v) (fun r => ∃ S, r = x_si (x_row v 5 S) 0 24 (nI (m + 1)) ∧ ∀ k, S k = if 41 * m ≤ k ∧ k < 41 * m + 41 then v.1 2 (70 + (k - 41 * m)) else v.1 5 k) := by
  unfold f_X12_snap_49
  refine lp_for (n := 41) (fun i a => ∃ S, a = x_row v 5 S ∧ ∀ k, S k = if 41 * m ≤ k ∧ k < 41 * m + i then v.1 2 (70 + (k - 41 * m)) else v.1 5 k) _ (fun K i a hi hP ih => ?_) (fun K a hP => ?_) x_NN v (by unfold x_NN; omega) ⟨v.1 5, row_self.symm, fun k => by rw [if_neg (by omega)]⟩
  · obtain ⟨S, rfl, hS⟩ := hP
    unfold f_X12_snap_51
    rw [kl_41, if_neg (nI_ge hi (by omega)), kl_70, nI_add, ck_in (by omega) (by omega), show (x_row v 5 S).1 0 24 = nI m from hm, pk_mul, nI_add, ck_in (by omega) (by omega), lt_eq, pa_in (by omega), ga_in (by omega), row_row, row_at, nI_1, show (x_row v 5 S).1 2 = v.1 2 from rfl]
    refine ih _ ⟨_, rfl, fun k => ?_⟩
    by_cases c : k = 41 * m + i
    · subst c
      rw [up_eq, if_pos (by omega)]
      exact congrArg (v.1 2) (by omega)
    · rw [up_ne c, hS]
      by_cases c2 : 41 * m ≤ k ∧ k < 41 * m + i
      · rw [if_pos c2, if_pos (by omega)]
      · rw [if_neg c2, if_neg (by omega)]
  · obtain ⟨S, rfl, hS⟩ := hP
    unfold f_X12_snap_51
    rw [kl_41, if_pos (nI_le (by omega) (by omega)), lt_eq, show (x_row v 5 S).1 0 24 = nI m from hm, nI_1, wp_some]
    exact ⟨S, rfl, hS⟩
theorem r_snap {m : Nat} (hm : v.1 0 24 = nI m) (h8 : m ≤ 8) : wp (f_X12_snap v) (fun r => SnapV v r ∧ r.1 0 24 = nI (if m = 8 then 8 else m + 1) ∧ (∀ q j, q < (if m = 8 then 7 else m) → j < 41 → r.1 5 (41 * q + j) = v.1 5 (41 * (if m = 8 then q + 1 else q) + j)) ∧ ∀ j, j < 41 → r.1 5 (41 * (if m = 8 then 7 else m) + j) = v.1 2 (70 + j)) := by
  unfold f_X12_snap
  by_cases c : m = 8
  · subst c
    rw [if_pos (by rw [hm]; rfl)]
    have h1 : wp (x_lp (φ := XM → Int32 → Option XM) (fun _ _ => none) f_X12_snap_11 x_NN v 0) (fun r => ∃ v1, (∃ S, v1 = x_si (x_row v 5 S) 0 24 (nI 7) ∧ ∀ k, S k = if k < 287 then v.1 5 (k + 41) else v.1 5 k) ∧ ∃ S, r = x_si (x_row v1 5 S) 0 24 (nI 8) ∧ ∀ k, S k = if 41 * 7 ≤ k ∧ k < 41 * 7 + 41 then v1.1 2 (70 + (k - 41 * 7)) else v1.1 5 k) := by
      refine lp_for (n := 287) (fun i a => ∃ S, a = x_row v 5 S ∧ ∀ k, S k = if k < i then v.1 5 (k + 41) else v.1 5 k) _ (fun K i a hi hP ih => ?_) (fun K a hP => ?_) x_NN v (by unfold x_NN; omega) ⟨v.1 5, row_self.symm, fun k => by rw [if_neg (by omega)]⟩
      · obtain ⟨S, rfl, hS⟩ := hP
        unfold f_X12_snap_11
        rw [kl_287, if_neg (nI_ge hi (by omega)), kl_41, nI_add, ck_in (by omega) (by omega), ck_in (by omega) (by omega), lt_eq, pa_in (by omega), ga_in (by omega), row_row, row_at, nI_1]
        refine ih _ ⟨_, rfl, fun k => ?_⟩
        by_cases c : k = i
        · subst c
          rw [up_eq, if_pos (by omega), hS, if_neg (by omega)]
        · rw [up_ne c, hS]
          by_cases c2 : k < i
          · rw [if_pos c2, if_pos (by omega)]
          · rw [if_neg c2, if_neg (by omega)]
      · obtain ⟨S, rfl, hS⟩ := hP
        unfold f_X12_snap_11
        rw [kl_287, if_pos (nI_le (by omega) (by omega)), lt_eq, show (x_row v 5 S).1 0 24 = nI 8 from hm, show nI 8 - 1 = nI 7 from by decide]
        obtain ⟨r, e, S2, e2, e3⟩ := r_snap49 (v := x_si (x_row v 5 S) 0 24 (nI 7)) (m := 7) (by rw [si_row, row_at, up_eq]) (by omega)
        exact ⟨r, e, _, ⟨S, rfl, hS⟩, S2, e2, e3⟩
    refine wp_mono h1 (fun r hr => ?_)
    obtain ⟨v1, ⟨S, rfl, hS⟩, S2, rfl, hS2⟩ := hr
    refine ⟨⟨rfl, fun i a b => ?_, fun j a => ?_⟩, ?_, fun q j hq hj => ?_, fun j hj => ?_⟩
    · rw [si_row, row_off a, row_off b, si_row, row_off a, row_off b]
    · rw [si_row, row_at, up_ne a, row_off (by omega), si_row, row_at, up_ne a, row_off (by omega)]
    · rw [si_row, row_at, up_eq, if_pos rfl]
    · rw [if_pos rfl] at hq
      rw [if_pos rfl, si_row, row_off (by omega), row_at, hS2, if_neg (by omega), si_row, row_off (by omega), row_at, hS, if_pos (by omega)]
      exact congrArg (v.1 5) (by omega)
    · rw [if_pos rfl, si_row, row_off (by omega), row_at, hS2, if_pos (by omega), si_row, row_off (by omega), row_off (by omega)]
      exact congrArg (v.1 2) (by omega)
  · rw [if_neg (by rw [hm]; intro q; exact c (nI_iff (by omega) (by omega) q))]
    refine wp_mono (r_snap49 hm (by omega)) (fun r hr => ?_)
    obtain ⟨S, rfl, hS⟩ := hr
    refine ⟨⟨rfl, fun i a b => ?_, fun j a => ?_⟩, ?_, fun q j hq hj => ?_, fun j hj => ?_⟩
    · rw [si_row, row_off a, row_off b]
    · rw [si_row, row_at, up_ne a, row_off (by omega)]
    · rw [si_row, row_at, up_eq, if_neg c]
    · rw [if_neg c] at hq
      rw [if_neg c, si_row, row_off (by omega), row_at, hS, if_neg (by omega)]
    · rw [if_neg c, si_row, row_off (by omega), row_at, hS, if_pos (by omega)]
      exact congrArg (v.1 2) (by omega)
/-- one more state kept -/
theorem hist_keep {hd : Nat → Int32} (hb : nF ≤ 12 ∧ nW ≤ 5) (hH : RHist nS nF nW bB hd w v) (hB : RS nS nF nW bB hd (fun i => w.1 (i + 128)) (fun j => v.1 2 (70 + j))) : (f_X1_keep (x_sub w 143) (x_sub w 128)).2 = (x_sub w 143).2 ∧ wp (f_X12_snap v) (fun v' => SnapV v v' ∧ RHist nS nF nW bB hd (x_put w 143 122 (f_X1_keep (x_sub w 143) (x_sub w 128))) v') := by
  obtain ⟨m, x, h1, h2, h3, h4, h5, h6⟩ := hH
  have hk := keep_eq (h := x_sub w 143) (b := x_sub w 128) h2 (show (x_sub w 143).1 0 1 = nI x from h4) h1 (show (x_sub w 143).1 0 2 = nI m from h3)
  have hk2 : (f_X1_keep (x_sub w 143) (x_sub w 128)).2 = (x_sub w 143).2 := by
    rw [hk]
    show (x_put _ _ _ _).2 = _
    exact put_2 (become_2 _ _)
  refine ⟨hk2, wp_mono (r_snap h5 h1) (fun v' hv' => ?_)⟩
  obtain ⟨g1, g2, g3, g4⟩ := hv'
  generalize hK : f_X1_keep (x_sub w 143) (x_sub w 128) = K at hk ⊢
  have hin : ∀ i, 143 ≤ i → i < 265 → (x_put w 143 122 K).1 i = K.1 (i - 143) := fun i a b => put_inn (by omega)
  have hst : StEq (fun i => (x_put w 143 122 K).1 (i + (145 + 15 * x))) (fun i => w.1 (i + 128)) := by
    have e := become_st (x_sub (x_sub w 143) (2 + 15 * x)) (x_sub w 128)
    have r : ∀ i, i < 15 → (x_put w 143 122 K).1 (i + (145 + 15 * x)) = (f_X5_become (x_sub (x_sub w 143) (2 + 15 * x)) (x_sub w 128)).1 i := by
      intro i hi
      rw [hin _ (by omega) (by omega), hk, si_row, row_off (by omega), si_row, row_off (by omega), put_inn (by omega)]
      exact congrArg (f_X5_become (x_sub (x_sub w 143) (2 + 15 * x)) (x_sub w 128)).1 (by omega)
    obtain ⟨a1, a2, a3⟩ := e
    refine ⟨fun j hj => ?_, fun j hj => ?_, fun j hj => ?_⟩
    · show (x_put w 143 122 K).1 (0 + (145 + 15 * x)) j = _
      rw [r 0 (by omega)]; exact a1 j hj
    · show (x_put w 143 122 K).1 (2 + (145 + 15 * x)) j = _ ∧ (x_put w 143 122 K).1 (4 + (145 + 15 * x)) j = _ ∧ (x_put w 143 122 K).1 (6 + (145 + 15 * x)) j = _ ∧ (x_put w 143 122 K).1 (8 + (145 + 15 * x)) j = _ ∧ (x_put w 143 122 K).1 (10 + (145 + 15 * x)) j = _
      rw [r 2 (by omega), r 4 (by omega), r 6 (by omega), r 8 (by omega), r 10 (by omega)]; exact a2 j hj
    · show (x_put w 143 122 K).1 (12 + (145 + 15 * x)) j = _ ∧ (x_put w 143 122 K).1 (14 + (145 + 15 * x)) j = _
      rw [r 12 (by omega), r 14 (by omega)]; exact a3 j hj
  have hoff : ∀ s i, s < 8 → s ≠ x → i < 15 → (x_put w 143 122 K).1 (i + (145 + 15 * s)) = w.1 (i + (145 + 15 * s)) := by
    intro s i a c d
    rw [hin _ (by omega) (by omega), hk, si_row, row_off (by omega), si_row, row_off (by omega), put_out (by omega)]
    show w.1 (i + (145 + 15 * s) - 143 + 143) = _
    exact congrArg w.1 (by omega)
  refine ⟨g1, (if m = 8 then 8 else m + 1), (x + 1) % 8, by split <;> omega, Nat.mod_lt _ (by omega), ?_, ?_, g2, fun k hkm => ?_⟩
  · rw [hin 143 (by omega) (by omega), hk, si_row, row_at, up_eq]
  · rw [hin 143 (by omega) (by omega), hk, si_row, row_at, up_ne (by omega), si_row, row_at, up_eq]
  · have hm8 : (if m = 8 then 8 else m + 1) - 1 = if m = 8 then 7 else m := by split <;> omega
    match k with
    | 0 =>
      rw [show ((x + 1) % 8 + 7 - 0) % 8 = x by omega, Nat.sub_zero, hm8]
      refine (hB.congr (fun _ _ => rfl) (fun _ _ => rfl) (fun j hj => g4 j hj) hb.1 hb.2).steq hst hb.1 hb.2
    | k + 1 =>
      have hk7 : k < m ∧ k + 1 < 8 := by
        by_cases c : m = 8
        · rw [if_pos c] at hkm; omega
        · rw [if_neg c] at hkm; omega
      have hs : ((x + 1) % 8 + 7 - (k + 1)) % 8 = (x + 7 - k) % 8 := by omega
      rw [hs]
      refine (h6 k hk7.1).congr (fun i hi => hoff _ i (Nat.mod_lt _ (by omega)) (by omega) hi) (fun _ _ => rfl) (fun j hj => ?_) hb.1 hb.2
      by_cases c : m = 8
      · have := g3 (7 - (k + 1)) j (by rw [if_pos c]; omega) hj
        rw [if_pos c, show 8 - 1 - (k + 1) = 7 - (k + 1) by omega, this, if_pos c]
        exact congrArg (v.1 5) (by omega)
      · have := g3 (m - (k + 1)) j (by rw [if_neg c]; omega) hj
        rw [if_neg c, show m + 1 - 1 - (k + 1) = m - (k + 1) by omega, this, if_neg c]
        exact congrArg (v.1 5) (by omega)
end KP
