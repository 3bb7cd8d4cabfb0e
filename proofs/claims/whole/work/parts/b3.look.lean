-- inns, the call.
def dn : Nat → Int32
  | 0 => -1
  | n + 1 => nI n
theorem dn_s (n : Nat) : dn (n + 1) + (-1) = dn n := by
  match n with
  | 0 => decide
  | k + 1 => exact pk_m1 k
theorem full_bt : ∀ n, n < 9 → ∀ g, g < n → bt (nI (2 ^ n - 1)) g = true := by decide +kernel
theorem sh8 : ∀ n, n < 9 → (1 : Int32) <<< (nI n &&& 31) = nI (2 ^ n) ∧ (1 : Int32) <<< (nI n &&& 31) - 1 = nI (2 ^ n - 1) ∧ 0 < 2 ^ n ∧ 2 ^ n ≤ 256 := by decide
/-- b is best of those from i on, or below i -/
def Bs (en : Nat → Bool) (i j b : Nat) : Prop := ∀ k, i ≤ k → k < j → en k = true → p8 b < p8 k ∨ (p8 b = p8 k ∧ b ≤ k)
section BI
variable {nS nF nT nW bB : Nat} {u w v m M : XM}
theorem c_inns (h : RW nS nF nT nW bB u v) {q : Nat} (hq : q ≤ 99) (W : XM) : wp (f_X2_findInns W u (nI q)) (fun r => Fr [0, 2, 6, 10] W r.2 ∧ (∀ j, j ≠ 10 → r.2.1 0 j = W.1 0 j) ∧ (r.1 = 9 ∧ (∀ k, k < 2 ^ nS → enB v nS q k = false) ∨ ∃ b, b < 2 ^ nS ∧ enB v nS q b = true ∧ r.1 = nI (p8 b) ∧ r.2.1 0 10 = nI b ∧ Bs (enB v nS q) 0 (2 ^ nS) b)) := by
  have hb := h.b
  obtain ⟨s1, s2, s3, s4⟩ := sh8 nS (by omega)
  obtain ⟨M0, e0, f0, f6⟩ := c_spreadAll (W := W) (p := 1) h (by omega) (by omega)
  unfold f_X2_findInns
  rw [kl_1, e0, bo_some]
  refine lp_fora (σ := XM) (n := nS) (fun (K : XM → Int32 → Int32 → Option (Int32 × XM)) a c => K a (nI q) c) (fun i a => Fr [2, 6, 10] W a ∧ (∀ g s, g < nS → s < nS → a.1 6 (8 * g + s) = nI (cH (farO v g 1 s))) ∧ ∀ g, g < i → a.1 10 g = bs (fun t => decide (cH (farO v g 1 t) ≤ q)) nS) _ ?_ ?_ x_NN M0 (by show nS < 1000000; omega) ⟨f0.mono (fun i hi => by simp at hi ⊢; omega), f6, fun g hg => absurd hg (Nat.not_lt_zero _)⟩
  · rintro K i a hi ⟨h1, h2, h3⟩ ih
    show wp (f_X2_findInns_14 u K a (nI q) (nI i)) _
    unfold f_X2_findInns_14
    rw [show u.1 1 0 = nI nS from h.u0, if_neg (nI_ge hi (by omega)), c_within h h2 hi hq, bo_some, lt_eq, put_rput (by omega) (by omega), lt_eq, nI_1]
    refine ih _ ⟨h1.row (by simp), fun g s hg hs => by rw [row_off (by omega)]; exact h2 g s hg hs, fun g hg => ?_⟩
    rw [row_at]
    by_cases c : g = i
    · subst c; rw [up_eq]
    · rw [up_ne c]; exact h3 g (by omega)
  · rintro K a ⟨h1, h2, h3⟩
    show wp (f_X2_findInns_14 u K a (nI q) (nI nS)) _
    unfold f_X2_findInns_14
    rw [show u.1 1 0 = nI nS from h.u0, if_pos (nI_le (Nat.le_refl _) (by omega))]
    refine lp_fora (σ := XM × Int32) (n := 2 ^ nS) (fun (K : XM → Int32 → Int32 → Option (Int32 × XM)) z c => K z.1 z.2 c) (fun i z => Fr [0, 2, 6, 10] W z.1 ∧ (∀ j, j ≠ 10 → z.1.1 0 j = W.1 0 j) ∧ (∀ g, g < nS → z.1.1 10 g = bs (fun t => decide (cH (farO v g 1 t) ≤ q)) nS) ∧ (z.2 = 9 ∧ (∀ k, k < i → enB v nS q k = false) ∨ ∃ b, b < i ∧ enB v nS q b = true ∧ z.2 = nI (p8 b) ∧ z.1.1 0 10 = nI b ∧ Bs (enB v nS q) 0 i b)) _ ?_ ?_ x_NN (a, 9) (by show 2 ^ nS < 1000000; omega) ⟨h1.mono (fun i hi => by simp at hi ⊢; omega), fun j _ => by rw [h1.2 0 (by simp)], h3, Or.inl ⟨rfl, fun k hk => absurd hk (Nat.not_lt_zero _)⟩⟩
    · rintro K i ⟨a, l4⟩ hi ⟨g1, g2, g3, g4⟩ ih
      dsimp only at g1 g2 g3 g4
      show wp (f_X2_findInns_53 u K a l4 (nI i)) _
      have hp := p8_le i
      unfold f_X2_findInns_53 f_X2_findInns_103
      rw [show u.1 1 0 = nI nS from h.u0, s1, if_neg (nI_ge hi (by omega)), lt_eq, c_bits i (by omega), nI_1, show u.1 1 5 = v.1 2 5 from h.u5, c_enough h g3, bo_some]
      have fin : ∀ (P : Prop), (P → False) → P → False := fun _ f x => f x
      rcases g4 with ⟨z1, z2⟩ | ⟨b, z1, z2, z3, z4, z5⟩
      · rw [z1, if_neg (show ¬ (9 : Int32) ≤ nI (p8 i) from nI_ge (b := 9) (by omega) (by omega))]
        cases c : enB v nS q i with
        | false =>
          rw [if_pos bIf]
          refine ih (a, 9) ⟨g1, g2, g3, Or.inl ⟨rfl, fun k hk => ?_⟩⟩
          by_cases ck : k = i
          · rw [ck]; exact c
          · exact z2 k (by omega)
        | true =>
          rw [if_neg (show ¬ bI true = 0 by decide), lt_eq, si_row]
          refine ih (x_row a 0 (up (a.1 0) 10 (nI i)), nI (p8 i)) ⟨g1.row (by simp), fun j hj => by rw [row_at, up_ne hj]; exact g2 j hj, g3, Or.inr ⟨i, by omega, c, rfl, by rw [row_at, up_eq], fun k _ hk he => ?_⟩⟩
          by_cases ck : k = i
          · exact Or.inr ⟨by rw [ck], by omega⟩
          · rw [z2 k (by omega)] at he; exact absurd he ft
      · rw [z3]
        have hp2 := p8_le b
        by_cases c1 : p8 b ≤ p8 i
        · rw [if_pos (nI_le c1 (by omega))]
          refine ih (a, nI (p8 b)) ⟨g1, g2, g3, Or.inr ⟨b, by omega, z2, rfl, z4, fun k _ hk he => ?_⟩⟩
          by_cases ck : k = i
          · rw [ck]; omega
          · exact z5 k (by omega) (by omega) he
        · rw [if_neg (fun y => c1 (by rw [nI_leI (by omega) (by omega)] at y; exact y))]
          cases c : enB v nS q i with
          | false =>
            rw [if_pos bIf]
            refine ih (a, nI (p8 b)) ⟨g1, g2, g3, Or.inr ⟨b, by omega, z2, rfl, z4, fun k _ hk he => ?_⟩⟩
            by_cases ck : k = i
            · rw [ck, c] at he; exact absurd he ft
            · exact z5 k (by omega) (by omega) he
          | true =>
            rw [if_neg (show ¬ bI true = 0 by decide), lt_eq, si_row]
            refine ih (x_row a 0 (up (a.1 0) 10 (nI i)), nI (p8 i)) ⟨g1.row (by simp), fun j hj => by rw [row_at, up_ne hj]; exact g2 j hj, g3, Or.inr ⟨i, by omega, c, rfl, by rw [row_at, up_eq], fun k _ hk he => ?_⟩⟩
            by_cases ck : k = i
            · exact Or.inr ⟨by rw [ck], by omega⟩
            · have := z5 k (by omega) (by omega) he
              omega
    · rintro K ⟨a, l4⟩ ⟨g1, g2, g3, g4⟩
      show wp (f_X2_findInns_53 u K a l4 (nI (2 ^ nS))) _
      unfold f_X2_findInns_53
      rw [show u.1 1 0 = nI nS from h.u0, s1, if_pos (nI_le (Nat.le_refl _) (by omega)), wp_some]
      exact ⟨g1, g2, g4⟩
theorem en_full (h : RW nS nF nT nW bB u v) {q : Nat} : enB v nS q (2 ^ nS - 1) = true := by
  have hb := h.b
  refine (alB_iff nS).mpr (fun g hg => (anB_iff nS).mpr ⟨g, hg, ?_⟩)
  rw [b_or, full_bt nS (by omega) g hg, (far_D h (p := 1) (by omega) (by omega) hg).2.1]
  show ((true || _) && decide (cH 0 ≤ q)) = true
  rw [Bool.true_or, Bool.true_and]
  exact decide_eq_true (by rw [show cH 0 = 0 from rfl]; omega)
theorem r_inns (h : RW nS nF nT nW bB u v) {q : Nat} (hq : q ≤ 99) (em : m.1 2 = v.1 2) (h13 : ∀ g s, g < nS → s < nS → m.1 13 (8 * s + g) = nI (hN (farO v g 1 s))) : wp (x_lp (φ := XM → Int32 → Int32 → Int32 → Option (Int32 × XM)) (fun _ _ _ _ => none) (f_X12_inns_35) x_NN m (nI q) (nI (2 ^ nS - 1)) (nI (2 ^ nS - 1))) (fun r => ∃ b, b < 2 ^ nS ∧ enB v nS q b = true ∧ r = (nI (p8 b), x_si m 0 33 (nI b)) ∧ Bs (enB v nS q) 0 (2 ^ nS) b) := by
  have hb := h.b
  obtain ⟨s1, s2, s3, s4⟩ := sh8 nS (by omega)
  have hs : nI (2 ^ nS - 1) = dn (2 ^ nS) := by
    obtain ⟨x, hx⟩ : ∃ x, 2 ^ nS = x + 1 := ⟨2 ^ nS - 1, by omega⟩
    rw [hx]; rfl
  refine lp_ind (σ := Int32 × Int32) (fun (K : XM → Int32 → Int32 → Int32 → Option (Int32 × XM)) s => K m (nI q) s.1 s.2) (fun i s => i ≤ 2 ^ nS ∧ s.2 = dn i ∧ ∃ b, b < 2 ^ nS ∧ enB v nS q b = true ∧ s.1 = nI b ∧ Bs (enB v nS q) i (2 ^ nS) b) _ ?_ x_NN (2 ^ nS) (nI (2 ^ nS - 1), nI (2 ^ nS - 1)) (by show 2 ^ nS < 1000000; omega) ⟨Nat.le_refl _, hs, 2 ^ nS - 1, by omega, en_full h, rfl, fun k h1 h2 => by omega⟩
  rintro i K ⟨_, _⟩ ⟨hi, hd, b, b1, b2, b3, b4⟩ ih
  dsimp only at hd b3
  subst hd b3
  show wp (f_X12_inns_35 K m (nI q) (nI b) (dn i)) _
  unfold f_X12_inns_35 f_X12_inns_61
  match i, hi, b4, ih with
  | 0, _, b4, _ =>
    rw [if_pos (show dn 0 < 0 by decide), lt_eq, r_bits (by omega), bo_some, wp_some]
    exact ⟨b, b1, b2, rfl, b4⟩
  | k + 1, hi, b4, ih =>
    have p1 := p8_le b
    have p2 := p8_le k
    rw [if_neg (show ¬ dn (k + 1) < 0 from nI_pos (by omega)), dn_s]
    show wp (x_bo (f_X12_bits (nI k)) _) _
    rw [r_bits (by omega), bo_some, r_bits (by omega), bo_some]
    by_cases c : p8 b < p8 k
    · rw [if_pos (nI_lt c (by omega))]
      refine ih k (nI b, dn k) (by omega) ⟨by omega, rfl, b, b1, b2, rfl, fun k' h1 h2 he => ?_⟩
      by_cases ck : k' = k
      · rw [ck]; exact Or.inl c
      · exact b4 k' (by omega) h2 he
    · rw [if_neg (fun y => c (by rw [nI_ltI (by omega) (by omega)] at y; exact y))]
      show wp (x_bo (f_X12_areServed m (nI k) (nI q)) _) _
      rw [r_served h em h13 hq, bo_some]
      cases ce : enB v nS q k with
      | false =>
        rw [if_pos bIf]
        refine ih k (nI b, dn k) (by omega) ⟨by omega, rfl, b, b1, b2, rfl, fun k' h1 h2 he => ?_⟩
        by_cases ck : k' = k
        · rw [ck, ce] at he; exact absurd he ft
        · exact b4 k' (by omega) h2 he
      | true =>
        rw [if_neg (show ¬ bI true = 0 by decide)]
        refine ih k (nI k, dn k) (by omega) ⟨by omega, rfl, k, by omega, ce, rfl, fun k' h1 h2 he => ?_⟩
        by_cases ck : k' = k
        · rw [ck]; exact Or.inr ⟨rfl, Nat.le_refl _⟩
        · have := b4 k' (by omega) h2 he
          omega
theorem b_inns (h : RelN nS nF nT nW bB w v) (x : Int32) : R2 (f_X11_inns w x) (f_X12_inns v x) Both := by
  have h1 := h.th (x := 0)
  have hb := h.1.1.1
  obtain ⟨s1, s2, s3, s4⟩ := sh8 nS (by omega)
  unfold f_X11_inns f_X12_inns
  simp only [lt_eq]
  generalize x_si v 0 0 0 = v1 at h1 ⊢
  have r := h1.rw
  rcases rng (a := 0) (b := 99) (by omega) (by omega) x with ⟨q, n1, n2, rfl, e3, e4, e5⟩ | ⟨e3, e5⟩
  · rw [if_neg (show ¬ nI q < 0 from e3), if_neg (show ¬ (99 : Int32) < nI q from Int32.not_lt.mpr e4), show f_X12_isIn (nI q) 0 99 = 1 from e5, if_neg one0]
    obtain ⟨a, f1, g1, g2, g3⟩ := c_inns r n2 (x_sub w 300)
    obtain ⟨m, f2, k1, k2⟩ := r_layApart r (p := 1) (by omega) (by omega)
    have em : m.1 2 = v1.1 2 := k1.2 2 (by simp)
    rw [f1, bo_some, show f_X12_layApart v1 1 = some m from f2, bo_some, show x_ga m 2 (0 : Int32) = nI nS from by rw [kl_0, ga_in (by omega), em]; exact r.v0, s2]
    obtain ⟨b', f3, b, b1, b2, rfl, b3⟩ := (show ∃ y, _ = some y ∧ _ from r_inns r n2 em k2)
    rw [f3]
    rcases g3 with ⟨-, z⟩ | ⟨c, c1, c2, c3, c4, c5⟩
    · rw [z b b1] at b2; exact absurd b2 ft
    · have y1 := c5 b (by omega) b1 b2
      have y2 := b3 c (by omega) c1 c2
      obtain rfl : c = b := by omega
      refine R2_some ⟨c3, (road_end h1 (g1.mono (fun i hi => by simp at hi ⊢; omega)) ((k1.mono (fun i hi => by simp at hi ⊢; omega)).si (by simp)) (fun j a b c => g2 j b) (fun j a b c => ?_) ⟨?_, ?_, ?_⟩).rel⟩
      · rw [si_row, row_at, up_ne b, k1.2 0 (by simp)]
      · rw [g2 9 (by omega), si_row, row_at, up_ne (by omega), k1.2 0 (by simp)]; exact h1.road.2.2.1.1
      · rw [c4, si_row, row_at, up_eq]
      · rw [g2 11 (by omega), si_row, row_at, up_ne (by omega), k1.2 0 (by simp)]; exact h1.road.2.2.1.2.2
  · rw [show f_X12_isIn x 0 99 = 0 from e5, if_pos rfl]
    rcases e3 with e3 | ⟨e3, e4⟩
    · rw [if_pos (show x < 0 from e3)]; exact R2_some ⟨rfl, h1.rel⟩
    · rw [if_neg (show ¬ x < 0 from e3), if_pos (show (99 : Int32) < x from Int32.not_le.mp e4)]; exact R2_some ⟨rfl, h1.rel⟩
end BI
