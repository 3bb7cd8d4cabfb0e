-- The class plans the orders.
section PO
variable {nS nF nT nW bB : Nat} {u v : XM}
/-- the class's tables, as far as they go -/
def PT (v : XM) (nS nT p tm i : Nat) (M : XM) : Prop := (∀ g s, g < nS → s < nS → M.1 6 (8 * g + s) = nI (cH (farO v g p s))) ∧ (∀ s, s < 8 → M.1 8 s = 0) ∧ ∀ k, k < i → subI k tm → ∀ s, s < nS → M.1 8 (8 * k + s) = nI (TC_ v nT p k s)
theorem fC_le (h : RW nS nF nT nW bB u v) {p k s t : Nat} (hk : k < 2 ^ nT) (ht : t < nT) (hbt : bt (nI k) t = true) : fC v nT p k s t ≤ 65536 * pcN k := by
  have hb := h.b
  have h64 := p2_64 hb.2.2.1
  have b1 := (m_bit k (by omega) t (by omega) hbt).1
  have b2 := p2_pos t
  have h1 := cH_le (farO v s p (ysN v t))
  have h2 := TC_le h (p := p) (m := k - 2 ^ t) (s := ysN v t) (by omega)
  have b3 := pc_m k (by omega) t (by omega) hbt
  unfold fC
  omega
theorem c_hoursBy (h : RW nS nF nT nW bB u v) {M : XM} {p tm i k s t : Nat} (hM : PT v nS nT p tm i M) (hk : k < 2 ^ nT) (hki : k ≤ i) (hsub : subI k tm) (hs : s < nS) (ht : t < nT) (hbt : bt (nI k) t = true) : f_X2_hoursByFirst M (x_sub u 1) (nI k) (nI s) (nI t) = nI (fC v nT p k s t) := by
  have hb := h.b
  have h64 := p2_64 hb.2.2.1
  obtain ⟨y1, y2⟩ := ysN_s h ht
  obtain ⟨b1, b2⟩ := m_bit k (by omega) t (by omega) hbt
  have b3 := p2_pos t
  unfold f_X2_hoursByFirst f_X2_farFrom
  simp only [lt_eq]
  rw [rg_in (by omega) (by omega), show (x_sub (x_sub u 1) 9).1 1 t = nI (ysN v t) from (h.thg ht).trans y2, b2, kl_8, pk_mul, nI_add, pk_mul, nI_add, rg_in (by omega) (by omega), rg_in (by omega) (by omega), show (x_sub M 5).1 1 (s * 8 + ysN v t) = nI (cH (farO v s p (ysN v t))) from by rw [Nat.mul_comm]; exact hM.1 s _ hs y1, show (x_sub M 7).1 1 ((k - 2 ^ t) * 8 + ysN v t) = nI (TC_ v nT p (k - 2 ^ t) (ysN v t)) from by rw [Nat.mul_comm]; exact hM.2.2 _ (by omega) (subI_m (by omega) (by omega) hbt hsub) _ y1, nI_add]
  rfl
theorem c_firstOf (h : RW nS nF nT nW bB u v) {M : XM} {p tm i k s : Nat} (hM : PT v nS nT p tm i M) (hk : k < 2 ^ nT) (hki : k ≤ i) (hsub : subI k tm) (hs : s < nS) : f_X2_firstOf M (x_sub u 1) (nI k) (nI s) = some (nI (fi (fun t => bt (nI k) t) (fC v nT p k s) nT).1) := by
  have hb := h.b
  have h64 := p2_64 hb.2.2.1
  unfold f_X2_firstOf
  refine wp_eq.mp (lp_fora (σ := Int32 × Int32) (n := nT) (fun (K : Int32 → Int32 → Int32 → Int32 → Int32 → Option (Int32)) a c => K (nI k) (nI s) a.1 a.2 c) (fun i a => a = (nI (fi (fun t => bt (nI k) t) (fC v nT p k s) i).1, nI (fi (fun t => bt (nI k) t) (fC v nT p k s) i).2)) _ ?_ ?_ x_NN (0, 458752) (by show nT < 1000000; omega) rfl)
  · rintro K t _ ht rfl ih
    show wp (f_X2_firstOf_10 M (x_sub u 1) K (nI k) (nI s) _ _ (nI t)) _
    have l1 := fi_mv (p := fun t => bt (nI k) t) (f := fC v nT p k s) t
    have l2 := (mv_le (p := fun t => bt (nI k) t) (f := fC v nT p k s) (z := 458752) t).1
    unfold f_X2_firstOf_10 f_X2_firstOf_55
    rw [show (x_sub u 1).1 0 2 = nI nT from h.u2, if_neg (nI_ge ht (by omega)), b_get (by omega), nI_1]
    cases c : bt (nI k) t with
    | false =>
      rw [if_neg (show ¬ bI false = 1 by decide)]
      refine ih _ ?_
      show _ = (nI (if bt (nI k) t = true then _ else _ : Nat × Nat).1, nI (if bt (nI k) t = true then _ else _ : Nat × Nat).2)
      rw [c, if_neg ft]
    | true =>
      have l3 := fC_le h (p := p) (s := s) hk ht c
      have l4 := pc_le k
      rw [if_pos (show bI true = 1 from rfl), c_hoursBy h hM hk hki hsub hs ht c, lt_eq]
      by_cases c2 : (fi (fun t => bt (nI k) t) (fC v nT p k s) t).2 ≤ fC v nT p k s t
      · rw [if_pos (nI_le c2 (by omega))]
        refine ih _ ?_
        show _ = (nI (if bt (nI k) t = true then _ else _ : Nat × Nat).1, nI (if bt (nI k) t = true then _ else _ : Nat × Nat).2)
        rw [if_pos c, if_pos c2]
      · rw [if_neg (fun q => c2 (by rw [nI_leI (by omega) (by omega)] at q; exact q))]
        refine ih (nI t, nI (fC v nT p k s t)) ?_
        show _ = (nI (if bt (nI k) t = true then _ else _ : Nat × Nat).1, nI (if bt (nI k) t = true then _ else _ : Nat × Nat).2)
        rw [if_pos c, if_neg c2]
  · rintro K _ rfl
    show wp (f_X2_firstOf_10 M (x_sub u 1) K (nI k) (nI s) _ _ (nI nT)) _
    unfold f_X2_firstOf_10
    rw [show (x_sub u 1).1 0 2 = nI nT from h.u2, if_pos (nI_le (Nat.le_refl _) (by omega)), wp_some]
/-- the first of the best orders: where it lies and what it takes -/
theorem first_at (h : RW nS nF nT nW bB u v) {p k s : Nat} (hk : k < 2 ^ nT) (h0 : k ≠ 0) : (fi (fun t => bt (nI k) t) (fC v nT p k s) nT).1 < nT ∧ bt (nI k) (fi (fun t => bt (nI k) t) (fC v nT p k s) nT).1 = true ∧ fC v nT p k s (fi (fun t => bt (nI k) t) (fC v nT p k s) nT).1 = TC_ v nT p k s ∧ ∀ t, t < (fi (fun t => bt (nI k) t) (fC v nT p k s) nT).1 → bt (nI k) t = true → fC v nT p k s t ≠ TC_ v nT p k s := by
  have hb := h.b
  have h64 := p2_64 hb.2.2.1
  obtain ⟨t, ht, hp⟩ := m_some nT (by omega) k hk h0
  have l1 := fi_mv (p := fun t => bt (nI k) t) (f := fC v nT p k s) nT
  have l2 : mv (fun t => bt (nI k) t) (fC v nT p k s) 458752 nT ≤ fC v nT p k s t := (mv_le (p := fun t => bt (nI k) t) (f := fC v nT p k s) (z := 458752) nT).2 t ht hp
  have l3 := fC_le h (p := p) (s := s) hk ht hp
  have l5 := pc_le k
  have l4 := TC_s (v := v) (p := p) (s := s) hb.2.2.1 (show k < 64 by omega) h0
  have key := fi_at (p := fun t => bt (nI k) t) (f := fC v nT p k s) nT (by omega)
  rw [l1, ← l4] at key
  exact key
theorem c_plan (h : RW nS nF nT nW bB u v) {M : XM} {p tm : Nat} (hM : PT v nS nT p tm 1 M) (htm : tm < 2 ^ nT) : wp (f_X2_planOrders M (x_sub u 1) (nI tm)) (fun r => Fr [8] M r ∧ PT v nS nT p tm (tm + 1) r) := by
  have hb := h.b
  have h64 := p2_64 hb.2.2.1
  unfold f_X2_planOrders
  refine lp_from (σ := XM) (n := tm + 1) (i0 := 1) (fun (K : XM → Int32 → Int32 → Option (XM)) a c => K a (nI tm) c) (fun i a => 1 ≤ i ∧ Fr [8] M a ∧ PT v nS nT p tm i a) _ ?_ ?_ (by omega) x_NN M (by show tm + 1 < 1000000; omega) ⟨Nat.le_refl _, Fr.rf, hM⟩
  · rintro K k a hk ⟨c0, h1, h2⟩ ih
    show wp (f_X2_planOrders_2 (x_sub u 1) K a (nI tm) (nI k)) _
    unfold f_X2_planOrders_2
    rw [if_neg (fun q => by rw [nI_ltI (by omega) (by omega)] at q; omega)]
    by_cases c : subI k tm
    · rw [if_pos (show nI k &&& (nI tm ^^^ -1) = 0 from c)]
      · refine lp_fora (σ := XM) (n := nS) (fun (K : XM → Int32 → Int32 → Int32 → Option (XM)) a c => K a (nI tm) (nI k) c) (fun i a => Fr [8] M a ∧ PT v nS nT p tm k a ∧ ∀ s, s < i → a.1 8 (8 * k + s) = nI (TC_ v nT p k s)) _ ?_ ?_ x_NN a (by show nS < 1000000; omega) ⟨h1, h2, fun s hs => absurd hs (Nat.not_lt_zero _)⟩
        · rintro K' s a hs ⟨g1, g2, g3⟩ ih'
          show wp (f_X2_planOrders_18 (x_sub u 1) K K' a (nI tm) (nI k) (nI s)) _
          obtain ⟨f1, f2, f3, -⟩ := first_at h (p := p) (s := s) (show k < 2 ^ nT by omega) (show k ≠ 0 by omega)
          unfold f_X2_planOrders_18
          rw [show (x_sub u 1).1 0 0 = nI nS from h.u0, if_neg (nI_ge hs (by omega)), c_firstOf h g2 (by omega) (Nat.le_refl _) c hs, bo_some, c_hoursBy h g2 (by omega) (Nat.le_refl _) c hs f1 f2, f3, lt_eq, kl_8, pk_mul, nI_add, lt_eq, put_rput (by omega) (by omega), lt_eq, nI_1]
          refine ih' _ ⟨g1.row (by simp), ⟨fun g s' hg hs' => by rw [row_off (by omega)]; exact g2.1 g s' hg hs', fun s' hs' => ?_, fun k' hk' hsub s' hs' => ?_⟩, fun s' hs' => ?_⟩
          · rw [row_at, up_ne (by omega)]; exact g2.2.1 s' hs'
          · rw [row_at, up_ne (by omega)]; exact g2.2.2 k' hk' hsub s' hs'
          · rw [row_at]
            by_cases ci : s' = s
            · subst ci; rw [show k * 8 + s' = 8 * k + s' by omega, up_eq]
            · rw [up_ne (by omega)]; exact g3 s' (by omega)
        · rintro K' a ⟨g1, g2, g3⟩
          show wp (f_X2_planOrders_18 (x_sub u 1) K K' a (nI tm) (nI k) (nI nS)) _
          unfold f_X2_planOrders_18 f_X2_planOrders_67
          rw [show (x_sub u 1).1 0 0 = nI nS from h.u0, if_pos (nI_le (Nat.le_refl _) (by omega)), nI_1]
          refine ih a ⟨by omega, g1, g2.1, g2.2.1, fun k' hk' hsub s hs => ?_⟩
          by_cases ck : k' = k
          · subst ck; exact g3 s hs
          · exact g2.2.2 k' (by omega) hsub s hs
    · rw [if_neg (show ¬ nI k &&& (nI tm ^^^ -1) = 0 from c)]
      unfold f_X2_planOrders_67
      rw [nI_1]
      refine ih a ⟨by omega, h1, h2.1, h2.2.1, fun k' hk' hsub s hs => ?_⟩
      by_cases ck : k' = k
      · subst ck; exact absurd hsub c
      · exact h2.2.2 k' (by omega) hsub s hs
  · rintro K a ⟨-, h1, h2⟩
    show wp (f_X2_planOrders_2 (x_sub u 1) K a (nI tm) (nI (tm + 1))) _
    unfold f_X2_planOrders_2
    rw [if_pos (nI_lt (by omega) (by omega)), wp_some]
    exact ⟨h1, h2⟩
end PO
