-- now, walker, way.
theorem put_rowg {v U : XM} {o n i : Nat} {g : Nat → Int32} (h : i < n) : x_put v o n (x_row U i g) = x_row (x_put v o n U) (i + o) g := by
  refine Prod.ext ?_ rfl
  funext j
  show (if o ≤ j ∧ j < o + n then (if j - o = i then g else U.1 (j - o)) else v.1 j) = if j = i + o then g else (if o ≤ j ∧ j < o + n then U.1 (j - o) else v.1 j)
  by_cases c : o ≤ j ∧ j < o + n
  · rw [if_pos c, if_pos c]
    by_cases c2 : j = i + o
    · rw [if_pos (by omega), if_pos c2]
    · rw [if_neg (by omega), if_neg c2]
  · rw [if_neg c, if_neg c, if_neg (by omega)]
theorem least {P : Nat → Prop} : ∀ n, P n → ∃ m, P m ∧ ∀ k, k < m → ¬ P k := by
  intro n
  induction n using Nat.strongRecOn with
  | ind n ih =>
    intro h
    by_cases c : ∃ k, k < n ∧ P k
    · obtain ⟨k, hk, hp⟩ := c
      exact ih k hk hp
    · exact ⟨n, h, fun k hk hp => c ⟨k, hk, hp⟩⟩
section RD
variable {nS nF nT nW bB : Nat} {w w' v v' : XM}
/-- a change of what the roads keep -/
theorem RelN.rd (h : RelN nS nF nT nW bB w v) (h2 : w'.2 = w.2) (hc : ∀ i, i ≠ 5 → (i = 44 ∨ ¬ scrW i) → i ≠ 300 → i ≠ 308 → i ≠ 312 → i ≠ 314 → w'.1 i = w.1 i) (hv2 : v'.2 7 = v.2 7 ∧ v'.2 9 = v.2 9) (hv : v'.1 1 = v.1 1 ∧ v'.1 2 = v.1 2 ∧ v'.1 4 = v.1 4 ∧ v'.1 5 = v.1 5 ∧ v'.1 10 = v.1 10 ∧ v'.1 16 = v.1 16 ∧ v'.1 18 = v.1 18) (hf : ∀ j, vF j → j ≠ 27 → j ≠ 31 → j ≠ 32 → j ≠ 33 → j ≠ 34 → v'.1 0 j = v.1 0 j) (hR : RRoad w' v') : RelN nS nF nT nW bB w' v' := by
  obtain ⟨a1, a6, a7, a7', a8, a9, a10, -, a12⟩ := h
  have hb := a1.1.1
  refine ⟨a1.congr (fun i p q => hc _ (by omega) (by unfold scrW; omega) (by omega) (by omega) (by omega) (by omega)) (by rw [h2]) (fun i _ => by rw [hv2.1]) (fun j _ => by rw [hv.2.1]), ?_, a7.congr (by omega) (fun i hi => hc _ (by omega) (by unfold scrW; omega) (by omega) (by omega) (by omega) (by omega)) (by rw [h2]) ⟨hv.2.2.2.2.1, hv.2.2.1, hv2.2⟩, a7'.congr (by omega) (fun i hi => hc _ (by omega) (by unfold scrW; omega) (by omega) (by omega) (by omega) (by omega)) (by rw [h2]) ⟨hv.2.2.2.2.1, hv.2.2.1, hv2.2⟩, a8.congr ?_ ?_, a9.congr (by rw [h2]), a10.congr ?_ ?_, hR, a12.congr ?_ ?_⟩
  · rw [hv.2.1]
    exact a6.congr ⟨by omega, by omega⟩ (fun _ _ => rfl) (fun i p q => hc i (by omega) (by unfold scrW; omega) (by omega) (by omega) (by omega) (by omega)) ⟨hv.2.2.2.1, hf 24 (by unfold vF; omega) (by omega) (by omega) (by omega) (by omega) (by omega)⟩
  · rw [hc 1 (by omega) (by unfold scrW; omega) (by omega) (by omega) (by omega) (by omega), hc 3 (by omega) (by unfold scrW; omega) (by omega) (by omega) (by omega) (by omega)]; exact ⟨rfl, rfl, rfl⟩
  · exact ⟨hf 2 (by unfold vF; omega) (by omega) (by omega) (by omega) (by omega) (by omega), hf 10 (by unfold vF; omega) (by omega) (by omega) (by omega) (by omega) (by omega), hv.1⟩
  · exact hc 282 (by omega) (by unfold scrW; omega) (by omega) (by omega) (by omega) (by omega)
  · exact ⟨hf 41 (by unfold vF; omega) (by omega) (by omega) (by omega) (by omega) (by omega), hv.2.2.2.2.2.2⟩
  · rw [hc 315 (by omega) (by unfold scrW; omega) (by omega) (by omega) (by omega) (by omega), hc 317 (by omega) (by unfold scrW; omega) (by omega) (by omega) (by omega) (by omega)]; exact ⟨rfl, rfl⟩
  · exact ⟨hf 36 (by unfold vF; omega) (by omega) (by omega) (by omega) (by omega) (by omega), hv.2.2.2.2.2.1⟩
theorem b_now (h : RelN nS nF nT nW bB w v) (x : Int32) : R2 (f_X11_now w x) (f_X12_now v x) Both := by
  have h1 := h.th (x := 0)
  have hb := h.1.1.1
  unfold f_X11_now f_X12_now
  rw [lt_eq]
  generalize x_si v 0 0 0 = v1 at h1 ⊢
  have r := h1.rw
  by_cases c0 : x = 0
  · rw [if_pos c0, if_pos c0, kl_70, ga_in (by omega)]
    exact R2_some ⟨r.hour, h1.rel⟩
  rw [if_neg c0, if_neg c0]
  by_cases c1 : x = 1
  · rw [if_pos c1, if_pos c1, kl_71, ga_in (by omega)]
    exact R2_some ⟨r.mood, h1.rel⟩
  rw [if_neg c1, if_neg c1]
  by_cases c2 : x = 2
  · rw [if_pos c2, if_pos c2, c_goers r, r_goersAll r, bo_some]
    exact R2_some ⟨rfl, h1.rel⟩
  rw [if_neg c2, if_neg c2]
  by_cases c3 : x = 3
  · rw [if_pos c3, if_pos c3, c_slipped r, r_slipped r, bo_some]
    exact R2_some ⟨rfl, h1.rel⟩
  rw [if_neg c3, if_neg c3]
  by_cases c4 : x = 4
  · rw [if_pos c4, if_pos c4, c_known r, r_known r, bo_some, bo_some]
    exact R2_some ⟨rfl, h1.rel⟩
  rw [if_neg c4, if_neg c4]
  by_cases c5 : x = 5
  · rw [if_pos c5, if_pos c5]
    obtain ⟨a, e3, C, rfl⟩ := c_lost (W := x_sub w 300) r
    obtain ⟨s, e4, G, rfl⟩ := r_lostAll r
    rw [e3, e4, bo_some, lt_eq]
    refine R2_some ⟨rfl, ?_⟩
    show Rel (x_put w 300 15 (x_row (x_sub w 300) 2 C)) (x_row v1 11 G)
    rw [put_row (by omega)]
    exact (h1.scr C G).rel
  rw [if_neg c5, if_neg c5]
  by_cases c6 : x = 6
  · rw [if_pos c6, if_pos c6, c_tiredAll r, r_tiredAll r, bo_some]
    exact R2_some ⟨rfl, h1.rel⟩
  rw [if_neg c6, if_neg c6]
  by_cases c7 : x = 7
  · rw [if_pos c7, if_pos c7, kl_73, ga_in (by omega)]
    exact R2_some ⟨r.gone, h1.rel⟩
  rw [if_neg c7, if_neg c7]
  exact R2_some ⟨rfl, h1.rel⟩
/-- thrown or not, and what -/
def BothT (r : Int32 × Int32 × XM) (s : Int32 × XM) : Prop := f_X12_thrown s.2 = r.1 ∧ (r.1 = 0 → r.2.1 = s.1) ∧ Rel r.2.2 s.2
theorem b_walker (h : RelN nS nF nT nW bB w v) (x y : Int32) : R2 (f_X11_walker w x y) (f_X12_walker v x y) BothT := by
  have h1 := h.th (x := 0)
  have h2 := h1.th (x := 1)
  have hb := h.1.1.1
  have hth : (x_si v 0 0 0).1 0 0 = 0 := by rw [si_row, row_at, up_eq]
  unfold f_X11_walker f_X12_walker
  simp only [lt_eq]
  generalize x_si v 0 0 0 = v1 at h1 h2 hth ⊢
  have r := h1.rw
  have hre : BothT ((1 : Int32), (0 : Int32), w) (f_X12_refuse v1) := ⟨by show (x_si v1 0 0 1).1 0 0 = 1; rw [si_row, row_at, up_eq], fun q => absurd q one0, h2.rel⟩
  rcases h_Walker r x with ⟨k, hk, rfl, e1, e2⟩ | ⟨-, e1, e2⟩
  · rw [show f_X9_hasWalker (x_sub w 6) (nI k) = 1 from e1, e2, if_neg one0, if_neg one0]
    by_cases c0 : y = 0
    · rw [if_pos c0, if_pos c0, rg_in (by omega) (by omega), kl_74, nI_add, ck_in (by omega) (by omega), ga_in (by omega)]
      exact R2_some ⟨hth, fun _ => r.at_ hk, h1.rel⟩
    rw [if_neg c0, if_neg c0]
    by_cases c1 : y = 1
    · rw [if_pos c1, if_pos c1, rg_in (by omega) (by omega), kl_65, nI_add, ck_in (by omega) (by omega), ga_in (by omega)]
      exact R2_some ⟨hth, fun _ => r.pace hk, h1.rel⟩
    rw [if_neg c1, if_neg c1]
    by_cases c2 : y = 2
    · rw [if_pos c2, if_pos c2, rg_in (by omega) (by omega), kl_79, nI_add, ck_in (by omega) (by omega), ga_in (by omega)]
      exact R2_some ⟨hth, fun _ => r.along hk, h1.rel⟩
    rw [if_neg c2, if_neg c2]
    by_cases c3 : y = 3
    · rw [if_pos c3, if_pos c3, rg_in (by omega) (by omega), kl_84, nI_add, ck_in (by omega) (by omega), ga_in (by omega)]
      exact R2_some ⟨hth, fun _ => r.left hk, h1.rel⟩
    rw [if_neg c3, if_neg c3]
    by_cases c4 : y = 4
    · rw [if_pos c4, if_pos c4, rg_in (by omega) (by omega), kl_89, nI_add, ck_in (by omega) (by omega), ga_in (by omega)]
      exact R2_some ⟨hth, fun _ => r.tired hk, h1.rel⟩
    rw [if_neg c4, if_neg c4]
    by_cases c5 : y = 5
    · rw [if_pos c5, if_pos c5, rg_in (by omega) (by omega), kl_94, nI_add, ck_in (by omega) (by omega), ga_in (by omega)]
      exact R2_some ⟨hth, fun _ => r.known hk, h1.rel⟩
    rw [if_neg c5, if_neg c5]
    by_cases c6 : y = 6
    · rw [if_pos c6, if_pos c6]
      obtain ⟨a, e3, C, rfl⟩ := c_lost (W := x_sub w 300) r
      obtain ⟨s, e4, G, rfl⟩ := r_isLost r hk
      rw [e3, e4, bo_some, bo_some, put_row (by omega), b_get (by omega), b_bs (by omega) (by omega), decide_eq_true hk, Bool.true_and]
      have hs := (h1.scr C G).rel
      cases hl : lsB nS v1 k with
      | true => rw [if_neg (show ¬ bI true = 0 by decide)]; exact R2_some ⟨hth, fun _ => rfl, hs⟩
      | false => rw [if_pos bIf]; exact R2_some ⟨hth, fun _ => rfl, hs⟩
    rw [if_neg c6, if_neg c6]
    exact R2_some hre
  · rw [show f_X9_hasWalker (x_sub w 6) x = 0 from e1, e2, if_pos rfl, if_pos rfl]
    exact R2_some hre
end RD
section WY
variable {nS nF nT nW bB : Nat} {u v v' : XM}
/-- FOLD f leads from cur nearer to where D is nought -/
def Nr (v : XM) (p : Nat) (D : Nat → Nat) (f cur : Nat) : Prop := ∃ t k, gEf v p f t cur k ∧ D cur = D t + 100 * k + 1
theorem gEf_sym {p f s t k : Nat} (e : gEf v p f s t k) : gEf v p f t s k := ⟨e.1, e.2.1.symm, e.2.2.2.1, e.2.2.1, e.2.2.2.2⟩
theorem otO_of (h : RW nS nF nT nW bB u v) {p f t cur k : Nat} (hf : f < nF) (e : gEf v p f t cur k) : otO v f (nI cur) = nI t := by
  have hb := h.b
  obtain ⟨a, b, h1, h2, h3, h4, h5, h6⟩ := gEf_ends h hf e
  unfold otO
  rw [h4, h5]
  rcases h6 with ⟨rfl, rfl⟩ | ⟨rfl, rfl⟩
  · rw [if_neg (fun q => h3 (nI_iff (by omega) (by omega) q)), if_pos rfl]
  · rw [if_pos rfl]
theorem of_otO (h : RW nS nF nT nW bB u v) {p f t cur : Nat} (hp : 1 ≤ p) (hp2 : p ≤ 5) (hf : f < nF) (ht : t < nS) (hc : cur < nS) (hs : v.1 2 (99 + f) ≤ 0) (e : otO v f (nI cur) = nI t) : ∃ k, gEf v p f t cur k ∧ hrO v f (nI p) = nI k ∧ 1 ≤ k ∧ k ≤ 9 := by
  have hb := h.b
  obtain ⟨a, b, d, h1, h2, h3, -, -, h4, h5, -⟩ := h.ends hf
  obtain ⟨k, k1, k2, k3⟩ := hrN h hf hp hp2
  refine ⟨k, ⟨hs, ?_, by omega, by omega, k3, by omega⟩, k3, k1, k2⟩
  unfold otO at e
  rw [h4, h5] at e ⊢
  by_cases c : nI a = nI cur
  · rw [if_pos c] at e; exact Or.inr ⟨c, e⟩
  · rw [if_neg c] at e
    by_cases c2 : nI b = nI cur
    · rw [if_pos c2] at e; exact Or.inl ⟨e, c2⟩
    · rw [if_neg c2] at e; exact absurd e.symm (nI_nm1 (by omega))
theorem c_first (h : RW nS nF nT nW bB u v) {W : XM} {p g cur f0 : Nat} {D : Nat → Nat} {C : Nat → Int32} (hp : 1 ≤ p) (hp2 : p ≤ 5) (hD : Dst (gE v nF p) nS g D) (hC : (x_sub W 1).1 1 = C) (hC2 : ∀ s, s < nS → C s = nI (C16 (D s))) (hc : cur < nS) (hl : D cur < 100000) (hf : f0 < nF) (h0 : Nr v p D f0 cur) (hm : ∀ f, f < f0 → ¬ Nr v p D f cur) : f_X2_firstFoldNearer W u (nI cur) (nI p) = some (nI f0) := by
  have hb := h.b
  have hE := gE_EP h hp hp2
  have sc := hD.st hE hb.1 hc hl
  unfold f_X2_firstFoldNearer
  refine lp_eq (n := f0) (fun (K : Int32 → Int32 → Int32 → Option (Int32)) (_ : Unit) i => K (nI cur) (nI p) i) (fun _ a => a) (fun _ => some (nI f0)) ?_ ?_ x_NN () (by show f0 < 1000000; omega)
  · intro K _ f hf'
    show f_X2_firstFoldNearer_3 W u K (nI cur) (nI p) (nI f) = K (nI cur) (nI p) (nI (f + 1))
    unfold f_X2_firstFoldNearer_3 f_X2_firstFoldNearer_79
    rw [show u.1 1 1 = nI nF from h.u1, if_neg (nI_ge (by omega) (by omega)), lt_eq, c_across h (by omega), nI_1]
    rcases otO_cases h (f := f) (s := nI cur) (by omega) with e | ⟨t, ht, e⟩
    · rw [e, if_pos rfl]
    · obtain ⟨sl, sl1, sl2⟩ := h.slpN (f := f) (by omega)
      rw [e, if_neg (nI_nm1 (by omega)), lt_eq, rg_in (by omega) (by omega), show (x_sub u 30).1 1 f = nI sl from (h.slp (by omega)).trans sl2]
      by_cases cs : sl = 0
      · rw [if_pos (show nI sl = 0 by rw [cs]; rfl)]
        obtain ⟨k, k0, k3, k1, k2⟩ := of_otO h hp hp2 (by omega) ht hc (by rw [sl2, cs]; decide) e
        have ec : f_X2_costOf u (nI f) (nI p) = some (nI (16 * k + 1)) := by
          unfold f_X2_costOf
          rw [c_hoursOn h (by omega) hp (by omega), k3, bo_some, kl_16, pk_mul, nI_1, Nat.mul_comm]
        rw [lt_eq, rg_in (by omega) (by omega), ec, bo_some, lt_eq, rg_in (by omega) (by omega), hC, hC2 t ht, hC2 cur hc, nI_add]
        have hne : ¬ D cur = D t + 100 * k + 1 := fun q => hm f hf' ⟨t, k, k0, q⟩
        have hb1 : C16 (D cur) ≤ 1048576 := C16_le _ sc.1
        have hb2 : C16 (D t) ≤ 1048576 := by
          by_cases q : D t < 100000
          · exact C16_le _ (hD.st hE hb.1 ht q).1
          · rw [C16_ge q]; omega
        rw [if_neg (fun q => by
          have q := nI_iff (by omega) (by omega) q
          rw [C16_lt hl] at q
          by_cases ct : D t < 100000
          · have := hD.st hE hb.1 ht ct
            rw [C16_lt ct] at q
            omega
          · rw [C16_ge ct] at q
            omega)]
      · rw [if_neg (show ¬ nI sl = 0 from nI_ne0 (by omega) (by omega))]
  · intro K _
    show f_X2_firstFoldNearer_3 W u K (nI cur) (nI p) (nI f0) = _
    obtain ⟨t, k, e, q⟩ := h0
    obtain ⟨q1, q2, q3, q4, q5, q6⟩ := hE t cur k ⟨f0, hf, e⟩
    obtain ⟨sl, sl1, sl2⟩ := h.slpN (f := f0) hf
    have cs : sl = 0 := by
      have := e.1
      rw [sl2] at this
      rcases Nat.eq_zero_or_pos sl with z | z
      · exact z
      · exact absurd this (nI_nle z (by omega))
    have ec : f_X2_costOf u (nI f0) (nI p) = some (nI (16 * k + 1)) := by
      unfold f_X2_costOf
      rw [c_hoursOn h hf hp (by omega), e.2.2.2.2.1, bo_some, kl_16, pk_mul, nI_1, Nat.mul_comm]
    have st := hD.st hE hb.1 q1 (show D t < 100000 by omega)
    unfold f_X2_firstFoldNearer_3
    rw [show u.1 1 1 = nI nF from h.u1, if_neg (nI_ge (by omega) (by omega)), lt_eq, c_across h hf, otO_of h hf e, if_neg (nI_nm1 (by omega)), lt_eq, rg_in (by omega) (by omega), show (x_sub u 30).1 1 f0 = nI sl from (h.slp hf).trans sl2, if_pos (show nI sl = 0 by rw [cs]; rfl), lt_eq, rg_in (by omega) (by omega), ec, bo_some, lt_eq, rg_in (by omega) (by omega), hC, hC2 t q1, hC2 cur hc, nI_add, if_pos (congrArg nI (by rw [C16_lt hl, C16_lt (show D t < 100000 by omega)]; omega))]
end WY
