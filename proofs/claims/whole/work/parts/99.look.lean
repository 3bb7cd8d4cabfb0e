-- The class lays how far.
theorem lp_from {φ σ β : Type} (ap : φ → σ → Int32 → Option β) {z : φ} {b : φ → φ} {n i0 : Nat} (P : Nat → σ → Prop) (Q : β → Prop) (h : ∀ (K : φ) (i : Nat) (a : σ), i < n → P i a → (∀ a', P (i + 1) a' → wp (ap K a' (nI (i + 1))) Q) → wp (ap (b K) a (nI i)) Q) (he : ∀ (K : φ) (a : σ), P n a → wp (ap (b K) a (nI n)) Q) (h0 : i0 ≤ n) : ∀ (fu : Nat) (a : σ), n < fu → P i0 a → wp (ap (x_lp z b fu) a (nI i0)) Q := by
  intro fu a hf hp
  refine lp_ind (fun (K : φ) (s : σ × Int32) => ap K s.1 s.2) (fun m s => ∃ i, i + m = n ∧ s.2 = nI i ∧ P i s.1) Q (fun m K s hs ih => ?_) fu (n - i0) (a, nI i0) (by omega) ⟨i0, by omega, rfl, hp⟩
  obtain ⟨i, h1, h2, h3⟩ := hs
  obtain ⟨a, c⟩ := s
  have h2 : c = nI i := h2
  subst h2
  match m, h1 with
  | 0, h1 => obtain rfl : i = n := by omega
             exact he K a h3
  | m + 1, h1 => exact h K i a (by omega) h3 (fun a' ha' => ih m (a', nI (i + 1)) (by omega) ⟨i + 1, by omega, rfl, ha'⟩)
/-- how the class writes how far -/
def C16 (d : Nat) : Nat := if d < 100000 then 16 * (d / 100) + d % 100 else 1048576
theorem fill_row {n : Nat} {v : XM} {x : Int32} : r_fill n v x = x_row v 1 (bec n (v.1 1) (fun _ => x)) := by
  refine Prod.ext ?_ rfl
  funext i j
  show (if i = 1 ∧ j < n then x else v.1 i j) = (if i = 1 then bec n (v.1 1) (fun _ => x) else v.1 i) j
  by_cases c : i = 1
  · subst c
    rw [if_pos rfl]
    show _ = if j < n then x else v.1 1 j
    by_cases c2 : j < n
    · rw [if_pos ⟨rfl, c2⟩, if_pos c2]
    · rw [if_neg (fun q => c2 q.2), if_neg c2]
  · rw [if_neg (fun q => c q.1), if_neg c]
def lwc (c : Nat → Nat) (a b w : Nat) : Nat → Nat := fun j => if j = b then (if c b ≤ c a + w then c b else c a + w) else c j
theorem lwc_le {c : Nat → Nat} {a b w : Nat} (j : Nat) : lwc c a b w j ≤ c j := by
  unfold lwc
  by_cases q : j = b
  · subst q; rw [if_pos rfl]; split <;> omega
  · rw [if_neg q]; omega
theorem lwc_at {c : Nat → Nat} {a b w : Nat} : lwc c a b w b ≤ c a + w := by
  unfold lwc
  rw [if_pos rfl]; split <;> omega
theorem c_lower {w0 : XM} {C : Nat → Int32} {c : Nat → Nat} {a b w : Nat} (hC : ∀ j, j < 8 → C j = nI (c j)) (hc : ∀ j, j < 8 → c j ≤ 1048576) (ha : a < 8) (hb : b < 8) (hw : w < 1000) : ∃ C', f_X2_lower (x_row w0 1 C) (nI a) (nI b) (nI w) = x_row w0 1 C' ∧ ∀ j, j < 8 → C' j = nI (lwc c a b w j) := by
  have h1 := hc a ha
  have h2 := hc b hb
  unfold f_X2_lower
  rw [lt_eq, lt_eq, rg_in hb (by omega), rg_in ha (by omega), row_at, hC a ha, hC b hb, nI_add]
  by_cases q : c b ≤ c a + w
  · rw [if_pos (nI_le q (by omega))]
    refine ⟨C, rfl, fun j hj => ?_⟩
    unfold lwc
    by_cases q2 : j = b
    · subst q2; rw [if_pos rfl, if_pos q]; exact hC j hj
    · rw [if_neg q2]; exact hC j hj
  · rw [if_neg (fun z => q (by rw [nI_leI (by omega) (by omega)] at z; exact z)), lt_eq, rp_in hb (by omega), row_row, row_at]
    refine ⟨_, rfl, fun j hj => ?_⟩
    unfold lwc
    by_cases q2 : j = b
    · subst q2; rw [if_pos rfl, if_neg q, up_eq]
    · rw [if_neg q2, up_ne q2]; exact hC j hj
theorem Dst.lt {E : Nat → Nat → Nat → Prop} {n g : Nat} {D : Nat → Nat} (hE : EP E n) (h : Dst E n g D) {s : Nat} (hs : s < n) (hD : D s < 100000) : D s % 100 < n := by
  have r := rk_lt (D := D) hs
  rcases Dst.rank hE h (D s + 1) s (by omega) hs hD with ⟨z1, z2⟩ | ⟨z1, z2, -⟩
  · rw [z2]; omega
  · omega
section SP
variable {nS nF nT nW bB : Nat} {u v : XM}
/-- what holds of the costs while they spread -/
def CIn (v : XM) (nS nF p r i : Nat) (D c : Nat → Nat) : Prop := (∀ j, j < 8 → c j ≤ 1048576) ∧ (∀ s, s < nS → C16 (D s) ≤ c s) ∧ (∀ s, s < nS → D s < 100000 → D s % 100 ≤ r → c s ≤ C16 (D s)) ∧ ∀ f, f < i → ∀ s t k, gEf v p f s t k → D s < 100000 → D s % 100 ≤ r → c t ≤ C16 (D s) + 16 * k + 1
theorem C16_lt {d : Nat} (h : d < 100000) : C16 d = 16 * (d / 100) + d % 100 := if_pos h
theorem C16_ge {d : Nat} (h : ¬ d < 100000) : C16 d = 1048576 := if_neg h
theorem C16_le (d : Nat) (h : d % 100 ≤ 7) : C16 d ≤ 1048576 := by
  unfold C16; split <;> omega
theorem CIn_low {p r i g f a b k : Nat} {D c : Nat → Nat} (h : RW nS nF nT nW bB u v) (hp : 1 ≤ p) (hp2 : p ≤ 5) (hD : Dst (gE v nF p) nS g D) (hf : f < nF) (e : gEf v p f a b k) (hc : CIn v nS nF p r i D c) : CIn v nS nF p r i D (lwc c a b (16 * k + 1)) := by
  obtain ⟨c1, c2, c3, c4⟩ := hc
  have hE := gE_EP h hp hp2
  have hb := h.b
  obtain ⟨q1, q2, q3, q4, q5, q6⟩ := hE a b k ⟨f, hf, e⟩
  refine ⟨fun j hj => Nat.le_trans (lwc_le j) (c1 j hj), fun s hs => ?_, fun s hs hl hr => Nat.le_trans (lwc_le s) (c3 s hs hl hr), fun f' hf' s t k' e' hl hr => Nat.le_trans (lwc_le t) (c4 f' hf' s t k' e' hl hr)⟩
  by_cases cs : s = b
  · subst cs
    have h1 := c2 s hs
    have h2 := c2 a q1
    show _ ≤ if s = s then (if c s ≤ c a + (16 * k + 1) then c s else c a + (16 * k + 1)) else c s
    rw [if_pos rfl]
    by_cases cl : c s ≤ c a + (16 * k + 1)
    · rw [if_pos cl]; exact h1
    · rw [if_neg cl]
      by_cases ca : D a < 100000
      · have f1 := hD.fix hE hb.1 ⟨f, hf, e⟩ ca
        have f2 := hD.st hE hb.1 q1 ca
        have f3 := hD.st hE hb.1 hs f1.2
        rw [C16_lt ca] at h2
        rw [C16_lt f1.2]
        omega
      · rw [C16_ge ca] at h2
        by_cases cs : D s < 100000
        · have f3 := hD.st hE hb.1 hs cs
          rw [C16_lt cs]; omega
        · rw [C16_ge cs]; omega
  · show _ ≤ if s = b then _ else c s
    rw [if_neg cs]; exact c2 s hs
theorem spread_in {p r g : Nat} {D : Nat → Nat} {w0 v0 : XM} {k17 : XM → Int32 → Int32 → Option XM} {Q : XM → Prop} {l5 : Int32} (h : RW nS nF nT nW bB u v) (hp : 1 ≤ p) (hp2 : p ≤ 5) (hD : Dst (gE v nF p) nS g D) (hk : ∀ C c, (∀ j, j < 8 → C j = nI (c j)) → CIn v nS nF p r nF D c → wp (k17 (x_row w0 1 C) (nI p) (l5 + 1)) Q) {C : Nat → Int32} {c : Nat → Nat} (hC : ∀ j, j < 8 → C j = nI (c j)) (hc : CIn v nS nF p r 0 D c) : wp (x_lp (φ := XM → Int32 → Int32 → Int32 → Option (XM)) (fun _ _ _ _ => none) (f_X2_spread_32 v0 u k17) x_NN (x_row w0 1 C) (nI p) l5 0) Q := by
  have hb := h.b
  refine lp_fora (σ := XM) (n := nF) (fun (K : XM → Int32 → Int32 → Int32 → Option (XM)) s c => K s (nI p) l5 c) (fun i s => ∃ C c, s = x_row w0 1 C ∧ (∀ j, j < 8 → C j = nI (c j)) ∧ CIn v nS nF p r i D c) Q ?_ ?_ x_NN _ (by show nF < 1000000; omega) ⟨C, c, rfl, hC, hc⟩
  · rintro K f w hf ⟨C, c, rfl, hC, hc⟩ ih
    show wp (f_X2_spread_32 v0 u k17 K (x_row w0 1 C) (nI p) l5 (nI f)) Q
    obtain ⟨sl, sl1, sl2⟩ := h.slpN hf
    obtain ⟨k, k1, k2, k3⟩ := hrN h hf hp hp2
    obtain ⟨a, b, d, h1, h2, h3, -, -, h4, h5, -⟩ := h.ends hf
    unfold f_X2_spread_32
    rw [show u.1 1 1 = nI nF from h.u1, if_neg (nI_ge hf (by omega)), lt_eq, rg_in (by omega) (by omega), show (x_sub u 30).1 1 f = nI sl from (h.slp hf).trans sl2]
    by_cases cs : sl = 0
    · have e1 : gEf v p f a b k := ⟨by rw [sl2, cs]; decide, Or.inl ⟨h4, h5⟩, by omega, by omega, k3, by omega⟩
      have e2 : gEf v p f b a k := ⟨by rw [sl2, cs]; decide, Or.inr ⟨h4, h5⟩, by omega, by omega, k3, by omega⟩
      rw [if_pos (show nI sl = 0 by rw [cs]; rfl)]
      have ec : f_X2_costOf u (nI f) (nI p) = some (nI (16 * k + 1)) := by
        unfold f_X2_costOf
        rw [c_hoursOn h hf hp (by omega), k3, bo_some, kl_16, pk_mul, nI_1, Nat.mul_comm]
      have d1 := CIn_low h hp hp2 hD hf e1 hc
      have d2 := CIn_low h hp hp2 hD hf e2 d1
      rw [ec, bo_some, lt_eq, lt_eq, rg_in (by omega) (by omega), rg_in (by omega) (by omega), show (x_sub u 2).1 1 f = nI a from (h.one hf).trans h4, show (x_sub u 4).1 1 f = nI b from (h.oth hf).trans h5]
      obtain ⟨C1, g1, g2⟩ := c_lower (w0 := w0) (w := 16 * k + 1) hC hc.1 (show a < 8 by omega) (show b < 8 by omega) (by omega)
      rw [g1]
      simp only [lt_eq]
      obtain ⟨C2, g3, g4⟩ := c_lower (w0 := w0) (w := 16 * k + 1) g2 d1.1 (show b < 8 by omega) (show a < 8 by omega) (by omega)
      rw [g3]
      unfold f_X2_spread_130
      rw [nI_1]
      refine ih _ ⟨C2, _, rfl, g4, d2.1, d2.2.1, d2.2.2.1, fun f' hf' s t k' e' hl hr => ?_⟩
      by_cases cf : f' = f
      · subst cf
        have c3 := hc.2.2.1
        obtain ⟨a', b', x1, x2, -, y1, y2, y3⟩ := gEf_ends h hf e'
        have ea : a = a' := nI_iff (by omega) (by omega) (h4.symm.trans y1)
        have eb : b = b' := nI_iff (by omega) (by omega) (h5.symm.trans y2)
        rcases y3 with ⟨y3, y4⟩ | ⟨y3, y4⟩
        · have hs : s = a := y3.trans ea.symm
          have ht : t = b := y4.trans eb.symm
          subst hs ht
          obtain ⟨-, hk⟩ := gEf_uniq h hf e1 e'
          have := c3 s h1 hl hr
          have l1 := lwc_le (c := lwc c s t (16 * k + 1)) (a := t) (b := s) (w := 16 * k + 1) t
          have l2 := lwc_at (c := c) (a := s) (b := t) (w := 16 * k + 1)
          omega
        · have hs : s = b := y3.trans eb.symm
          have ht : t = a := y4.trans ea.symm
          subst hs ht
          obtain ⟨-, hk⟩ := gEf_uniq h hf e2 e'
          have := c3 s h2 hl hr
          have l1 := lwc_le (c := c) (a := t) (b := s) (w := 16 * k + 1) s
          have l2 := lwc_at (c := lwc c t s (16 * k + 1)) (a := s) (b := t) (w := 16 * k + 1)
          omega
      · exact d2.2.2.2 f' (by omega) s t k' e' hl hr
    · rw [if_neg (show ¬ nI sl = 0 from nI_ne0 (by omega) (by omega))]
      unfold f_X2_spread_130
      rw [nI_1]
      refine ih _ ⟨C, c, rfl, hC, hc.1, hc.2.1, hc.2.2.1, fun f' hf' s t k' e' hl hr => ?_⟩
      by_cases cf : f' = f
      · subst cf
        have := e'.1
        rw [sl2] at this
        exact absurd this (nI_nle (by omega) (by omega))
      · exact hc.2.2.2 f' (by omega) s t k' e' hl hr
  · rintro K w ⟨C, c, rfl, hC, hc⟩
    show wp (f_X2_spread_32 v0 u k17 K (x_row w0 1 C) (nI p) l5 (nI nF)) Q
    unfold f_X2_spread_32
    rw [show u.1 1 1 = nI nF from h.u1, if_pos (nI_le (Nat.le_refl _) (by omega))]
    exact hk C c hC hc
theorem c_spread {p g : Nat} {D : Nat → Nat} {v0 w0 : XM} (h : RW nS nF nT nW bB u v) (hp : 1 ≤ p) (hp2 : p ≤ 5) (hg : g < nS) (hD : Dst (gE v nF p) nS g D) : wp (f_X2_spread v0 u w0 (nI g) (nI p)) (fun r => ∃ C, r = x_row w0 1 C ∧ ∀ s, s < nS → C s = nI (C16 (D s))) := by
  have hb := h.b
  have hE := gE_EP h hp hp2
  unfold f_X2_spread
  rw [lt_eq, lt_eq, fill_row, rp_in (by omega) (by omega), row_row, row_at]
  refine lp_from (σ := XM) (n := nS) (i0 := 1) (fun (K : XM → Int32 → Int32 → Option (XM)) s c => K s (nI p) c) (fun i s => ∃ C c, s = x_row w0 1 C ∧ (∀ j, j < 8 → C j = nI (c j)) ∧ CIn v nS nF p (i - 1) 0 D c) _ ?_ ?_ (by omega) x_NN _ (by show nS < 1000000; omega) ⟨_, (fun j => if j = g then 0 else 1048576), rfl, fun j hj => ?_, fun j _ => ?_, fun s hs => ?_, fun s hs hl hr => ?_, fun f hf => absurd hf (Nat.not_lt_zero _)⟩
  · rintro K i w hi ⟨C, c, rfl, hC, hc⟩ ih
    show wp (f_X2_spread_17 v0 u K (x_row w0 1 C) (nI p) (nI i)) _
    unfold f_X2_spread_17
    rw [show u.1 1 0 = nI nS from h.u0, if_neg (nI_ge hi (by omega))]
    refine spread_in (r := i - 1) h hp hp2 hD (fun C c hC hc => ?_) hC hc
    rw [nI_1]
    refine ih _ ⟨C, c, rfl, hC, hc.1, hc.2.1, fun s hs hl hr => ?_, fun f hf => absurd hf (Nat.not_lt_zero _)⟩
    obtain ⟨-, -, q⟩ := hD.st hE hb.1 hs hl
    rcases q with ⟨q1, q2⟩ | ⟨q1, q2, t, k, ⟨f, hf, e⟩, e2, e3, e4, e5, e6, e7, e8⟩
    · exact hc.2.2.1 s hs hl (by rw [q2]; omega)
    · have := hc.2.2.2 f hf t s k e (by omega) (by omega)
      rw [C16_lt (by omega)] at this ⊢
      omega
  · rintro K w ⟨C, c, rfl, hC, hc⟩
    show wp (f_X2_spread_17 v0 u K (x_row w0 1 C) (nI p) (nI nS)) _
    unfold f_X2_spread_17
    rw [show u.1 1 0 = nI nS from h.u0, if_pos (nI_le (Nat.le_refl _) (by omega)), wp_some]
    refine ⟨C, rfl, fun s hs => ?_⟩
    rw [hC s (by omega)]
    refine congrArg nI ?_
    have h1 := hc.2.1 s hs
    by_cases q : D s < 100000
    · have := hD.lt hE hs q
      exact Nat.le_antisymm (hc.2.2.1 s hs q (by omega)) h1
    · have := hc.1 s (by omega)
      rw [C16_ge q] at h1 ⊢
      omega
  · show up _ _ _ _ = nI (if j = g then 0 else 1048576)
    by_cases c : j = g
    · rw [c, up_eq, if_pos rfl]; rfl
    · rw [up_ne c, if_neg c, bec_in hj]; rfl
  · show (if j = g then 0 else 1048576) ≤ _
    split <;> omega
  · show _ ≤ (if s = g then 0 else 1048576)
    by_cases c : s = g
    · rw [if_pos c, c, hD.1]; exact Nat.le_refl _
    · rw [if_neg c]
      by_cases q : D s < 100000
      · exact C16_le _ (hD.st hE hb.1 hs q).1
      · rw [C16_ge q]; omega
  · show (if s = g then 0 else 1048576) ≤ _
    obtain ⟨-, -, q⟩ := hD.st hE hb.1 hs hl
    rcases q with ⟨q1, q2⟩ | ⟨q1, q2, -⟩
    · rw [if_pos q1]; omega
    · omega
end SP
