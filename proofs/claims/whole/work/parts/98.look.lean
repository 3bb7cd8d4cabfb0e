-- The reference lays how far.
theorem lp_fora {φ σ β : Type} (ap : φ → σ → Int32 → Option β) {z : φ} {b : φ → φ} {n : Nat} (P : Nat → σ → Prop) (Q : β → Prop) (h : ∀ (K : φ) (i : Nat) (a : σ), i < n → P i a → (∀ a', P (i + 1) a' → wp (ap K a' (nI (i + 1))) Q) → wp (ap (b K) a (nI i)) Q) (he : ∀ (K : φ) (a : σ), P n a → wp (ap (b K) a (nI n)) Q) : ∀ (fu : Nat) (a : σ), n < fu → P 0 a → wp (ap (x_lp z b fu) a 0) Q := by
  intro fu a hf hp
  refine lp_ind (fun (K : φ) (s : σ × Int32) => ap K s.1 s.2) (fun m s => ∃ i, i + m = n ∧ s.2 = nI i ∧ P i s.1) Q (fun m K s hs ih => ?_) fu n (a, 0) hf ⟨0, by omega, rfl, hp⟩
  obtain ⟨i, h1, h2, h3⟩ := hs
  obtain ⟨a, c⟩ := s
  have h2 : c = nI i := h2
  subst h2
  match m, h1 with
  | 0, h1 => obtain rfl : i = n := by omega
             exact he K a h3
  | m + 1, h1 => exact h K i a (by omega) h3 (fun a' ha' => ih m (a', nI (i + 1)) (by omega) ⟨i + 1, by omega, rfl, ha'⟩)
/-- FOLD f joins s and t, open, h HOURS for pace p -/
def gEf (v : XM) (p f s t h : Nat) : Prop := v.1 2 (99 + f) ≤ 0 ∧ ((v.1 2 (6 + f) = nI s ∧ v.1 2 (18 + f) = nI t) ∨ (v.1 2 (6 + f) = nI t ∧ v.1 2 (18 + f) = nI s)) ∧ s < 8 ∧ t < 8 ∧ hrO v f (nI p) = nI h ∧ h < 10
def gE (v : XM) (nF p : Nat) (s t h : Nat) : Prop := ∃ f, f < nF ∧ gEf v p f s t h
/-- the sum of a row -/
def sn (D : Nat → Nat) : Nat → Nat
  | 0 => 0
  | n + 1 => sn D n + D n
theorem sn_le {D : Nat → Nat} : ∀ n, (∀ j, j < n → D j ≤ 100000) → sn D n ≤ 100000 * n
  | 0, _ => Nat.le_refl _
  | n + 1, h => by
    have := sn_le n (fun j hj => h j (by omega))
    have := h n (by omega)
    unfold sn; omega
theorem sn_congr {D D' : Nat → Nat} : ∀ n, (∀ j, j < n → D' j = D j) → sn D' n = sn D n
  | 0, _ => rfl
  | n + 1, h => by
    unfold sn
    rw [sn_congr n (fun j hj => h j (by omega)), h n (by omega)]
theorem sn_lt {D D' : Nat → Nat} {k : Nat} : ∀ n, k < n → (∀ j, j < n → j ≠ k → D' j = D j) → D' k < D k → sn D' n < sn D n
  | 0, hk, _, _ => absurd hk (Nat.not_lt_zero _)
  | n + 1, hk, h, hl => by
    unfold sn
    by_cases c : k = n
    · subst c
      rw [sn_congr k (fun j hj => h j (by omega) (by omega))]; omega
    · have := sn_lt n (by omega) (fun j hj c => h j (by omega) c) hl
      rw [h n (by omega) (fun q => c q.symm)]; omega
section LF
variable {nS nF nT nW bB : Nat} {u v : XM}
theorem gEf_ends (h : RW nS nF nT nW bB u v) {p f s t k : Nat} (hf : f < nF) (e : gEf v p f s t k) : ∃ a b, a < nS ∧ b < nS ∧ a ≠ b ∧ v.1 2 (6 + f) = nI a ∧ v.1 2 (18 + f) = nI b ∧ ((s = a ∧ t = b) ∨ (s = b ∧ t = a)) := by
  obtain ⟨a, b, d, h1, h2, h3, -, -, h4, h5, -⟩ := h.ends hf
  have hb := h.b
  obtain ⟨-, e1, e2, e3, -⟩ := e
  refine ⟨a, b, h1, h2, h3, h4, h5, ?_⟩
  rw [h4, h5] at e1
  rcases e1 with ⟨e1, e4⟩ | ⟨e1, e4⟩
  · exact Or.inl ⟨(nI_iff (by omega) (by omega) e1).symm, (nI_iff (by omega) (by omega) e4).symm⟩
  · exact Or.inr ⟨(nI_iff (by omega) (by omega) e4).symm, (nI_iff (by omega) (by omega) e1).symm⟩
theorem gEf_uniq (h : RW nS nF nT nW bB u v) {p f s t k s' k' : Nat} (hf : f < nF) (e : gEf v p f s t k) (e' : gEf v p f s' t k') : s = s' ∧ k = k' := by
  obtain ⟨a, b, h1, h2, h3, h4, h5, h6⟩ := gEf_ends h hf e
  obtain ⟨a', b', g1, g2, g3, g4, g5, g6⟩ := gEf_ends h hf e'
  have hb := h.b
  have := nI_iff (by omega) (by omega) (h4.symm.trans g4)
  have := nI_iff (by omega) (by omega) (h5.symm.trans g5)
  exact ⟨by omega, nI_iff (by have := e.2.2.2.2.2; omega) (by have := e'.2.2.2.2.2; omega) (e.2.2.2.2.1.symm.trans e'.2.2.2.2.1)⟩
theorem gE_EP (h : RW nS nF nT nW bB u v) {p : Nat} (hp : 1 ≤ p) (hp2 : p ≤ 5) : EP (gE v nF p) nS := by
  rintro s t k ⟨f, hf, e⟩
  obtain ⟨a, b, h1, h2, h3, h4, h5, h6⟩ := gEf_ends h hf e
  obtain ⟨n, n1, n2, n3⟩ := hrN h hf hp hp2
  have hb := h.b
  have : k = n := nI_iff (by have := e.2.2.2.2.2; omega) (by omega) (e.2.2.2.2.1.symm.trans n3)
  refine ⟨by omega, by omega, by omega, by omega, by omega, f, hf, e.1, ?_, e.2.2.2.1, e.2.2.1, e.2.2.2.2⟩
  exact e.2.1.symm
theorem r_farBy (h : RW nS nF nT nW bB u v) {p f t : Nat} (hp : 1 ≤ p) (hp2 : p ≤ 5) (hf : f < nF) (ht : t < nS) {G : Nat → Int32} {D : Nat → Nat} (hG : ∀ j, j < nS → G j = nI (D j)) (hD : ∀ j, j < nS → D j ≤ 100000) : ∃ y, y < 2 ^ 20 ∧ f_X12_farBy (x_row v 11 G) (nI f) (nI t) (nI p) = some (nI y) ∧ ((∃ s k, gEf v p f s t k ∧ s < 8 ∧ D s < 100000 ∧ y = D s + 100 * k + 1) ∨ (y = 100000 ∧ ∀ s k, gEf v p f s t k → 100000 ≤ D s)) := by
  have hb := h.b
  obtain ⟨a, b, d, h1, h2, h3, -, -, h4, h5, -⟩ := h.ends hf
  obtain ⟨k, k1, k2, k3⟩ := hrN h hf hp hp2
  obtain ⟨sl, sl1, sl2⟩ := h.slpN hf
  have ho : otO (x_row v 11 G) f (nI t) = otO v f (nI t) := otO_congr ⟨rfl, rfl⟩
  have key : ∀ o, o < nS → otO v f (nI t) = nI o → (∀ s k', gEf v p f s t k' → s = o) → (v.1 2 (99 + f) ≤ 0 → gEf v p f o t k) → ∃ y, y < 2 ^ 20 ∧ f_X12_farBy (x_row v 11 G) (nI f) (nI t) (nI p) = some (nI y) ∧ ((∃ s k, gEf v p f s t k ∧ s < 8 ∧ D s < 100000 ∧ y = D s + 100 * k + 1) ∨ (y = 100000 ∧ ∀ s k, gEf v p f s t k → 100000 ≤ D s)) := by
    intro o ho1 ho2 hu he
    unfold f_X12_farBy
    rw [r_otherEnd (by omega), ho, ho2, bo_some, if_neg (nI_nm1 (by omega)), kl_99, nI_add, ck_in (by omega) (by omega), ga_in (by omega), show (x_row v 11 G).1 2 (99 + f) = v.1 2 (99 + f) from rfl]
    by_cases c : 0 < v.1 2 (99 + f)
    · rw [if_pos c]
      exact ⟨100000, by omega, rfl, Or.inr ⟨rfl, fun s k' e => absurd c (Int32.not_lt.mpr e.1)⟩⟩
    · rw [if_neg c, ck_in (by omega) (by omega), ga_in (by omega), row_at, hG o (by omega)]
      have e := he (Int32.not_lt.mp c)
      by_cases c2 : D o < 100000
      · have := hD o (by omega)
        rw [if_pos (show nI (D o) < 100000 from nI_lt (b := 100000) c2 (by omega)), ck_in (by omega) (by omega), r_hoursOf (by omega) (nI_ne0 (by omega) (by omega)), bo_some, show hrO (x_row v 11 G) f (nI p) = nI k from k3, lt_eq, kl_100, pk_mul, nI_add, nI_1]
        exact ⟨D o + 100 * k + 1, by omega, rfl, Or.inl ⟨o, k, e, by omega, c2, rfl⟩⟩
      · have := hD o (by omega)
        rw [if_neg (show ¬ nI (D o) < 100000 from fun q => c2 (by rw [kl_100000, nI_ltI (by omega) (by omega)] at q; exact q))]
        exact ⟨100000, by omega, rfl, Or.inr ⟨rfl, fun s k' e' => by rw [hu s k' e']; omega⟩⟩
  by_cases c1 : a = t
  · subst c1
    refine key b h2 (by unfold otO; rw [h4, if_pos rfl, h5]) (fun s k' e => ?_) (fun q => ⟨q, Or.inr ⟨h4, h5⟩, by omega, by omega, k3, by omega⟩)
    obtain ⟨a', b', g1, g2, g3, g4, g5, g6⟩ := gEf_ends h hf e
    have := nI_iff (by omega) (by omega) (h4.symm.trans g4)
    have := nI_iff (by omega) (by omega) (h5.symm.trans g5)
    omega
  · by_cases c2 : b = t
    · subst c2
      refine key a h1 (by unfold otO; rw [h4, h5, if_neg (fun q => h3 (nI_iff (by omega) (by omega) q)), if_pos rfl]) (fun s k' e => ?_) (fun q => ⟨q, Or.inl ⟨h4, h5⟩, by omega, by omega, k3, by omega⟩)
      obtain ⟨a', b', g1, g2, g3, g4, g5, g6⟩ := gEf_ends h hf e
      have := nI_iff (by omega) (by omega) (h4.symm.trans g4)
      have := nI_iff (by omega) (by omega) (h5.symm.trans g5)
      omega
    · unfold f_X12_farBy
      rw [r_otherEnd (by omega), ho, show otO v f (nI t) = -1 by unfold otO; rw [h4, h5, if_neg (fun q => c1 (nI_iff (by omega) (by omega) q)), if_neg (fun q => c2 (nI_iff (by omega) (by omega) q))], bo_some, if_pos rfl]
      refine ⟨100000, by omega, rfl, Or.inr ⟨rfl, fun s k' e => ?_⟩⟩
      obtain ⟨a', b', g1, g2, g3, g4, g5, g6⟩ := gEf_ends h hf e
      have := nI_iff (by omega) (by omega) (h4.symm.trans g4)
      have := nI_iff (by omega) (by omega) (h5.symm.trans g5)
      omega
/-- what holds of the row while it is laid -/
def FInv (v : XM) (nS nF p g : Nat) (D : Nat → Nat) : Prop := D g = 0 ∧ (∀ j, j < 8 → D j ≤ 100000) ∧ ∀ s, s < nS → s ≠ g → D s < 100000 → ∃ t k, gE v nF p t s k ∧ D t < 100000 ∧ D t + 100 * k + 1 ≤ D s
def FFix (v : XM) (p : Nat) (D : Nat → Nat) (f t : Nat) : Prop := ∀ s k, gEf v p f s t k → D s < 100000 → D t ≤ D s + 100 * k + 1
def FSt (v : XM) (nS nF p g S : Nat) (w : XM) (fl : Int32) (C : (Nat → Nat) → Prop) : Prop := ∃ G D, w = x_row v 11 G ∧ (∀ j, j < 8 → G j = nI (D j)) ∧ FInv v nS nF p g D ∧ ((fl = 0 ∧ sn D 8 ≤ S ∧ C D) ∨ (fl = 1 ∧ sn D 8 < S))
theorem layFar_in (h : RW nS nF nT nW bB u v) {p g S : Nat} (hp : 1 ≤ p) (hp2 : p ≤ 5) {Q : XM → Prop} {k32 : XM → Int32 → Int32 → Option XM} {k41 : XM → Int32 → Int32 → Int32 → Option XM} {t : Nat} (ht : t < nS) (hk : ∀ w fl, FSt v nS nF p g S w fl (fun D => ∀ t', t' < t + 1 → ∀ f, f < nF → FFix v p D f t') → wp (k41 w (nI p) fl (nI (t + 1))) Q) (w : XM) (fl : Int32) (hS : FSt v nS nF p g S w fl (fun D => ∀ t', t' < t → ∀ f, f < nF → FFix v p D f t')) : wp (x_lp (φ := XM → Int32 → Int32 → Int32 → Int32 → Option (XM)) (fun _ _ _ _ _ => none) (f_X12_layFar_55 k32 k41) x_NN w (nI p) fl (nI t) 0) Q := by
  have hb := h.b
  refine lp_fora (σ := XM × Int32) (n := nF) (fun (K : XM → Int32 → Int32 → Int32 → Int32 → Option (XM)) s c => K s.1 (nI p) s.2 (nI t) c) (fun i s => FSt v nS nF p g S s.1 s.2 (fun D => (∀ t', t' < t → ∀ f, f < nF → FFix v p D f t') ∧ ∀ f, f < i → FFix v p D f t)) Q ?_ ?_ x_NN (w, fl) (by show nF < 1000000; omega) ?_
  · rintro K i ⟨w, fl⟩ hi ⟨G, D, rfl, g1, ⟨g2, g3, g4⟩, g5⟩ ih
    show wp (f_X12_layFar_55 k32 k41 K (x_row v 11 G) (nI p) fl (nI t) (nI i)) Q
    obtain ⟨y, y0, y1, y2⟩ := r_farBy h hp hp2 hi ht (fun j hj => g1 j (by omega)) (fun j hj => g3 j (by omega))
    unfold f_X12_layFar_55
    rw [show x_ga (x_row v 11 G) 2 (1 : Int32) = nI nF from by rw [kl_1, ga_in (by omega)]; exact h.v1, if_neg (nI_ge hi (by omega)), y1, bo_some, ck_in (by omega) (by omega), ga_in (by omega), row_at, g1 t (by omega)]
    have gt := g3 t (by omega)
    by_cases c : y < D t
    · rw [if_pos (nI_lt c (by omega)), ck_in (by omega) (by omega), lt_eq, pa_in (by omega), row_row, row_at]
      unfold f_X12_layFar_103
      rw [nI_1]
      have hu : ∀ j, j < 8 → up G t (nI y) j = nI ((fun j => if j = t then y else D j) j) := by
        intro j hj
        show _ = nI (if j = t then y else D j)
        by_cases c3 : j = t
        · rw [c3, up_eq, if_pos rfl]
        · rw [up_ne c3, if_neg c3]; exact g1 j hj
      have hlt : sn (fun j => if j = t then y else D j) 8 < sn D 8 := sn_lt (k := t) 8 (by omega) (fun j _ cj => if_neg cj) (by show (if t = t then y else D t) < _; rw [if_pos rfl]; exact c)
      refine ih (x_row v 11 (up G t (nI y)), 1) ⟨_, _, rfl, hu, ⟨?_, ?_, ?_⟩, Or.inr ⟨rfl, ?_⟩⟩
      · show (if g = t then y else D g) = 0
        rw [if_neg (by rintro rfl; omega)]; exact g2
      · intro j hj
        show (if j = t then y else D j) ≤ _
        have := g3 j hj
        split <;> omega
      · intro s hs hsg hl
        have hl : (if s = t then y else D s) < 100000 := hl
        show ∃ t' k, gE v nF p t' s k ∧ (if t' = t then y else D t') < 100000 ∧ (if t' = t then y else D t') + 100 * k + 1 ≤ (if s = t then y else D s)
        by_cases cs : s = t
        · subst cs
          rcases y2 with ⟨s', k, e1, e2, e3, e4⟩ | ⟨e1, -⟩
          · refine ⟨s', k, ⟨i, hi, e1⟩, ?_⟩
            have : s' ≠ s := ((gE_EP h hp hp2) s' s k ⟨i, hi, e1⟩).2.2.1
            rw [if_neg this, if_pos rfl]
            omega
          · omega
        · rw [if_neg cs] at hl
          obtain ⟨t', k, e1, e2, e3⟩ := g4 s hs hsg hl
          refine ⟨t', k, e1, ?_⟩
          rw [if_neg cs]
          by_cases ct : t' = t
          · subst ct; rw [if_pos rfl]; omega
          · rw [if_neg ct]; exact ⟨e2, e3⟩
      · rcases g5 with ⟨-, z, -⟩ | ⟨-, z⟩ <;> omega
    · rw [if_neg (fun q => c (by rw [nI_ltI (by omega) (by omega)] at q; exact q))]
      unfold f_X12_layFar_103
      rw [nI_1]
      refine ih (x_row v 11 G, fl) ⟨G, D, rfl, g1, ⟨g2, g3, g4⟩, ?_⟩
      rcases g5 with ⟨z1, z2, z3, z4⟩ | z
      · refine Or.inl ⟨z1, z2, z3, fun f hf => ?_⟩
        by_cases cf : f = i
        · subst cf
          intro s k e hl
          rcases y2 with ⟨s', k', e1, e2, e3, e4⟩ | ⟨-, e2⟩
          · obtain ⟨rfl, rfl⟩ := gEf_uniq h hi e e1
            omega
          · have := e2 s k e
            omega
        · exact z4 f (by omega)
      · exact Or.inr z
  · rintro K ⟨w, fl⟩ ⟨G, D, rfl, g1, g2, g5⟩
    show wp (f_X12_layFar_55 k32 k41 K (x_row v 11 G) (nI p) fl (nI t) (nI nF)) Q
    unfold f_X12_layFar_55
    rw [show x_ga (x_row v 11 G) 2 (1 : Int32) = nI nF from by rw [kl_1, ga_in (by omega)]; exact h.v1, if_pos (nI_le (Nat.le_refl _) (by omega)), nI_1]
    refine hk _ fl ⟨G, D, rfl, g1, g2, ?_⟩
    rcases g5 with ⟨z1, z2, z3, z4⟩ | z
    · refine Or.inl ⟨z1, z2, fun t' ht' f hf => ?_⟩
      by_cases c : t' = t
      · subst c; exact z4 f hf
      · exact z3 t' (by omega) f hf
    · exact Or.inr z
  · obtain ⟨G, D, e, g1, g2, g5⟩ := hS
    refine ⟨G, D, e, g1, g2, ?_⟩
    rcases g5 with ⟨z1, z2, z3⟩ | z
    · exact Or.inl ⟨z1, z2, z3, fun f hf => absurd hf (Nat.not_lt_zero _)⟩
    · exact Or.inr z
theorem layFar_pass (h : RW nS nF nT nW bB u v) {p g S : Nat} (hp : 1 ≤ p) (hp2 : p ≤ 5) {Q : XM → Prop} {k32 : XM → Int32 → Int32 → Option XM} (hk : ∀ w fl, FSt v nS nF p g S w fl (fun D => ∀ t', t' < nS → ∀ f, f < nF → FFix v p D f t') → wp (k32 w (nI p) fl) Q) (w : XM) (hS : FSt v nS nF p g S w 0 (fun _ => True)) : wp (x_lp (φ := XM → Int32 → Int32 → Int32 → Option (XM)) (fun _ _ _ _ => none) (f_X12_layFar_41 k32) x_NN w (nI p) 0 0) Q := by
  have hb := h.b
  refine lp_fora (σ := XM × Int32) (n := nS) (fun (K : XM → Int32 → Int32 → Int32 → Option (XM)) s c => K s.1 (nI p) s.2 c) (fun i s => FSt v nS nF p g S s.1 s.2 (fun D => ∀ t', t' < i → ∀ f, f < nF → FFix v p D f t')) Q ?_ ?_ x_NN (w, 0) (by show nS < 1000000; omega) ?_
  · rintro K i ⟨w, fl⟩ hi hs ih
    show wp (f_X12_layFar_41 k32 K w (nI p) fl (nI i)) Q
    have hw : x_ga w 2 (0 : Int32) = nI nS := by
      obtain ⟨G, D, rfl, -⟩ := hs
      rw [kl_0, ga_in (by omega)]; exact h.v0
    unfold f_X12_layFar_41
    rw [hw, if_neg (nI_ge hi (by omega))]
    exact layFar_in h hp hp2 hi (fun w fl hw => ih (w, fl) hw) w fl hs
  · rintro K ⟨w, fl⟩ hs
    show wp (f_X12_layFar_41 k32 K w (nI p) fl (nI nS)) Q
    have hw : x_ga w 2 (0 : Int32) = nI nS := by
      obtain ⟨G, D, rfl, -⟩ := hs
      rw [kl_0, ga_in (by omega)]; exact h.v0
    unfold f_X12_layFar_41
    rw [hw, if_pos (nI_le (Nat.le_refl _) (by omega))]
    exact hk w fl hs
  · obtain ⟨G, D, e, g1, g2, g5⟩ := hS
    refine ⟨G, D, e, g1, g2, ?_⟩
    rcases g5 with ⟨z1, z2, -⟩ | z
    · exact Or.inl ⟨z1, z2, fun t' ht' => absurd ht' (Nat.not_lt_zero _)⟩
    · exact Or.inr z
/-- the reference's row of how far all is from g -/
theorem r_layFar (h : RW nS nF nT nW bB u v) {p g : Nat} (hp : 1 ≤ p) (hp2 : p ≤ 5) (hg : g < nS) : wp (f_X12_layFar v (nI g) (nI p)) (fun r => ∃ G D, r = x_row v 11 G ∧ (∀ j, j < 8 → G j = nI (D j)) ∧ Dst (gE v nF p) nS g D) := by
  have hb := h.b
  unfold f_X12_layFar
  refine lp_fora (σ := XM) (n := 8) (fun (K : XM → Int32 → Int32 → Int32 → Option (XM)) s c => K s (nI g) (nI p) c) (fun i s => ∃ G, s = x_row v 11 G ∧ ∀ j, j < i → G j = 100000) _ ?_ ?_ x_NN v (by show 8 < 1000000; omega) ⟨v.1 11, row_self.symm, fun j hj => absurd hj (Nat.not_lt_zero _)⟩
  · rintro K i w hi ⟨G, rfl, g1⟩ ih
    show wp (f_X12_layFar_2 K (x_row v 11 G) (nI g) (nI p) (nI i)) _
    unfold f_X12_layFar_2
    rw [if_neg (show ¬ (8 : Int32) ≤ nI i from nI_ge (b := 8) hi (by omega)), ck_in (by omega) (by omega), lt_eq, pa_in (by omega), row_row, row_at, nI_1]
    refine ih _ ⟨_, rfl, fun j hj => ?_⟩
    by_cases c : j = i
    · rw [c, up_eq]
    · rw [up_ne c]; exact g1 j (by omega)
  · rintro K w ⟨G, rfl, g1⟩
    show wp (f_X12_layFar_2 K (x_row v 11 G) (nI g) (nI p) (nI 8)) _
    unfold f_X12_layFar_2
    rw [if_pos (show (8 : Int32) ≤ nI 8 by decide), ck_in (by omega) (by omega), lt_eq, pa_in (by omega), row_row, row_at]
    refine lp_ind (σ := XM × Int32) (fun (K : XM → Int32 → Int32 → Option (XM)) s => K s.1 (nI p) s.2) (fun m s => ∃ G D, s.1 = x_row v 11 G ∧ (∀ j, j < 8 → G j = nI (D j)) ∧ FInv v nS nF p g D ∧ ((s.2 = 0 ∧ ∀ t', t' < nS → ∀ f, f < nF → FFix v p D f t') ∨ (s.2 = 1 ∧ m = sn D 8 + 1))) _ ?_ x_NN (sn (fun j => if j = g then 0 else 100000) 8 + 1) (x_row v 11 (up G g 0), 1) ?_ ⟨_, (fun j => if j = g then 0 else 100000), rfl, fun j hj => ?_, ⟨if_pos rfl, fun j hj => ?_, fun s hs c hl => ?_⟩, Or.inr ⟨rfl, rfl⟩⟩
    · rintro m K ⟨w, fl⟩ ⟨G, D, e, g1, g2, g3⟩ ih
      have e : w = x_row v 11 G := e
      subst e
      show wp (f_X12_layFar_32 K (x_row v 11 G) (nI p) fl) _
      unfold f_X12_layFar_32
      rcases g3 with ⟨z1, z2⟩ | ⟨z1, z2⟩
      · have z1 : fl = 0 := z1
        rw [z1, if_pos rfl, wp_some]
        refine ⟨G, D, rfl, g1, g2.1, fun s hs => g2.2.1 s (by omega), ?_, fun s hs c hl => ?_⟩
        · rintro s t k ⟨f, hf, e⟩ hl
          have := ((gE_EP h hp hp2) s t k ⟨f, hf, e⟩)
          exact z2 t this.2.1 f hf s k e hl
        · obtain ⟨t, k, ⟨f, hf, e⟩, e2, e3⟩ := g2.2.2 s hs c hl
          exact ⟨t, k, ⟨f, hf, e⟩, Nat.le_antisymm (z2 s hs f hf t k e e2) e3⟩
      · have z1 : fl = 1 := z1
        rw [z1, if_neg one0]
        refine layFar_pass h hp hp2 (S := sn D 8) ?_ _ ⟨G, D, rfl, g1, g2, Or.inl ⟨rfl, Nat.le_refl _, trivial⟩⟩
        rintro w fl ⟨G', D', e1, e2, e3, e4⟩
        rcases e4 with ⟨q1, -, q3⟩ | ⟨q1, q2⟩
        · exact ih 0 (w, fl) (by omega) ⟨G', D', e1, e2, e3, Or.inl ⟨q1, q3⟩⟩
        · exact ih (sn D' 8 + 1) (w, fl) (by omega) ⟨G', D', e1, e2, e3, Or.inr ⟨q1, rfl⟩⟩
    · have := sn_le (D := fun j => if j = g then 0 else 100000) 8 (fun j _ => by show (if j = g then 0 else 100000) ≤ 100000; split <;> omega)
      show _ < 1000000
      omega
    · show _ = nI (if j = g then 0 else 100000)
      by_cases c : j = g
      · rw [c, up_eq, if_pos rfl]; rfl
      · rw [up_ne c, if_neg c]; exact g1 j hj
    · show (if j = g then 0 else 100000) ≤ 100000
      split <;> omega
    · have hl : (if s = g then 0 else 100000) < 100000 := hl
      rw [if_neg c] at hl
      omega
end LF
