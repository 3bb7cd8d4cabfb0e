-- The tables of orders, laid.
theorem sh1 : ∀ n, n < 7 → (1 : Int32) <<< (nI n &&& 31) = nI (2 ^ n) := by decide
/-- the first of the least, as the class looks for it -/
def fi (p : Nat → Bool) (f : Nat → Nat) : Nat → Nat × Nat
  | 0 => (0, 458752)
  | n + 1 => if p n = true then (if (fi p f n).2 ≤ f n then fi p f n else (n, f n)) else fi p f n
theorem fi_mv {p : Nat → Bool} {f : Nat → Nat} : ∀ n, (fi p f n).2 = mv p f 458752 n
  | 0 => rfl
  | n + 1 => by
    have ih := fi_mv (p := p) (f := f) n
    unfold fi mv
    by_cases c : p n = true
    · rw [if_pos c, if_pos c]
      by_cases c2 : (fi p f n).2 ≤ f n
      · rw [if_pos c2]
        by_cases c3 : f n ≤ mv p f 458752 n
        · rw [if_pos c3]; omega
        · rw [if_neg c3]; exact ih
      · rw [if_neg c2, if_pos (by omega)]
    · rw [if_neg c, if_neg c]; exact ih
theorem fi_at {p : Nat → Bool} {f : Nat → Nat} : ∀ n, (fi p f n).2 < 458752 → (fi p f n).1 < n ∧ p (fi p f n).1 = true ∧ f (fi p f n).1 = (fi p f n).2 ∧ ∀ t, t < (fi p f n).1 → p t = true → f t ≠ (fi p f n).2
  | 0, h => absurd h (by show ¬ 458752 < 458752; omega)
  | n + 1, h => by
    have ih := fi_at (p := p) (f := f) n
    have hm := fi_mv (p := p) (f := f) n
    unfold fi at h ⊢
    by_cases c : p n = true
    · rw [if_pos c] at h ⊢
      by_cases c2 : (fi p f n).2 ≤ f n
      · rw [if_pos c2] at h ⊢
        obtain ⟨a, b⟩ := ih h
        exact ⟨by omega, b⟩
      · rw [if_neg c2] at h ⊢
        refine ⟨by show n < n + 1; omega, c, rfl, fun t ht hp => ?_⟩
        have := (mv_le (p := p) (f := f) (z := 458752) n).2 t ht hp
        show f t ≠ f n
        omega
    · rw [if_neg c] at h ⊢
      obtain ⟨a, b⟩ := ih h
      exact ⟨by omega, b⟩
def subI (k m : Nat) : Prop := nI k &&& (nI m ^^^ (-1)) = 0
theorem subI_iff {k m : Nat} : subI k m ↔ ∀ i, i < 32 → bt (nI k) i = true → bt (nI m) i = true := by
  unfold subI
  constructor
  · intro h i hi hb
    have := b_and (nI k) (nI m ^^^ (-1)) i
    rw [h, b_0, b_not _ hi, hb] at this
    cases c : bt (nI m) i with
    | true => rfl
    | false => rw [c] at this; exact absurd this (by decide)
  · intro h
    apply b_ext
    intro i hi
    rw [b_and, b_not _ hi, b_0]
    cases c : bt (nI k) i with
    | false => rfl
    | true => rw [h i hi c]; rfl
theorem subI_rf {m : Nat} : subI m m := subI_iff.mpr (fun _ _ h => h)
theorem subI_m {k m t : Nat} (hk : k < 64) (ht : t < 6) (hb : bt (nI k) t = true) (h : subI k m) : subI (k - 2 ^ t) m := by
  rw [subI_iff] at h ⊢
  intro i hi hi2
  refine h i hi ?_
  rw [← (m_bit k hk t ht hb).2, b_and] at hi2
  cases c : bt (nI k) i with
  | true => rfl
  | false => rw [c, Bool.false_and] at hi2; exact absurd hi2 ft
section PL
variable {nS nF nT nW bB : Nat} {u v : XM}
def fR (v : XM) (nT p k s t : Nat) : Nat := hN (farO v (ysN v t) p s) + TR_ v nT p (k - 2 ^ t) (ysN v t)
def fC (v : XM) (nT p k s t : Nat) : Nat := cH (farO v s p (ysN v t)) + TC_ v nT p (k - 2 ^ t) (ysN v t)
theorem TR_0 {p s : Nat} : TR_ v nT p 0 s = 0 := TT_0
theorem TC_0 {p s : Nat} : TC_ v nT p 0 s = 0 := TT_0
theorem TR_s (hT : nT ≤ 6) {p k s : Nat} (hk : k < 64) (h0 : k ≠ 0) : TR_ v nT p k s = mv (fun t => bt (nI k) t) (fR v nT p k s) 100000 nT := TT_s hT hk h0
theorem TC_s (hT : nT ≤ 6) {p k s : Nat} (hk : k < 64) (h0 : k ≠ 0) : TC_ v nT p k s = mv (fun t => bt (nI k) t) (fC v nT p k s) 458752 nT := TT_s hT hk h0
theorem mv_none {p : Nat → Bool} {f : Nat → Nat} {z : Nat} : ∀ n, (∀ i, i < n → p i = false) → mv p f z n = z
  | 0, _ => rfl
  | n + 1, h => by
    unfold mv
    rw [if_neg (by rw [h n (by omega)]; exact ft)]
    exact mv_none n (fun i hi => h i (by omega))
theorem TR_v (hT : nT ≤ 6) {p k s : Nat} (hk : k < 64) : mv (fun t => bt (nI k) t) (fR v nT p k s) (if k = 0 then 0 else 100000) nT = TR_ v nT p k s := by
  by_cases c : k = 0
  · rw [if_pos c, c, TR_0]
    exact mv_none nT (fun i _ => b_0 i)
  · rw [if_neg c, TR_s hT hk c]
theorem layMore_in (h : RW nS nF nT nW bB u v) {m : XM} {p k s : Nat} (hp : 1 ≤ p) (hp2 : p ≤ 5) (em : m.1 2 = v.1 2) (h13 : ∀ g s, g < nS → s < nS → m.1 13 (8 * s + g) = nI (hN (farO v g p s))) (hk : k < 2 ^ nT) (hs : s < nS) (h14 : ∀ k', k' < k → ∀ s, s < nS → m.1 14 (8 * k' + s) = nI (TR_ v nT p k' s)) {k2 : XM → Int32 → Option XM} {k16 : XM → Int32 → Int32 → Option XM} {Q : XM → Prop} (hq : wp (k16 (x_row m 14 (up (m.1 14) (8 * k + s) (nI (TR_ v nT p k s)))) (nI k) (nI (s + 1))) Q) : wp (f_X12_layMore_37 k2 k16 m (nI k) (nI s) (nI (if k = 0 then 0 else 100000))) Q := by
  have hb := h.b
  have h64 := p2_64 hb.2.2.1
  have hz : (if k = 0 then 0 else 100000) ≤ 100000 := by split <;> omega
  have hm2 : x_ga m 2 (2 : Int32) = nI nT := by rw [kl_2, ga_in (by omega), em]; exact h.v2
  unfold f_X12_layMore_37
  refine lp_fora (σ := Int32) (n := nT) (fun (K : XM → Int32 → Int32 → Int32 → Int32 → Option (XM)) a c => K m (nI k) (nI s) a c) (fun i a => a = nI (mv (fun t => bt (nI k) t) (fR v nT p k s) (if k = 0 then 0 else 100000) i)) Q ?_ ?_ x_NN _ (by show nT < 1000000; omega) rfl
  · rintro K t _ ht rfl ih
    show wp (f_X12_layMore_41 k2 k16 K m (nI k) (nI s) _ (nI t)) Q
    unfold f_X12_layMore_41 f_X12_layMore_74
    rw [hm2, if_neg (nI_ge ht (by omega)), lt_eq, r_has (by omega), nI_1]
    cases c : bt (nI k) t with
    | false =>
      rw [if_pos bIf]
      refine ih _ ?_
      show _ = nI (if bt (nI k) t = true then _ else _)
      rw [c, if_neg ft]
    | true =>
      have b1 := (m_bit k (by omega) t (by omega) c).1
      have b2 := p2_pos t
      rw [if_neg (show ¬ bI true = 0 by decide), r_moreBy h hp hp2 em h13 hk hs ht c (fun s hs => h14 (k - 2 ^ t) (by omega) s hs), bo_some, lt_eq]
      refine ih _ ?_
      have e1 : fR v nT p k s t = hN (farO v (ysN v t) p s) + TR_ v nT p (k - 2 ^ t) (ysN v t) := rfl
      rw [← e1]
      have l1 := (mv_le (p := fun t => bt (nI k) t) (f := fR v nT p k s) (z := if k = 0 then 0 else 100000) t).1
      show f_X12_least _ _ = nI (if bt (nI k) t = true then (if fR v nT p k s t ≤ mv (fun t => bt (nI k) t) (fR v nT p k s) (if k = 0 then 0 else 100000) t then fR v nT p k s t else mv (fun t => bt (nI k) t) (fR v nT p k s) (if k = 0 then 0 else 100000) t) else _)
      rw [if_pos c]
      generalize mv (fun t => bt (nI k) t) (fR v nT p k s) (if k = 0 then 0 else 100000) t = a at l1 ⊢
      generalize fR v nT p k s t = f
      have l2 : (if f ≤ 100000 then f else 100000) ≤ 100000 := by split <;> omega
      unfold f_X12_least
      by_cases c1 : f ≤ a
      · rw [if_pos c1, if_pos (show f ≤ 100000 by omega), if_pos (nI_le c1 (by omega))]
      · rw [if_neg c1]
        by_cases c2 : f ≤ 100000
        · rw [if_pos c2, if_neg (fun q => c1 (by rw [nI_leI (by omega) (by omega)] at q; exact q))]
        · rw [if_neg c2]
          by_cases c3 : a = 100000
          · rw [c3, if_pos (nI_le (Nat.le_refl _) (by omega))]
          · rw [if_neg (fun q => by rw [nI_leI (by omega) (by omega)] at q; omega)]
  · rintro K _ rfl
    show wp (f_X12_layMore_41 k2 k16 K m (nI k) (nI s) _ (nI nT)) Q
    unfold f_X12_layMore_41
    rw [hm2, if_pos (nI_le (Nat.le_refl _) (by omega)), kl_8, pk_mul, nI_add, ck_in (by omega) (by omega), lt_eq, pa_in (by omega), nI_1, TR_v hb.2.2.1 (by omega)]
    exact hq
theorem r_layMore (h : RW nS nF nT nW bB u v) {m : XM} {p : Nat} (hp : 1 ≤ p) (hp2 : p ≤ 5) (em : m.1 2 = v.1 2) (h13 : ∀ g s, g < nS → s < nS → m.1 13 (8 * s + g) = nI (hN (farO v g p s))) : wp (f_X12_layMore m) (fun r => Fr [14] m r ∧ ∀ k, k < 2 ^ nT → ∀ s, s < nS → r.1 14 (8 * k + s) = nI (TR_ v nT p k s)) := by
  have hb := h.b
  have h64 := p2_64 hb.2.2.1
  unfold f_X12_layMore
  refine lp_fora (σ := XM) (n := 2 ^ nT) (fun (K : XM → Int32 → Option (XM)) a c => K a c) (fun i a => Fr [14] m a ∧ ∀ k, k < i → ∀ s, s < nS → a.1 14 (8 * k + s) = nI (TR_ v nT p k s)) _ ?_ ?_ x_NN m (by show 2 ^ nT < 1000000; omega) ⟨Fr.rf, fun k hk => absurd hk (Nat.not_lt_zero _)⟩
  · rintro K k a hk ⟨h1, h2⟩ ih
    show wp (f_X12_layMore_2 K a (nI k)) _
    have ea : a.1 2 = v.1 2 := (h1.2 2 (by simp)).trans em
    unfold f_X12_layMore_2
    rw [show x_ga a 2 (2 : Int32) = nI nT from by rw [kl_2, ga_in (by omega), ea]; exact h.v2, sh1 nT (by omega), lt_eq, if_neg (nI_ge hk (by omega))]
    refine lp_fora (σ := XM) (n := nS) (fun (K : XM → Int32 → Int32 → Option (XM)) a c => K a (nI k) c) (fun i a => Fr [14] m a ∧ (∀ k', k' < k → ∀ s, s < nS → a.1 14 (8 * k' + s) = nI (TR_ v nT p k' s)) ∧ ∀ s, s < i → a.1 14 (8 * k + s) = nI (TR_ v nT p k s)) _ ?_ ?_ x_NN a (by show nS < 1000000; omega) ⟨h1, h2, fun s hs => absurd hs (Nat.not_lt_zero _)⟩
    · rintro K' s a hs ⟨g1, g2, g3⟩ ih'
      show wp (f_X12_layMore_16 K K' a (nI k) (nI s)) _
      have ea : a.1 2 = v.1 2 := (g1.2 2 (by simp)).trans em
      have h13' : ∀ g s, g < nS → s < nS → a.1 13 (8 * s + g) = nI (hN (farO v g p s)) := fun g s hg hs => by rw [g1.2 13 (by simp)]; exact h13 g s hg hs
      have hin := layMore_in (k2 := K) (k16 := K') (Q := fun r => Fr [14] m r ∧ ∀ k, k < 2 ^ nT → ∀ s, s < nS → r.1 14 (8 * k + s) = nI (TR_ v nT p k s)) h hp hp2 ea h13' hk hs g2 (ih' _ ⟨g1.row (by simp), fun k' hk' s' hs' => by rw [row_at, up_ne (by omega)]; exact g2 k' hk' s' hs', fun s' hs' => by
        rw [row_at]
        by_cases c : s' = s
        · subst c; rw [up_eq]
        · rw [up_ne (by omega)]; exact g3 s' (by omega)⟩)
      unfold f_X12_layMore_16
      rw [show x_ga a 2 (0 : Int32) = nI nS from by rw [kl_0, ga_in (by omega), ea]; exact h.v0, if_neg (nI_ge hs (by omega))]
      by_cases c : k = 0
      · rw [if_pos c] at hin
        rw [if_pos (show nI k = 0 by rw [c]; rfl)]; exact hin
      · rw [if_neg c] at hin
        rw [if_neg (show ¬ nI k = 0 from nI_ne0 (by omega) (by omega))]; exact hin
    · rintro K' a ⟨g1, g2, g3⟩
      show wp (f_X12_layMore_16 K K' a (nI k) (nI nS)) _
      have ea : a.1 2 = v.1 2 := (g1.2 2 (by simp)).trans em
      unfold f_X12_layMore_16
      rw [show x_ga a 2 (0 : Int32) = nI nS from by rw [kl_0, ga_in (by omega), ea]; exact h.v0, if_pos (nI_le (Nat.le_refl _) (by omega)), nI_1]
      refine ih a ⟨g1, fun k' hk' s hs => ?_⟩
      by_cases c : k' = k
      · subst c; exact g3 s hs
      · exact g2 k' (by omega) s hs
  · rintro K a ⟨h1, h2⟩
    show wp (f_X12_layMore_2 K a (nI (2 ^ nT))) _
    have ea : a.1 2 = v.1 2 := (h1.2 2 (by simp)).trans em
    unfold f_X12_layMore_2
    rw [show x_ga a 2 (2 : Int32) = nI nT from by rw [kl_2, ga_in (by omega), ea]; exact h.v2, sh1 nT (by omega), lt_eq, if_pos (nI_le (Nat.le_refl _) (by omega)), wp_some]
    exact ⟨h1, h2⟩
end PL
