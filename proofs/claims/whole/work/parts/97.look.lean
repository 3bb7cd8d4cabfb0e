-- Distances of a small graph, over the naturals.
/-- how many i < n with p i -/
def cnt (p : Nat → Bool) : Nat → Nat
  | 0 => 0
  | n + 1 => if p n = true then cnt p n + 1 else cnt p n
theorem cnt_le {p : Nat → Bool} : ∀ n, cnt p n ≤ n
  | 0 => Nat.le_refl _
  | n + 1 => by
    have := cnt_le (p := p) n
    unfold cnt; split <;> omega
theorem cnt_mono {p q : Nat → Bool} : ∀ n, (∀ i, i < n → p i = true → q i = true) → cnt p n ≤ cnt q n
  | 0, _ => Nat.le_refl _
  | n + 1, h => by
    have ih := cnt_mono n (fun i hi => h i (by omega))
    have h2 := h n (by omega)
    unfold cnt
    by_cases c : p n = true
    · rw [if_pos c, if_pos (h2 c)]; omega
    · rw [if_neg c]; split <;> omega
theorem cnt_lt {p q : Nat → Bool} {k : Nat} : ∀ n, (∀ i, i < n → p i = true → q i = true) → k < n → q k = true → p k = false → cnt p n < cnt q n
  | 0, _, hk, _, _ => absurd hk (Nat.not_lt_zero k)
  | n + 1, h, hk, hq, hp => by
    have h2 := h n (by omega)
    unfold cnt
    by_cases c : k = n
    · subst c
      have ih := cnt_mono k (fun i hi => h i (by omega))
      rw [if_pos hq, if_neg (by rw [hp]; exact Bool.false_ne_true)]; omega
    · have ih := cnt_lt n (fun i hi => h i (by omega)) (by omega) hq hp
      by_cases c : p n = true
      · rw [if_pos c, if_pos (h2 c)]; omega
      · rw [if_neg c]; split <;> omega
theorem cnt_all {p : Nat → Bool} {k : Nat} : ∀ n, k < n → p k = false → cnt p n < n
  | 0, hk, _ => absurd hk (Nat.not_lt_zero k)
  | n + 1, hk, hp => by
    unfold cnt
    by_cases c : k = n
    · subst c
      rw [if_neg (by rw [hp]; exact Bool.false_ne_true)]
      have := cnt_le (p := p) k
      omega
    · have := cnt_all n (by omega) hp
      split <;> omega
/-- edges between places below n, both ways, 1 to 9 hours each -/
def EP (E : Nat → Nat → Nat → Prop) (n : Nat) : Prop := ∀ s t h, E s t h → s < n ∧ t < n ∧ s ≠ t ∧ 1 ≤ h ∧ h ≤ 9 ∧ E t s h
/-- D tells how far from g -/
def Dst (E : Nat → Nat → Nat → Prop) (n g : Nat) (D : Nat → Nat) : Prop := D g = 0 ∧ (∀ s, s < n → D s ≤ 100000) ∧ (∀ s t h, E s t h → D s < 100000 → D t ≤ D s + 100 * h + 1) ∧ ∀ s, s < n → s ≠ g → D s < 100000 → ∃ t h, E t s h ∧ D s = D t + 100 * h + 1
section DS
variable {E : Nat → Nat → Nat → Prop} {n g : Nat} {D D' : Nat → Nat}
def rk (D : Nat → Nat) (n s : Nat) : Nat := cnt (fun t => decide (D t < D s)) n
theorem Dst.rank (hE : EP E n) (h : Dst E n g D) : ∀ (m s : Nat), D s < m → s < n → D s < 100000 → (s = g ∧ D s = 0) ∨ (s ≠ g ∧ D s % 100 ≤ rk D n s ∧ ∃ t k, E t s k ∧ D s = D t + 100 * k + 1 ∧ D t < 100000 ∧ (rk D n s ≤ 50 → D s % 100 = D t % 100 + 1 ∧ D s / 100 = D t / 100 + k ∧ D s / 100 ≤ 9 * (D s % 100)))
  | 0, s, h0, _, _ => absurd h0 (Nat.not_lt_zero _)
  | m + 1, s, hm, hs, hD => by
    by_cases c : s = g
    · subst c; exact Or.inl ⟨rfl, h.1⟩
    · right
      obtain ⟨t, k, e1, e2⟩ := h.2.2.2 s hs c hD
      obtain ⟨q1, q2, q3, q4, q5, q6⟩ := hE t s k e1
      have hr : rk D n t < rk D n s := by
        refine cnt_lt (k := t) n (fun i hi hp => ?_) q1 (decide_eq_true (by omega)) (decide_eq_false (by omega))
        have := of_decide_eq_true hp
        exact decide_eq_true (by omega)
      have key : D t % 100 ≤ rk D n t ∧ (rk D n s ≤ 50 → D t / 100 ≤ 9 * (D t % 100)) := by
        rcases Dst.rank hE h m t (by omega) q1 (by omega) with ⟨-, z⟩ | ⟨-, z1, t', k', -, -, -, z2⟩
        · rw [z]; exact ⟨by omega, fun _ => by omega⟩
        · exact ⟨z1, fun q => (z2 (by omega)).2.2⟩
      by_cases c2 : rk D n s ≤ 50
      · have := key.2 c2
        have z1 : D s % 100 = D t % 100 + 1 := by omega
        have z2 : D s / 100 = D t / 100 + k := by omega
        exact ⟨c, by omega, t, k, e1, e2, by omega, fun _ => ⟨z1, z2, by rw [z1, z2]; omega⟩⟩
      · exact ⟨c, by omega, t, k, e1, e2, by omega, fun q => absurd q c2⟩
theorem rk_lt {s : Nat} (hs : s < n) : rk D n s < n := cnt_all n hs (decide_eq_false (by omega))
/-- how a place that can be reached is reached -/
theorem Dst.st (hE : EP E n) (h : Dst E n g D) (h8 : n ≤ 8) {s : Nat} (hs : s < n) (hD : D s < 100000) : D s % 100 ≤ 7 ∧ D s / 100 ≤ 63 ∧ ((s = g ∧ D s = 0) ∨ (s ≠ g ∧ 1 ≤ D s % 100 ∧ ∃ t k, E t s k ∧ t < n ∧ 1 ≤ k ∧ k ≤ 9 ∧ D t < D s ∧ D s = D t + 100 * k + 1 ∧ D s % 100 = D t % 100 + 1 ∧ D s / 100 = D t / 100 + k)) := by
  have r := rk_lt (D := D) hs
  rcases Dst.rank hE h (D s + 1) s (by omega) hs hD with ⟨z1, z2⟩ | ⟨z1, z2, t, k, e1, e2, e3, e4⟩
  · rw [z2]; exact ⟨by omega, by omega, Or.inl ⟨z1, rfl⟩⟩
  · obtain ⟨a1, a2, a3⟩ := e4 (by omega)
    obtain ⟨q1, q2, q3, q4, q5, q6⟩ := hE t s k e1
    exact ⟨by omega, by omega, Or.inr ⟨z1, by omega, t, k, e1, q1, q4, q5, by omega, e2, a1, a2⟩⟩
theorem Dst.small (hE : EP E n) (h : Dst E n g D) (h8 : n ≤ 8) {s : Nat} (hs : s < n) : D s ≤ 6307 ∨ D s = 100000 := by
  have := h.2.1 s hs
  by_cases c : D s < 100000
  · have := h.st hE h8 hs c
    omega
  · omega
theorem Dst.fix (hE : EP E n) (h : Dst E n g D) (h8 : n ≤ 8) {s t k : Nat} (e : E s t k) (hD : D s < 100000) : D t ≤ D s + 100 * k + 1 ∧ D t < 100000 := by
  obtain ⟨q1, q2, q3, q4, q5, q6⟩ := hE s t k e
  have h1 := h.2.2.1 s t k e hD
  have := h.small hE h8 q1
  have := h.small hE h8 q2
  omega
theorem Dst.le (hE : EP E n) (h : Dst E n g D) (h' : Dst E n g D') (h8 : n ≤ 8) : ∀ (m s : Nat), D s < m → s < n → D' s ≤ D s
  | 0, s, h0, _ => absurd h0 (Nat.not_lt_zero _)
  | m + 1, s, hm, hs => by
    by_cases c : D s < 100000
    · rcases (h.st hE h8 hs c).2.2 with ⟨z1, z2⟩ | ⟨z1, z2, t, k, e1, e2, e3, e4, e5, e6, e7, e8⟩
      · rw [z1, h'.1]; omega
      · have ih := Dst.le hE h h' h8 m t (by omega) e2
        have := h'.fix hE h8 e1 (by omega)
        omega
    · have := h'.2.1 s hs
      omega
theorem Dst.uniq (hE : EP E n) (h : Dst E n g D) (h' : Dst E n g D') (h8 : n ≤ 8) {s : Nat} (hs : s < n) : D s = D' s := Nat.le_antisymm (Dst.le hE h' h h8 (D' s + 1) s (by omega) hs) (Dst.le hE h h' h8 (D s + 1) s (by omega) hs)
/-- as far from a to b as from b to a -/
theorem Dst.back_le {a b : Nat} (hE : EP E n) (h : Dst E n a D) (h' : Dst E n b D') (h8 : n ≤ 8) : ∀ (m t : Nat), D t < m → t < n → D t < 100000 → D' t < 100000 → D' a ≤ D' t + D t
  | 0, t, h0, _, _, _ => absurd h0 (Nat.not_lt_zero _)
  | m + 1, t, hm, ht, hD, hD' => by
    rcases (h.st hE h8 ht hD).2.2 with ⟨z1, z2⟩ | ⟨z1, z2, s, k, e1, e2, e3, e4, e5, e6, e7, e8⟩
    · subst z1; omega
    · have f := h'.fix hE h8 (hE _ _ _ e1).2.2.2.2.2 hD'
      have ih := Dst.back_le hE h h' h8 m s (by omega) e2 (by omega) f.2
      omega
theorem Dst.back {a b : Nat} (hE : EP E n) (h : Dst E n a D) (h' : Dst E n b D') (h8 : n ≤ 8) (ha : a < n) (hb : b < n) : D b = D' a := by
  have l : ∀ {a b : Nat} {D D' : Nat → Nat}, a < n → b < n → Dst E n a D → Dst E n b D' → D' a ≤ D b := fun {a b D D'} ha hb h h' => by
    by_cases c : D b < 100000
    · have := Dst.back_le hE h h' h8 (D b + 1) b (by omega) hb c (by rw [h'.1]; omega)
      rw [h'.1] at this; omega
    · have := h'.2.1 a ha
      omega
  exact Nat.le_antisymm (l hb ha h' h) (l ha hb h h')
end DS
