-- Orders of things: the least over a set, both sides.
/-- the least of z and f i for i < n with p i -/
def mv (p : Nat → Bool) (f : Nat → Nat) (z : Nat) : Nat → Nat
  | 0 => z
  | n + 1 => if p n = true then (if f n ≤ mv p f z n then f n else mv p f z n) else mv p f z n
theorem mv_congr {p : Nat → Bool} {f g : Nat → Nat} {z : Nat} : ∀ n, (∀ i, i < n → p i = true → f i = g i) → mv p f z n = mv p g z n
  | 0, _ => rfl
  | n + 1, h => by
    unfold mv
    rw [mv_congr n (fun i hi hp => h i (by omega) hp)]
    by_cases c : p n = true
    · rw [if_pos c, if_pos c, h n (by omega) c]
    · rw [if_neg c, if_neg c]
theorem mv_le {p : Nat → Bool} {f : Nat → Nat} {z : Nat} : ∀ n, mv p f z n ≤ z ∧ ∀ i, i < n → p i = true → mv p f z n ≤ f i
  | 0 => ⟨Nat.le_refl _, fun i hi => absurd hi (Nat.not_lt_zero _)⟩
  | n + 1 => by
    obtain ⟨h1, h2⟩ := mv_le (p := p) (f := f) (z := z) n
    unfold mv
    by_cases c : p n = true
    · rw [if_pos c]
      by_cases c2 : f n ≤ mv p f z n
      · rw [if_pos c2]
        refine ⟨by omega, fun i hi hp => ?_⟩
        by_cases ci : i = n
        · rw [ci]; omega
        · have := h2 i (by omega) hp; omega
      · rw [if_neg c2]
        refine ⟨h1, fun i hi hp => ?_⟩
        by_cases ci : i = n
        · rw [ci]; omega
        · exact h2 i (by omega) hp
    · rw [if_neg c]
      refine ⟨h1, fun i hi hp => ?_⟩
      by_cases ci : i = n
      · rw [ci] at hp; exact absurd hp c
      · exact h2 i (by omega) hp
theorem mv_ge {p : Nat → Bool} {f : Nat → Nat} {z x : Nat} : ∀ n, x ≤ z → (∀ i, i < n → p i = true → x ≤ f i) → x ≤ mv p f z n
  | 0, h, _ => h
  | n + 1, h, h2 => by
    have ih := mv_ge n h (fun i hi hp => h2 i (by omega) hp)
    unfold mv
    by_cases c : p n = true
    · have := h2 n (by omega) c
      rw [if_pos c]; split <;> omega
    · rw [if_neg c]; exact ih
/-- the two writings of how many hours -/
def LK (n c d : Nat) : Prop := (c = d ∧ c ≤ 63 * n) ∨ (65536 ≤ c ∧ 100000 ≤ d)
theorem LK.mono {n n' c d : Nat} (h : LK n c d) (hn : n ≤ n') : LK n' c d := by unfold LK at h ⊢; omega
theorem LK.add {n n' c d c' d' : Nat} (h : LK n c d) (h' : LK n' c' d') : LK (n + n') (c + c') (d + d') := by unfold LK at h h' ⊢; omega
theorem mv_LK {p : Nat → Bool} {f g : Nat → Nat} {z z' k : Nat} (hz : LK k z z') (hk : k ≤ 500) : ∀ n, (∀ i, i < n → p i = true → LK k (f i) (g i)) → LK k (mv p f z n) (mv p g z' n)
  | 0, _ => hz
  | n + 1, h => by
    have ih := mv_LK (p := p) (f := f) (g := g) hz hk n (fun i hi hp => h i (by omega) hp)
    have h2 := h n (by omega)
    unfold mv
    by_cases c : p n = true
    · have h2 := h2 c
      rw [if_pos c, if_pos c]
      unfold LK at ih h2 ⊢
      split <;> split <;> omega
    · rw [if_neg c, if_neg c]; exact ih
/-- hours for all of m from s, by the best first -/
def cT (cap nT : Nat) (far : Nat → Nat → Nat) (ys : Nat → Nat) : Nat → Nat → Nat → Nat
  | 0, _, _ => 0
  | n + 1, m, s => if m = 0 then 0 else mv (fun t => bt (nI m) t) (fun t => far s (ys t) + cT cap nT far ys n (m - 2 ^ t) (ys t)) cap nT
def TT (cap nT : Nat) (far : Nat → Nat → Nat) (ys : Nat → Nat) (m s : Nat) : Nat := cT cap nT far ys (m + 1) m s
theorem m_bit : ∀ m, m < 64 → ∀ t, t < 6 → bt (nI m) t = true → 2 ^ t ≤ m ∧ nI m &&& (((1 : Int32) <<< (nI t &&& 31)) ^^^ (-1)) = nI (m - 2 ^ t) := by decide +kernel
theorem m_some : ∀ n, n < 7 → ∀ m, m < 2 ^ n → m ≠ 0 → ∃ t, t < n ∧ bt (nI m) t = true := by decide +kernel
theorem p2_pos (t : Nat) : 0 < 2 ^ t := Nat.two_pow_pos t
def pcN (k : Nat) : Nat := cnt (fun t => bt (nI k) t) 6
theorem pc_m : ∀ m, m < 64 → ∀ t, t < 6 → bt (nI m) t = true → pcN (m - 2 ^ t) + 1 = pcN m := by decide +kernel
theorem pc_le (m : Nat) : pcN m ≤ 6 := cnt_le 6
theorem pc_pos : ∀ m, m < 64 → m ≠ 0 → 1 ≤ pcN m := by decide +kernel
section TX
variable {cap nT : Nat} {far : Nat → Nat → Nat} {ys : Nat → Nat}
theorem cT_fuel (hT : nT ≤ 6) : ∀ (n n' m s : Nat), m < 64 → m < n → m < n' → cT cap nT far ys n m s = cT cap nT far ys n' m s
  | 0, _, _, _, _, h, _ => absurd h (Nat.not_lt_zero _)
  | _ + 1, 0, _, _, _, _, h => absurd h (Nat.not_lt_zero _)
  | n + 1, n' + 1, m, s, h64, h, h' => by
    unfold cT
    by_cases c : m = 0
    · rw [if_pos c, if_pos c]
    · rw [if_neg c, if_neg c]
      refine mv_congr nT (fun t ht hp => ?_)
      have h1 := (m_bit m h64 t (by omega) hp).1
      have h2 := p2_pos t
      rw [cT_fuel hT n n' (m - 2 ^ t) (ys t) (by omega) (by omega) (by omega)]
theorem TT_0 {s : Nat} : TT cap nT far ys 0 s = 0 := by
  unfold TT cT
  rw [if_pos rfl]
theorem TT_s (hT : nT ≤ 6) {m s : Nat} (h64 : m < 64) (h0 : m ≠ 0) : TT cap nT far ys m s = mv (fun t => bt (nI m) t) (fun t => far s (ys t) + TT cap nT far ys (m - 2 ^ t) (ys t)) cap nT := by
  show (if m = 0 then 0 else mv (fun t => bt (nI m) t) (fun t => far s (ys t) + cT cap nT far ys m (m - 2 ^ t) (ys t)) cap nT) = _
  rw [if_neg h0]
  refine mv_congr nT (fun t ht hp => ?_)
  have h1 := (m_bit m h64 t (by omega) hp).1
  have h2 := p2_pos t
  show far s (ys t) + cT cap nT far ys m (m - 2 ^ t) (ys t) = far s (ys t) + cT cap nT far ys (m - 2 ^ t + 1) (m - 2 ^ t) (ys t)
  rw [cT_fuel hT m (m - 2 ^ t + 1) (m - 2 ^ t) (ys t) (by omega) (by omega) (by omega)]
theorem TT_cap (hT : nT ≤ 6) {m s : Nat} (h64 : m < 64) : TT cap nT far ys m s ≤ cap := by
  by_cases c : m = 0
  · rw [c, TT_0]; omega
  · rw [TT_s hT h64 c]; exact (mv_le nT).1
theorem p2_64 {n : Nat} (h : n ≤ 6) : 2 ^ n ≤ 64 := by
  have := Nat.pow_le_pow_right (show 0 < 2 by decide) h
  simpa using this
theorem TT_le (hT : nT ≤ 6) {K : Nat} (hK : ∀ s t, far s t ≤ K) : ∀ (k m s : Nat), m < k → m < 2 ^ nT → TT cap nT far ys m s ≤ K * pcN m
  | 0, _, _, h, _ => absurd h (Nat.not_lt_zero _)
  | k + 1, m, s, h, hm => by
    have h64 := p2_64 hT
    by_cases c : m = 0
    · rw [c, TT_0]; omega
    · obtain ⟨t, ht, hp⟩ := m_some nT (by omega) m hm c
      have h1 := (m_bit m (by omega) t (by omega) hp).1
      have h2 := p2_pos t
      have ih := TT_le hT hK k (m - 2 ^ t) (ys t) (by omega) (by omega)
      have h3 := (mv_le (p := fun t => bt (nI m) t) (f := fun t => far s (ys t) + TT cap nT far ys (m - 2 ^ t) (ys t)) (z := cap) nT).2 t ht hp
      rw [TT_s hT (by omega) c]
      have h4 := hK s (ys t)
      have h5 : K + K * pcN (m - 2 ^ t) = K * pcN m := by
        rw [← pc_m m (by omega) t (by omega) hp, Nat.mul_succ]
        omega
      have h3 : mv (fun t => bt (nI m) t) (fun t => far s (ys t) + TT cap nT far ys (m - 2 ^ t) (ys t)) cap nT ≤ far s (ys t) + TT cap nT far ys (m - 2 ^ t) (ys t) := h3
      omega
end TX
theorem TT_LK {nS nT c1 c2 : Nat} {far far' : Nat → Nat → Nat} {ys : Nat → Nat} (hT : nT ≤ 6) (hc : 65536 ≤ c1 ∧ 100000 ≤ c2) (hy : ∀ t, t < nT → ys t < nS) (hf : ∀ s t, s < nS → t < nS → LK 1 (far s t) (far' s t)) : ∀ (k m s : Nat), m < k → m < 64 → s < nS → LK m (TT c1 nT far ys m s) (TT c2 nT far' ys m s)
  | 0, _, _, h, _, _ => absurd h (Nat.not_lt_zero _)
  | k + 1, m, s, h, hm, hs => by
    by_cases c : m = 0
    · rw [c, TT_0, TT_0]; exact Or.inl ⟨rfl, by omega⟩
    · rw [TT_s hT hm c, TT_s hT hm c]
      refine mv_LK (Or.inr hc) (by omega) nT (fun t ht hp => ?_)
      have h1 := (m_bit m hm t (by omega) hp).1
      have h2 := p2_pos t
      exact ((hf s (ys t) hs (hy t ht)).add (TT_LK hT hc hy hf k (m - 2 ^ t) (ys t) (by omega) (by omega) (hy t ht))).mono (by omega)
