-- The pure side: when a functional form answers, and what; loops; bits.
def wp {β : Type} (f : Option β) (Q : β → Prop) : Prop := ∃ r, f = some r ∧ Q r
def R2 {α β : Type} (f : Option α) (g : Option β) (Q : α → β → Prop) : Prop := ∃ r s, f = some r ∧ g = some s ∧ Q r s
theorem wp_some {β : Type} {r : β} {Q : β → Prop} : wp (some r) Q ↔ Q r := ⟨fun ⟨x, h, q⟩ => by cases h; exact q, fun q => ⟨r, rfl, q⟩⟩
theorem wp_of {β : Type} {f : Option β} {r : β} {Q : β → Prop} (h : f = some r) (q : Q r) : wp f Q := ⟨r, h, q⟩
theorem wp_mono {β : Type} {f : Option β} {P Q : β → Prop} (h : wp f P) (hq : ∀ r, P r → Q r) : wp f Q := by
  obtain ⟨r, e, p⟩ := h
  exact ⟨r, e, hq r p⟩
theorem wp_eq {β : Type} {f : Option β} {r : β} : wp f (fun x => x = r) ↔ f = some r := ⟨fun ⟨x, h, q⟩ => by rw [h, q], fun h => ⟨r, h, rfl⟩⟩
theorem wp_bo {α β : Type} {f : Option α} {k : α → Option β} {Q : β → Prop} : wp (x_bo f k) Q ↔ wp f (fun r => wp (k r) Q) := by
  cases f with
  | none => exact ⟨fun ⟨_, h, _⟩ => (by cases h), fun ⟨_, h, _⟩ => (by cases h)⟩
  | some r => exact (wp_some (Q := fun r => wp (k r) Q)).symm
theorem wp_lt {α β : Type} {a : α} {k : α → Option β} {Q : β → Prop} : wp (x_lt a k) Q ↔ wp (k a) Q := Iff.rfl
theorem wp_ite {β : Type} {c : Prop} [Decidable c] {f g : Option β} {Q : β → Prop} : wp (if c then f else g) Q ↔ (c → wp f Q) ∧ (¬ c → wp g Q) := by
  by_cases h : c
  · rw [if_pos h]; exact ⟨fun q => ⟨fun _ => q, fun z => absurd h z⟩, fun q => q.1 h⟩
  · rw [if_neg h]; exact ⟨fun q => ⟨fun z => absurd z h, fun _ => q⟩, fun q => q.2 h⟩
theorem ck_in {β : Type} {k n : Nat} {f : Option β} (h : k < n) (hn : n < 2 ^ 31) : x_ck (nI k) n f = f := if_neg (nI_in h hn)
theorem ck_eq {β : Type} {x : Int32} {k n : Nat} {f : Option β} (hx : x = nI k) (h : k < n) (hn : n < 2 ^ 31) : x_ck x n f = f := by rw [hx]; exact ck_in h hn
theorem nz_of {β : Type} {y : Int32} {f : Option β} (h : ¬ y = 0) : x_nz y f = f := if_neg h
theorem bo_some {α β : Type} {a : α} {k : α → Option β} : x_bo (some a) k = k a := rfl
theorem bo_eq {α β : Type} {f : Option α} {a : α} {k : α → Option β} (h : f = some a) : x_bo f k = k a := by rw [h]; rfl
theorem lt_eq {α β : Type} {a : α} {k : α → β} : x_lt a k = k a := rfl
theorem R2_some {α β : Type} {r : α} {s : β} {Q : α → β → Prop} (h : Q r s) : R2 (some r) (some s) Q := ⟨r, s, rfl, rfl, h⟩
theorem R2_l {α β γ : Type} {f : Option γ} {k : γ → Option α} {g : Option β} {Q : α → β → Prop} (h : wp f (fun r => R2 (k r) g Q)) : R2 (x_bo f k) g Q := by
  obtain ⟨r, e, q⟩ := h
  rw [e]; exact q
theorem R2_r {α β γ : Type} {f : Option α} {g : Option γ} {m : γ → Option β} {Q : α → β → Prop} (h : wp g (fun s => R2 f (m s) Q)) : R2 f (x_bo g m) Q := by
  obtain ⟨r, e, q⟩ := h
  rw [e]; exact q
theorem R2_bo {α β γ δ : Type} {f : Option γ} {g : Option δ} {k : γ → Option α} {m : δ → Option β} {P : γ → δ → Prop} {Q : α → β → Prop} (h : R2 f g P) (hq : ∀ r s, P r s → R2 (k r) (m s) Q) : R2 (x_bo f k) (x_bo g m) Q := by
  obtain ⟨r, s, e1, e2, p⟩ := h
  rw [e1, e2]; exact hq r s p
theorem R2_mono {α β : Type} {f : Option α} {g : Option β} {P Q : α → β → Prop} (h : R2 f g P) (hq : ∀ r s, P r s → Q r s) : R2 f g Q := by
  obtain ⟨r, s, e1, e2, p⟩ := h
  exact ⟨r, s, e1, e2, hq r s p⟩
theorem R2_wp {α β : Type} {f : Option α} {g : Option β} {Q : α → β → Prop} (h : wp f (fun r => wp g (fun s => Q r s))) : R2 f g Q := by
  obtain ⟨r, e1, s, e2, q⟩ := h
  exact ⟨r, s, e1, e2, q⟩
-- loops
theorem lp_ind {φ σ β : Type} (ap : φ → σ → Option β) {z : φ} {b : φ → φ} (P : Nat → σ → Prop) (Q : β → Prop) (h : ∀ (n : Nat) (K : φ) (s : σ), P n s → (∀ (m : Nat) (s' : σ), m < n → P m s' → wp (ap K s') Q) → wp (ap (b K) s) Q) : ∀ (fu n : Nat) (s : σ), n < fu → P n s → wp (ap (x_lp z b fu) s) Q := by
  intro fu
  induction fu with
  | zero => intro n s hn _; exact absurd hn (Nat.not_lt_zero n)
  | succ fu ih => intro n s hn hp; exact h n (x_lp z b fu) s hp (fun m s' hm hp' => ih m s' (by omega) hp')
theorem lp2_ind {φ φ' σ β β' : Type} (ap : φ → σ → Option β) (ap' : φ' → σ → Option β') {z : φ} {b : φ → φ} {z' : φ'} {b' : φ' → φ'} (P : Nat → σ → Prop) (Q : β → β' → Prop) (h : ∀ (n : Nat) (K : φ) (K' : φ') (s : σ), P n s → (∀ (m : Nat) (s' : σ), m < n → P m s' → R2 (ap K s') (ap' K' s') Q) → R2 (ap (b K) s) (ap' (b' K') s) Q) : ∀ (fu fu' n : Nat) (s : σ), n < fu → n < fu' → P n s → R2 (ap (x_lp z b fu) s) (ap' (x_lp z' b' fu') s) Q := by
  intro fu
  induction fu with
  | zero => intro fu' n s hn; exact absurd hn (Nat.not_lt_zero n)
  | succ fu ih =>
    intro fu' n s hn hn' hp
    obtain ⟨fu', rfl⟩ : ∃ q, fu' = q + 1 := ⟨fu' - 1, by omega⟩
    exact h n (x_lp z b fu) (x_lp z' b' fu') s hp (fun m s' hm hp' => ih fu' m s' (by omega) (by omega) hp')
-- counting loops: a state and a counter from i to n
theorem lp_for {σ β : Type} {z : σ → Int32 → Option β} {b : (σ → Int32 → Option β) → σ → Int32 → Option β} {n : Nat} (P : Nat → σ → Prop) (Q : β → Prop) (h : ∀ (K : σ → Int32 → Option β) (i : Nat) (a : σ), i < n → P i a → (∀ a', P (i + 1) a' → wp (K a' (nI (i + 1))) Q) → wp (b K a (nI i)) Q) (he : ∀ (K : σ → Int32 → Option β) (a : σ), P n a → wp (b K a (nI n)) Q) : ∀ (fu : Nat) (a : σ), n < fu → P 0 a → wp (x_lp z b fu a 0) Q := by
  intro fu a hf hp
  refine lp_ind (fun (K : σ → Int32 → Option β) (s : σ × Int32) => K s.1 s.2) (fun m s => ∃ i, i + m = n ∧ s.2 = nI i ∧ P i s.1) Q (fun m K s hs ih => ?_) fu n (a, 0) hf ⟨0, by omega, rfl, hp⟩
  obtain ⟨i, h1, h2, h3⟩ := hs
  obtain ⟨a, c⟩ := s
  have h2 : c = nI i := h2
  subst h2
  match m, h1 with
  | 0, h1 => obtain rfl : i = n := by omega
             exact he K a h3
  | m + 1, h1 => exact h K i a (by omega) h3 (fun a' ha' => ih m (a', nI (i + 1)) (by omega) ⟨i + 1, by omega, rfl, ha'⟩)
-- a set of places as bits, a sum, a union
def bs (p : Nat → Bool) : Nat → Int32
  | 0 => 0
  | n + 1 => if p n = true then bs p n ||| ((1 : Int32) <<< (nI n &&& 31)) else bs p n
def sm (f : Nat → Int32) : Nat → Int32
  | 0 => 0
  | n + 1 => sm f n + f n
def om (f : Nat → Int32) : Nat → Int32
  | 0 => 0
  | n + 1 => om f n ||| f n
theorem bs_congr {p q : Nat → Bool} : ∀ {n : Nat}, (∀ i, i < n → p i = q i) → bs p n = bs q n
  | 0, _ => rfl
  | n + 1, h => by
    unfold bs
    rw [h n (by omega), bs_congr (fun i hi => h i (by omega))]
theorem sm_congr {p q : Nat → Int32} : ∀ {n : Nat}, (∀ i, i < n → p i = q i) → sm p n = sm q n
  | 0, _ => rfl
  | n + 1, h => by
    unfold sm
    rw [h n (by omega), sm_congr (fun i hi => h i (by omega))]
theorem om_congr {p q : Nat → Int32} : ∀ {n : Nat}, (∀ i, i < n → p i = q i) → om p n = om q n
  | 0, _ => rfl
  | n + 1, h => by
    unfold om
    rw [h n (by omega), om_congr (fun i hi => h i (by omega))]
theorem bs_more {p : Nat → Bool} {n : Nat} : ∀ {m : Nat}, n ≤ m → (∀ i, n ≤ i → i < m → p i = false) → bs p m = bs p n
  | 0, h, _ => by obtain rfl : n = 0 := by omega
                  rfl
  | m + 1, h, hp => by
    by_cases c : n = m + 1
    · rw [c]
    · unfold bs
      rw [hp m (by omega) (by omega), if_neg (by decide)]
      rw [bs_more (by omega) (fun i h1 h2 => hp i h1 (by omega))]
      cases n <;> rfl
theorem sm_more {p : Nat → Int32} {n : Nat} : ∀ {m : Nat}, n ≤ m → (∀ i, n ≤ i → i < m → p i = 0) → sm p m = sm p n
  | 0, h, _ => by obtain rfl : n = 0 := by omega
                  rfl
  | m + 1, h, hp => by
    by_cases c : n = m + 1
    · rw [c]
    · unfold sm
      rw [hp m (by omega) (by omega), Int32.add_zero]
      rw [sm_more (by omega) (fun i h1 h2 => hp i h1 (by omega))]
      cases n <;> rfl
theorem i_or0 (x : Int32) : x ||| 0 = x := Int32.or_zero
theorem om_more {p : Nat → Int32} {n : Nat} : ∀ {m : Nat}, n ≤ m → (∀ i, n ≤ i → i < m → p i = 0) → om p m = om p n
  | 0, h, _ => by obtain rfl : n = 0 := by omega
                  rfl
  | m + 1, h, hp => by
    by_cases c : n = m + 1
    · rw [c]
    · unfold om
      rw [hp m (by omega) (by omega), i_or0]
      rw [om_more (by omega) (fun i h1 h2 => hp i h1 (by omega))]
      cases n <;> rfl
-- rows
theorem rg_in {n k : Nat} {v : XM} (h : k < n) (hn : n < 2 ^ 31) : r_get n v (nI k) = v.1 1 k := by
  unfold r_get
  rw [nI_toInt (by omega), nI_clamp (by omega), if_pos (by omega)]
theorem rg_eq {n k : Nat} {v : XM} {x : Int32} (hx : x = nI k) (h : k < n) (hn : n < 2 ^ 31) : r_get n v x = v.1 1 k := by rw [hx]; exact rg_in h hn
def x_row (v : XM) (id : Nat) (g : Nat → Int32) : XM := (fun i => if i = id then g else v.1 i, v.2)
def up (g : Nat → Int32) (k : Nat) (x : Int32) : Nat → Int32 := fun j => if j = k then x else g j
theorem up_eq {g : Nat → Int32} {k : Nat} {x : Int32} : up g k x k = x := if_pos rfl
theorem up_ne {g : Nat → Int32} {k j : Nat} {x : Int32} (h : j ≠ k) : up g k x j = g j := if_neg h
theorem si_row {v : XM} {id k : Nat} {x : Int32} : x_si v id k x = x_row v id (up (v.1 id) k x) := by
  refine Prod.ext ?_ rfl
  funext i j
  show (if i = id ∧ j = k then x else v.1 i j) = (if i = id then up (v.1 id) k x else v.1 i) j
  by_cases h : i = id
  · subst h
    rw [if_pos rfl]
    by_cases h2 : j = k
    · subst h2; rw [if_pos ⟨rfl, rfl⟩, up_eq]
    · rw [if_neg (fun q => h2 q.2), up_ne h2]
  · rw [if_neg (fun q => h q.1), if_neg h]
theorem rp_in {n k : Nat} {v : XM} {x : Int32} (h : k < n) (hn : n < 2 ^ 31) : r_put n v (nI k) x = x_row v 1 (up (v.1 1) k x) := by
  unfold r_put
  rw [nI_toInt (by omega), nI_clamp (by omega), if_pos (by omega), si_row]
theorem ra_in {n k : Nat} {v : XM} {x : Int32} (h : k < n) (hn : n < 2 ^ 31) : r_add n v (nI k) x = x_row v 1 (up (v.1 1) k (v.1 1 k + x)) := by
  unfold r_add
  rw [nI_toInt (by omega), nI_clamp (by omega), if_pos (by omega), si_row]
theorem pa_in {v : XM} {id k : Nat} {x : Int32} (h : k < 2 ^ 31) : x_pa v id (nI k) x = x_row v id (up (v.1 id) k x) := by
  unfold x_pa
  rw [nI_clamp h, si_row]
theorem ga_in {v : XM} {id k : Nat} (h : k < 2 ^ 31) : x_ga v id (nI k) = v.1 id k := by
  unfold x_ga
  rw [nI_clamp h]
theorem put_row {v : XM} {o n i : Nat} {g : Nat → Int32} (h : i < n) : x_put v o n (x_row (x_sub v o) i g) = x_row v (i + o) g := by
  refine Prod.ext ?_ ?_
  · funext j
    show (if o ≤ j ∧ j < o + n then (if j - o = i then g else v.1 (j - o + o)) else v.1 j) = if j = i + o then g else v.1 j
    by_cases c : o ≤ j ∧ j < o + n
    · rw [if_pos c, Nat.sub_add_cancel c.1]
      by_cases c2 : j = i + o
      · rw [if_pos (by omega), if_pos c2]
      · rw [if_neg (by omega), if_neg c2]
    · rw [if_neg c, if_neg (by omega)]
  · funext j
    show (if o ≤ j ∧ j < o + n then v.2 (j - o + o) else v.2 j) = v.2 j
    by_cases c : o ≤ j ∧ j < o + n
    · rw [if_pos c, Nat.sub_add_cancel c.1]
    · rw [if_neg c]
theorem put_self {v : XM} {o n : Nat} : x_put v o n (x_sub v o) = v := by
  refine Prod.ext ?_ ?_ <;> funext j
  · show (if o ≤ j ∧ j < o + n then v.1 (j - o + o) else v.1 j) = v.1 j
    by_cases c : o ≤ j ∧ j < o + n
    · rw [if_pos c, Nat.sub_add_cancel c.1]
    · rw [if_neg c]
  · show (if o ≤ j ∧ j < o + n then v.2 (j - o + o) else v.2 j) = v.2 j
    by_cases c : o ≤ j ∧ j < o + n
    · rw [if_pos c, Nat.sub_add_cancel c.1]
    · rw [if_neg c]
theorem row_row {v : XM} {i : Nat} {g g' : Nat → Int32} : x_row (x_row v i g) i g' = x_row v i g' := by
  refine Prod.ext ?_ rfl
  funext j
  show (if j = i then g' else if j = i then g else v.1 j) = if j = i then g' else v.1 j
  by_cases c : j = i
  · rw [if_pos c, if_pos c]
  · rw [if_neg c, if_neg c, if_neg c]
theorem row_self {v : XM} {i : Nat} : x_row v i (v.1 i) = v := by
  refine Prod.ext ?_ rfl
  funext j
  show (if j = i then v.1 i else v.1 j) = v.1 j
  by_cases c : j = i
  · rw [if_pos c, c]
  · rw [if_neg c]
theorem row_comm {v : XM} {i k : Nat} {g g' : Nat → Int32} (h : i ≠ k) : x_row (x_row v i g) k g' = x_row (x_row v k g') i g := by
  refine Prod.ext ?_ rfl
  funext j
  show (if j = k then g' else if j = i then g else v.1 j) = (if j = i then g else if j = k then g' else v.1 j)
  by_cases c : j = k
  · rw [if_pos c, if_pos c, if_neg (by omega)]
  · rw [if_neg c, if_neg c]
theorem row_at {v : XM} {i : Nat} {g : Nat → Int32} : (x_row v i g).1 i = g := if_pos rfl
theorem row_off {v : XM} {i j : Nat} {g : Nat → Int32} (h : j ≠ i) : (x_row v i g).1 j = v.1 j := if_neg h
/-- but for the cells C all is as it was -/
def Fr (C : List Nat) (u u' : XM) : Prop := u'.2 = u.2 ∧ ∀ i, i ∉ C → u'.1 i = u.1 i
theorem Fr.rf {C : List Nat} {u : XM} : Fr C u u := ⟨rfl, fun _ _ => rfl⟩
theorem Fr.tr {C : List Nat} {u v w : XM} (h : Fr C u v) (g : Fr C v w) : Fr C u w := ⟨g.1.trans h.1, fun i hi => (g.2 i hi).trans (h.2 i hi)⟩
theorem Fr.row {C : List Nat} {u v : XM} {i : Nat} {g : Nat → Int32} (h : Fr C u v) (hi : i ∈ C) : Fr C u (x_row v i g) := ⟨h.1, fun j hj => (row_off (fun q => hj (by rw [q]; exact hi))).trans (h.2 j hj)⟩
theorem Fr.si {C : List Nat} {u v : XM} {i k : Nat} {x : Int32} (h : Fr C u v) (hi : i ∈ C) : Fr C u (x_si v i k x) := by rw [si_row]; exact h.row hi
theorem Fr.mono {C C' : List Nat} {u v : XM} (h : Fr C u v) (hs : ∀ i, i ∈ C → i ∈ C') : Fr C' u v := ⟨h.1, fun i hi => h.2 i (fun q => hi (hs i q))⟩
