-- letters and words.
def ltr (b : Nat) : Bool := decide (97 ≤ b) && decide (b ≤ 122)
def dgt (b : Nat) : Bool := decide (48 ≤ b) && decide (b ≤ 57)
def blk (b : Nat) : Bool := b == 32 || b == 10
def sgn (b : Nat) : Bool := b == 59 || b == 60 || b == 61 || b == 62 || b == 40 || b == 41
theorem k_ltr : ∀ b, b < 256 → f_X8_isLetter (nI b) = bI (ltr b) := by decide +kernel
theorem k_dgt : ∀ b, b < 256 → f_X8_isDigit (nI b) = bI (dgt b) := by decide +kernel
theorem k_blk : ∀ b, b < 256 → f_X8_isBlank (nI b) = bI (blk b) := by decide +kernel
theorem k_sgn : ∀ b, b < 256 → f_X8_isSignByte (nI b) = bI (sgn b) := by decide +kernel
theorem q_ltr : ∀ b, b < 256 → f_X12_isLetter (nI b) = bI (ltr b) := by decide +kernel
theorem q_dgt : ∀ b, b < 256 → f_X12_isDigit (nI b) = bI (dgt b) := by decide +kernel
theorem lg0 {x y : Int64} : lg_cmp x y = 0 ↔ x = y := by
  unfold lg_cmp
  constructor
  · intro h
    by_cases c : x > y
    · rw [if_pos c] at h; exact absurd h (by decide)
    · rw [if_neg c] at h
      by_cases d : x = y
      · exact d
      · rw [if_neg d] at h; exact absurd h (by decide)
  · intro h
    subst h
    rw [if_neg (show ¬ x > x from Int64.lt_irrefl), if_pos rfl]
/-- a word read from behind -/
def fr (b : Nat) : List Nat → Nat
  | [] => 0
  | c :: t => b * fr b t + c
theorem eN_snoc (b : Nat) (l : List Nat) (c : Nat) : eN b (l ++ [c]) = b * eN b l + c := by
  unfold eN; rw [List.foldl_append]; rfl
theorem eN_fr (b : Nat) : ∀ r : List Nat, eN b r.reverse = fr b r
  | [] => rfl
  | c :: t => by rw [List.reverse_cons, eN_snoc, eN_fr b t]; rfl
theorem fr_inj {b : Nat} (hb : 27 ≤ b) : ∀ l l' : List Nat, (∀ c ∈ l, 1 ≤ c ∧ c ≤ 26) → (∀ c ∈ l', 1 ≤ c ∧ c ≤ 26) → fr b l = fr b l' → l = l'
  | [], [], _, _, _ => rfl
  | [], c :: t, _, h', h => by
    have := h' c (List.mem_cons_self ..)
    have e : 0 = b * fr b t + c := h
    omega
  | c :: t, [], h', _, h => by
    have := h' c (List.mem_cons_self ..)
    have e : b * fr b t + c = 0 := h
    omega
  | c :: t, c' :: t', h1, h2, h => by
    have a1 := h1 c (List.mem_cons_self ..)
    have a2 := h2 c' (List.mem_cons_self ..)
    have e : b * fr b t + c = b * fr b t' + c' := h
    have m1 : (b * fr b t + c) % b = c := by rw [Nat.mul_add_mod]; exact Nat.mod_eq_of_lt (by omega)
    have m2 : (b * fr b t' + c') % b = c' := by rw [Nat.mul_add_mod]; exact Nat.mod_eq_of_lt (by omega)
    have ec : c = c' := by rw [← m1, ← m2, e]
    subst ec
    have e2 : b * fr b t = b * fr b t' := by omega
    have e3 := Nat.eq_of_mul_eq_mul_left (show 0 < b by omega) e2
    rw [fr_inj hb t t' (fun x hx => h1 x (List.mem_cons_of_mem _ hx)) (fun x hx => h2 x (List.mem_cons_of_mem _ hx)) e3]
theorem eN_inj {b : Nat} (hb : 27 ≤ b) {l l' : List Nat} (h1 : ∀ c ∈ l, 1 ≤ c ∧ c ≤ 26) (h2 : ∀ c ∈ l', 1 ≤ c ∧ c ≤ 26) (h : eN b l = eN b l') : l = l' := by
  rw [← List.reverse_reverse l, ← List.reverse_reverse l', eN_fr, eN_fr] at h
  have := fr_inj hb l.reverse l'.reverse (fun c hc => h1 c (List.mem_reverse.mp hc)) (fun c hc => h2 c (List.mem_reverse.mp hc)) h
  rw [← List.reverse_reverse l, this, List.reverse_reverse]
theorem fr_lt {b : Nat} (hb : 27 ≤ b) : ∀ l : List Nat, (∀ c ∈ l, 1 ≤ c ∧ c ≤ 26) → fr b l < b ^ l.length
  | [], _ => by show 0 < b ^ 0; rw [Nat.pow_zero]; omega
  | c :: t, h => by
    have a1 := h c (List.mem_cons_self ..)
    have := fr_lt hb t (fun x hx => h x (List.mem_cons_of_mem _ hx))
    show b * fr b t + c < b ^ (t.length + 1)
    rw [Nat.pow_succ, Nat.mul_comm (b ^ t.length)]
    have : b * (fr b t + 1) ≤ b * b ^ t.length := Nat.mul_le_mul_left b (by omega)
    rw [Nat.mul_add] at this
    omega
theorem eN_lt {b : Nat} (hb : 27 ≤ b) (hb2 : b ≤ 32) {l : List Nat} (h : ∀ c ∈ l, 1 ≤ c ∧ c ≤ 26) (hl : l.length ≤ 8) : eN b l < 2 ^ 63 := by
  have e : eN b l = fr b l.reverse := by rw [← eN_fr, List.reverse_reverse]
  have h1 := fr_lt hb l.reverse (fun c hc => h c (List.mem_reverse.mp hc))
  rw [← e, List.length_reverse] at h1
  have h2 : b ^ l.length ≤ 32 ^ l.length := Nat.pow_le_pow_left hb2 _
  have h3 : 32 ^ l.length ≤ 32 ^ 8 := Nat.pow_le_pow_right (by omega) hl
  have h4 : 32 ^ 8 < 2 ^ 63 := by decide
  omega
theorem okW_inj {b : Nat} (hb : 27 ≤ b) (hb2 : b ≤ 32) {l l' : List Nat} (h : okW l) (h' : okW l') : lN (eN b l) = lN (eN b l') ↔ l = l' := by
  constructor
  · intro e
    have := (pk_lEQ (eN_lt hb hb2 h.2 (by have := h.1; omega)) (eN_lt hb hb2 h'.2 (by have := h'.1; omega))).mp e
    exact eN_inj hb h.2 h'.2 this
  · intro e; rw [e]
theorem okW_0 {l : List Nat} (h : okW l) : lN (eN 32 l) ≠ 0 := by
  intro e
  have := (pk_lEQ (b := 0) (eN_lt (by omega) (by omega) h.2 (by have := h.1; omega)) (by omega)).mp e
  have h1 := eN_inj (b := 32) (l := l) (l' := []) (by omega) h.2 (fun c hc => absurd hc (List.not_mem_nil)) this
  have := h.1.1
  rw [h1] at this
  exact absurd this (by decide)
theorem wd_len : x_wd.length = 29 := by decide
theorem wd_okB : (List.range 29).all (fun i => let l := x_wd.getD i []; decide (1 ≤ l.length) && decide (l.length ≤ 6) && l.all (fun c => decide (1 ≤ c) && decide (c ≤ 26))) = true := by decide
theorem wd_ok {i : Nat} (hi : i < 29) : okW (x_wd.getD i []) := by
  have := List.all_eq_true.mp wd_okB i (List.mem_range.mpr hi)
  dsimp only at this
  rw [Bool.and_eq_true, Bool.and_eq_true, decide_eq_true_eq, decide_eq_true_eq] at this
  refine ⟨⟨this.1.1, by omega⟩, fun c hc => ?_⟩
  have := List.all_eq_true.mp this.2 c hc
  rwa [Bool.and_eq_true, decide_eq_true_eq, decide_eq_true_eq] at this
theorem wd_inj : ∀ i, i < 29 → ∀ j, j < 29 → x_wd.getD i [] = x_wd.getD j [] → i = j := by decide
/-- the class's number of the reference's word -/
def pm (k : Nat) : Nat := if k = 3 then 6 else if k = 4 then 7 else if k = 5 then 8 else if k = 6 then 3 else if k = 7 then 4 else if k = 8 then 5 else k
theorem pm_lt : ∀ k, k < 29 → pm k < 29 := by decide
theorem pm_pm : ∀ k, k < 29 → pm (pm k) = k := by decide
theorem r_wordOf : ∀ k, k < 29 → f_X12_wordOf (nI k) = lN (eN 27 (x_wd.getD (pm k) [])) := by decide +kernel
/-- which word of the 29; 29: none -/
def wi (l : List Nat) : Nat := x_wd.idxOf l
theorem wi_i {l : List Nat} {i : Nat} (hi : i < 29) : wi l = i ↔ l = x_wd.getD i [] := by
  have hl := wd_len
  constructor
  · intro h
    have h2 : x_wd.idxOf l < x_wd.length := by unfold wi at h; omega
    have h3 := List.getElem_idxOf h2
    rw [← h3]
    unfold wi at h
    rw [List.getD_eq_getElem?_getD, List.getElem?_eq_getElem (show i < x_wd.length by omega), Option.getD_some]
    congr 1
  · intro h
    have hm : l ∈ x_wd := by
      rw [h, List.getD_eq_getElem?_getD, List.getElem?_eq_getElem (show i < x_wd.length by omega), Option.getD_some]
      exact List.getElem_mem _
    have h2 : x_wd.idxOf l < x_wd.length := List.idxOf_lt_length_of_mem hm
    have h3 := List.getElem_idxOf h2
    refine wd_inj _ (by unfold wi; omega) i hi ?_
    rw [← h]
    unfold wi
    rw [List.getD_eq_getElem?_getD, List.getElem?_eq_getElem h2, Option.getD_some, h3]
theorem wi_le (l : List Nat) : wi l ≤ 29 := by
  unfold wi; rw [← wd_len]; exact List.idxOf_le_length
