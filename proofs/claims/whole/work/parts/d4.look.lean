-- of whom it may be said: trees and steps.
def CT4 (u : XM) (N : Nat) (D : XM) (lost hi i : Int32) : Option (Int32 × XM) := x_lp (φ := XM → Int32 → Int32 → Int32 → Option (Int32 × XM)) (fun _ _ _ _ => none) (f_X4_those_5 u) N D lost hi i
theorem CT4_s {u D : XM} {N : Nat} {lost hi i : Int32} : CT4 u (N + 1) D lost hi i = f_X4_those_5 u (CT4 u N) D lost hi i := rfl
section D4
variable {nS nF nT nW bB k p w d i m : Nat} {v v' u D : XM} {s x lost : Int32} {G : Nat → Int32} {rc : XM → Int32 → Int32 → Option (Int32 × XM)} {S : List Int32} {P : List (Int32 × Int32 × Int32)}
theorem r_335 {a y n3 : Int32} (hk : k < 60) (h3 : v.1 2 (113 + 4 * k + 3) = n3) (hs : n3 = 60 ∨ n3 = 61 ∨ n3 = 62) : f_X12_holds_335 rc v (nI (113 + 4 * k)) y a = some (bI (cmpB a n3 y), v) := by
  have a3 : nI (113 + 4 * k) + 3 = nI (113 + 4 * k + 3) := by rw [kl_3, nI_add]
  unfold f_X12_holds_335 cmpB
  rw [a3, ck_in (by omega) (by omega), ck_in (by omega) (by omega), ga_in (by omega), h3]
  rcases hs with rfl | rfl | rfl
  · rw [if_pos rfl, if_pos rfl]
    by_cases c : y ≤ a
    · rw [if_pos c, decide_eq_true c]; rfl
    · rw [if_neg c, decide_eq_false c]; rfl
  · rw [if_neg (show ¬ (61 : Int32) = 60 by decide), if_pos rfl, if_neg (show ¬ (61 : Int32) = 60 by decide), if_neg (show ¬ (61 : Int32) = 62 by decide)]
    by_cases c : a = y
    · rw [if_pos c, decide_eq_true c]; rfl
    · rw [if_neg c, decide_eq_false c]; rfl
  · rw [if_neg (show ¬ (62 : Int32) = 60 by decide), if_neg (show ¬ (62 : Int32) = 61 by decide), if_neg (show ¬ (62 : Int32) = 60 by decide), if_pos rfl]
    by_cases c : a ≤ y
    · rw [if_pos c, decide_eq_true c]; rfl
    · rw [if_neg c, decide_eq_false c]; rfl
/-- the reference: a plain ONE -/
theorem r_one (h : RW nS nF nT nW bB u v) (hp : p < nW) (hk : k < 60) (hw : 20 ≤ w) (hw2 : w ≤ 28) (h0 : v.1 2 (113 + 4 * k) = nI (50 + w)) (h23 : w = 23 ∨ w = 24 → v.1 2 (113 + 4 * k + 1) = x) (h25 : 25 ≤ w → v.1 2 (113 + 4 * k + 2) = x ∧ v.1 2 (113 + 4 * k + 3) = s ∧ (s = 60 ∨ s = 61 ∨ s = 62)) : ∃ G', f_X12_holds rc (x_row v 11 G) (nI k) (nI p) = some (bI (oneB nS v w s x p), x_row v 11 G') := by
  have hb := h.b
  have e2 : (x_row v 11 G).1 2 = v.1 2 := row_off (by omega)
  have a0 : (113 : Int32) + (4 : Int32) * nI k = nI (113 + 4 * k) := by rw [kl_113, kl_4, pk_mul, nI_add]
  have a2 : nI (113 + 4 * k) + 2 = nI (113 + 4 * k + 2) := by rw [kl_2, nI_add]
  have hg : f_X12_isGoing (x_row v 11 G) (nI p) = some (bI (goB v p)) := by
    rw [r_isGoing (by omega)]
    unfold goB
    rw [e2]
  unfold f_X12_holds oneB
  rw [a0]
  simp only [lt_eq]
  rw [nI_1 (113 + 4 * k), a2, ck_in (by omega) (by omega), ck_in (by omega) (by omega), ck_in (by omega) (by omega), ga_in (by omega), ga_in (by omega), ga_in (by omega), e2, h0]
  have n1 : ∀ w, 20 ≤ w → w ≤ 28 → ¬ nI (50 + w) = 1 ∧ ¬ nI (50 + w) = 2 ∧ ¬ nI (50 + w) = 3 := fun w q1 q2 => ⟨fun z => by have := nI_iff (b := 1) (by omega) (by omega) z; omega, fun z => by have := nI_iff (b := 2) (by omega) (by omega) z; omega, fun z => by have := nI_iff (b := 3) (by omega) (by omega) z; omega⟩
  rw [if_neg (n1 w hw hw2).1, if_neg (n1 w hw hw2).2.1, if_neg (n1 w hw hw2).2.2]
  have ww : w = 20 ∨ w = 21 ∨ w = 22 ∨ w = 23 ∨ w = 24 ∨ w = 25 ∨ w = 26 ∨ w = 27 ∨ w = 28 := by omega
  have c74 : ∀ f : Option (Int32 × XM), x_ck ((74 : Int32) + nI p) 353 f = f := fun f => by rw [kl_74, nI_add, ck_in (by omega) (by omega)]
  have c94 : ∀ f : Option (Int32 × XM), x_ck ((94 : Int32) + nI p) 353 f = f := fun f => by rw [kl_94, nI_add, ck_in (by omega) (by omega)]
  have c84 : ∀ f : Option (Int32 × XM), x_ck ((84 : Int32) + nI p) 353 f = f := fun f => by rw [kl_84, nI_add, ck_in (by omega) (by omega)]
  have c89 : ∀ f : Option (Int32 × XM), x_ck ((89 : Int32) + nI p) 353 f = f := fun f => by rw [kl_89, nI_add, ck_in (by omega) (by omega)]
  have c65 : ∀ f : Option (Int32 × XM), x_ck ((65 : Int32) + nI p) 353 f = f := fun f => by rw [kl_65, nI_add, ck_in (by omega) (by omega)]
  have g74 : x_ga (x_row v 11 G) 2 ((74 : Int32) + nI p) = v.1 2 (74 + p) := by rw [kl_74, nI_add, ga_in (by omega), e2]
  have g94 : x_ga (x_row v 11 G) 2 ((94 : Int32) + nI p) = v.1 2 (94 + p) := by rw [kl_94, nI_add, ga_in (by omega), e2]
  have g84 : x_ga (x_row v 11 G) 2 ((84 : Int32) + nI p) = v.1 2 (84 + p) := by rw [kl_84, nI_add, ga_in (by omega), e2]
  have g89 : x_ga (x_row v 11 G) 2 ((89 : Int32) + nI p) = v.1 2 (89 + p) := by rw [kl_89, nI_add, ga_in (by omega), e2]
  have g65 : x_ga (x_row v 11 G) 2 ((65 : Int32) + nI p) = v.1 2 (65 + p) := by rw [kl_65, nI_add, ga_in (by omega), e2]
  have g5 : x_ga (x_row v 11 G) 2 (5 : Int32) = v.1 2 5 := by rw [kl_5, ga_in (by omega), e2]
  have hs : ∀ a b : Int32, f_X12_has a b = bI (decide ((a >>> (b &&& 31)) &&& 1 = 1)) := fun a b => by unfold f_X12_has; rw [dI]
  have h3 : 25 ≤ w → (x_row v 11 G).1 2 (113 + 4 * k + 3) = s ∧ (s = 60 ∨ s = 61 ∨ s = 62) := fun q => by rw [e2]; exact (h25 q).2
  have ck : ∀ f : Option (Int32 × XM), x_ck (nI (113 + 4 * k)) 353 f = f := fun f => ck_in (by omega) (by omega)
  rcases ww with rfl | rfl | rfl | rfl | rfl | rfl | rfl | rfl | rfl
  · rw [if_pos (show nI (50 + 20) = 70 from rfl), hg, bo_some, if_pos rfl]; exact ⟨G, rfl⟩
  · rw [if_neg (show ¬ nI (50 + 21) = 70 by decide), if_pos (show nI (50 + 21) = 71 from rfl), hg, bo_some, if_neg (show ¬ (21 : Nat) = 20 by decide), if_pos rfl]
    cases goB v p with
    | true => rw [if_neg (show ¬ bI true = 0 by decide)]; exact ⟨G, rfl⟩
    | false =>
      rw [if_pos bIf, c74, g5, g74, hs]
      cases decide ((v.1 2 5 >>> (v.1 2 (74 + p) &&& 31)) &&& 1 = 1) with
      | true => rw [if_neg (show ¬ bI true = 0 by decide)]; exact ⟨G, rfl⟩
      | false => rw [if_pos bIf]; exact ⟨G, rfl⟩
  · have h' : RW nS nF nT nW bB u (x_row v 11 G) := h.of e2
    obtain ⟨r, e, G', rfl⟩ := r_isLost h' hp
    rw [lsB_congr (v' := x_row v 11 G) h e2 hp, row_row] at e
    rw [if_neg (show ¬ nI (50 + 22) = 70 by decide), if_neg (show ¬ nI (50 + 22) = 71 by decide), if_pos (show nI (50 + 22) = 72 from rfl), e, bo_some, if_neg (show ¬ (22 : Nat) = 20 by decide), if_neg (show ¬ (22 : Nat) = 21 by decide), if_pos rfl]
    exact ⟨G', rfl⟩
  · rw [if_neg (show ¬ nI (50 + 23) = 70 by decide), if_neg (show ¬ nI (50 + 23) = 71 by decide), if_neg (show ¬ nI (50 + 23) = 72 by decide), if_pos (show nI (50 + 23) = 73 from rfl), hg, bo_some, if_neg (show ¬ (23 : Nat) = 20 by decide), if_neg (show ¬ (23 : Nat) = 21 by decide), if_neg (show ¬ (23 : Nat) = 22 by decide), if_pos rfl, h23 (Or.inl rfl)]
    cases goB v p with
    | true => rw [if_neg (show ¬ bI true = 0 by decide)]; exact ⟨G, rfl⟩
    | false =>
      rw [if_pos bIf, c74, g74]
      by_cases c : v.1 2 (74 + p) = x
      · rw [if_pos c, decide_eq_true c]; exact ⟨G, rfl⟩
      · rw [if_neg c, decide_eq_false c]; exact ⟨G, rfl⟩
  · rw [if_neg (show ¬ nI (50 + 24) = 70 by decide), if_neg (show ¬ nI (50 + 24) = 71 by decide), if_neg (show ¬ nI (50 + 24) = 72 by decide), if_neg (show ¬ nI (50 + 24) = 73 by decide), if_pos (show nI (50 + 24) = 74 from rfl), c94, g94, hs, h23 (Or.inr rfl), if_neg (show ¬ (24 : Nat) = 20 by decide), if_neg (show ¬ (24 : Nat) = 21 by decide), if_neg (show ¬ (24 : Nat) = 22 by decide), if_neg (show ¬ (24 : Nat) = 23 by decide), if_pos rfl]
    exact ⟨G, rfl⟩
  · obtain ⟨q1, q2⟩ := h3 (by omega)
    rw [if_neg (show ¬ nI (50 + 25) = 70 by decide), if_neg (show ¬ nI (50 + 25) = 71 by decide), if_neg (show ¬ nI (50 + 25) = 72 by decide), if_neg (show ¬ nI (50 + 25) = 73 by decide), if_neg (show ¬ nI (50 + 25) = 74 by decide), ck, show nI (50 + 25) - 50 = 25 by decide, if_pos rfl, c84, g84, r_335 hk q1 q2, (h25 (by omega)).1, if_neg (show ¬ (25 : Nat) = 20 by decide), if_neg (show ¬ (25 : Nat) = 21 by decide), if_neg (show ¬ (25 : Nat) = 22 by decide), if_neg (show ¬ (25 : Nat) = 23 by decide), if_neg (show ¬ (25 : Nat) = 24 by decide), if_pos rfl]
    exact ⟨G, rfl⟩
  · obtain ⟨q1, q2⟩ := h3 (by omega)
    rw [if_neg (show ¬ nI (50 + 26) = 70 by decide), if_neg (show ¬ nI (50 + 26) = 71 by decide), if_neg (show ¬ nI (50 + 26) = 72 by decide), if_neg (show ¬ nI (50 + 26) = 73 by decide), if_neg (show ¬ nI (50 + 26) = 74 by decide), ck, show nI (50 + 26) - 50 = 26 by decide, if_neg (show ¬ (26 : Int32) = 25 by decide), if_pos rfl, c89, g89, r_335 hk q1 q2, (h25 (by omega)).1, if_neg (show ¬ (26 : Nat) = 20 by decide), if_neg (show ¬ (26 : Nat) = 21 by decide), if_neg (show ¬ (26 : Nat) = 22 by decide), if_neg (show ¬ (26 : Nat) = 23 by decide), if_neg (show ¬ (26 : Nat) = 24 by decide), if_neg (show ¬ (26 : Nat) = 25 by decide), if_pos rfl]
    exact ⟨G, rfl⟩
  · obtain ⟨q1, q2⟩ := h3 (by omega)
    rw [if_neg (show ¬ nI (50 + 27) = 70 by decide), if_neg (show ¬ nI (50 + 27) = 71 by decide), if_neg (show ¬ nI (50 + 27) = 72 by decide), if_neg (show ¬ nI (50 + 27) = 73 by decide), if_neg (show ¬ nI (50 + 27) = 74 by decide), ck, show nI (50 + 27) - 50 = 27 by decide, if_neg (show ¬ (27 : Int32) = 25 by decide), if_neg (show ¬ (27 : Int32) = 26 by decide), if_pos rfl, c65, g65, r_335 hk q1 q2, (h25 (by omega)).1, if_neg (show ¬ (27 : Nat) = 20 by decide), if_neg (show ¬ (27 : Nat) = 21 by decide), if_neg (show ¬ (27 : Nat) = 22 by decide), if_neg (show ¬ (27 : Nat) = 23 by decide), if_neg (show ¬ (27 : Nat) = 24 by decide), if_neg (show ¬ (27 : Nat) = 25 by decide), if_neg (show ¬ (27 : Nat) = 26 by decide), if_pos rfl]
    exact ⟨G, rfl⟩
  · obtain ⟨q1, q2⟩ := h3 (by omega)
    rw [if_neg (show ¬ nI (50 + 28) = 70 by decide), if_neg (show ¬ nI (50 + 28) = 71 by decide), if_neg (show ¬ nI (50 + 28) = 72 by decide), if_neg (show ¬ nI (50 + 28) = 73 by decide), if_neg (show ¬ nI (50 + 28) = 74 by decide), ck, show nI (50 + 28) - 50 = 28 by decide, if_neg (show ¬ (28 : Int32) = 25 by decide), if_neg (show ¬ (28 : Int32) = 26 by decide), if_neg (show ¬ (28 : Int32) = 27 by decide), r_335 hk q1 q2, (h25 (by omega)).1, if_neg (show ¬ (28 : Nat) = 20 by decide), if_neg (show ¬ (28 : Nat) = 21 by decide), if_neg (show ¬ (28 : Nat) = 22 by decide), if_neg (show ¬ (28 : Nat) = 23 by decide), if_neg (show ¬ (28 : Nat) = 24 by decide), if_neg (show ¬ (28 : Nat) = 25 by decide), if_neg (show ¬ (28 : Nat) = 26 by decide), if_neg (show ¬ (28 : Nat) = 27 by decide)]
    exact ⟨G, rfl⟩
end D4
