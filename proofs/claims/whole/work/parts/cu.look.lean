-- a SENTENCE's pile and steps.
def Hl (g : Nat → Int32) (l : List Int32) : Prop := ∀ i x, l[i]? = some x → g i = x
def Hq (D : XM) (l : List (Int32 × Int32 × Int32)) : Prop := ∀ i x, l[i]? = some x → D.1 2 i = x.1 ∧ D.1 4 i = x.2.1 ∧ D.1 6 i = x.2.2
theorem Hl.snoc {g : Nat → Int32} {l : List Int32} (h : Hl g l) (x : Int32) : Hl (up g l.length x) (l ++ [x]) := by
  intro i y hy
  by_cases c : i < l.length
  · rw [List.getElem?_append_left c] at hy
    rw [up_ne (by omega)]; exact h i y hy
  · rw [List.getElem?_append_right (by omega)] at hy
    by_cases c2 : i = l.length
    · subst c2
      rw [Nat.sub_self] at hy
      rw [up_eq]; exact Option.some.inj hy
    · rw [List.getElem?_eq_none (by simp; omega)] at hy; exact absurd hy (by simp)
theorem Hl.pre {g : Nat → Int32} {l m : List Int32} (h : Hl g (l ++ m)) : Hl g l := fun i x hx => h i x (by
  have : i < l.length := (List.getElem?_eq_some_iff.mp hx).1
  rw [List.getElem?_append_left this]; exact hx)
theorem Hl.last {g : Nat → Int32} {l : List Int32} {x : Int32} (h : Hl g (l ++ [x])) : g l.length = x := h _ _ (by rw [List.getElem?_append_right (Nat.le_refl _), Nat.sub_self]; rfl)
/-- what the class has of a SENTENCE: pile S, steps Q, within W, ones on -/
def SRel (D : XM) (S : List Int32) (Q : List (Int32 × Int32 × Int32)) (W on : Nat) : Prop := D.1 0 0 = nI on ∧ D.1 0 1 = nI Q.length ∧ D.1 0 6 = nI S.length ∧ D.1 0 7 = nI W ∧ Hl (D.1 8) S ∧ Hq D Q
theorem sput {M : XM} {o f k : Nat} {x : Int32} {g : Nat → Int32} (hk : k < 40) (e : M.1 0 f = nI k) (e2 : M.1 (1 + o) = g) : x_put M o 2 (r_put 40 (x_sub M o) (M.1 0 f) x) = x_row M (1 + o) (up g k x) := by rw [e, put_rput hk (by omega), e2]
section CU
variable {x : Int32} {S : List Int32} {Q : List (Int32 × Int32 × Int32)} {D : XM} {W on n : Nat}
theorem s_push (h : SRel D S Q W on) (hs : S.length < 40) (x : Int32) : SRel (f_X4_push D x) (S ++ [x]) Q W on := by
  obtain ⟨h0, h1, h6, h7, h8, hq⟩ := h
  have e1 : x_put D 7 2 (r_put 40 (x_sub D 7) (D.1 0 6) x) = x_row D 8 (up (D.1 8) S.length x) := sput hs h6 rfl
  unfold f_X4_push
  simp only [lt_eq]
  rw [e1, show (x_row D 8 (up (D.1 8) S.length x)).1 0 6 = nI S.length from by rw [row_off (by omega)]; exact h6, nI_1]
  refine ⟨?_, ?_, ?_, ?_, ?_, fun i y hy => ?_⟩
  · rw [si_n (by omega), row_off (by omega)]; exact h0
  · rw [si_n (by omega), row_off (by omega)]; exact h1
  · rw [si_0, List.length_append]; rfl
  · rw [si_n (by omega), row_off (by omega)]; exact h7
  · rw [si_r (by omega), row_at]; exact h8.snoc x
  · rw [si_r (by omega), si_r (by omega), si_r (by omega), row_off (by omega), row_off (by omega), row_off (by omega)]; exact hq i y hy
theorem s_top (h : SRel D S Q W on) (hs : S.length ≤ 40) : (S = [] → f_X4_top D = -1) ∧ (∀ S0 x, S = S0 ++ [x] → f_X4_top D = x) := by
  obtain ⟨h0, h1, h6, h7, h8, hq⟩ := h
  unfold f_X4_top
  rw [h6]
  constructor
  · rintro rfl
    rw [if_pos (show nI ([] : List Int32).length ≤ 0 by decide)]
  · rintro S0 x rfl
    have hl : (S0 ++ [x]).length = S0.length + 1 := by rw [List.length_append]; rfl
    rw [hl] at hs ⊢
    rw [if_neg (nI_nle (by omega) (by omega)), (nI_m1 (by omega)).2, Nat.add_sub_cancel, rg_in (by omega) (by omega), lt_eq]
    exact h8.last
theorem s_step (h : SRel D S Q W on) (hq : Q.length < 40) (w s x : Int32) : ∃ D', f_X4_addStep D w s x = (1, D') ∧ SRel D' S (Q ++ [(w, s, x)]) W on := by
  obtain ⟨h0, h1, h6, h7, h8, hQ⟩ := h
  have h3 : (x_row D 2 (up (D.1 2) Q.length w)).1 0 1 = nI Q.length := by rw [row_off (by omega)]; exact h1
  have h5 : (x_row (x_row D 2 (up (D.1 2) Q.length w)) 4 (up (D.1 4) Q.length s)).1 0 1 = nI Q.length := by rw [row_off (by omega)]; exact h3
  have h9 : (x_row (x_row (x_row D 2 (up (D.1 2) Q.length w)) 4 (up (D.1 4) Q.length s)) 6 (up (D.1 6) Q.length x)).1 0 1 = nI Q.length := by rw [row_off (by omega)]; exact h5
  have e1 : x_put D 1 2 (r_put 40 (x_sub D 1) (D.1 0 1) w) = x_row D 2 (up (D.1 2) Q.length w) := sput hq h1 rfl
  have e3 : x_put (x_row D 2 (up (D.1 2) Q.length w)) 3 2 (r_put 40 (x_sub (x_row D 2 (up (D.1 2) Q.length w)) 3) ((x_row D 2 (up (D.1 2) Q.length w)).1 0 1) s) = x_row (x_row D 2 (up (D.1 2) Q.length w)) 4 (up (D.1 4) Q.length s) := sput hq h3 (by rw [row_off (by omega)])
  have e5 : x_put (x_row (x_row D 2 (up (D.1 2) Q.length w)) 4 (up (D.1 4) Q.length s)) 5 2 (r_put 40 (x_sub (x_row (x_row D 2 (up (D.1 2) Q.length w)) 4 (up (D.1 4) Q.length s)) 5) ((x_row (x_row D 2 (up (D.1 2) Q.length w)) 4 (up (D.1 4) Q.length s)).1 0 1) x) = x_row (x_row (x_row D 2 (up (D.1 2) Q.length w)) 4 (up (D.1 4) Q.length s)) 6 (up (D.1 6) Q.length x) := sput hq h5 (by rw [row_off (by omega), row_off (by omega)])
  unfold f_X4_addStep
  simp only [lt_eq]
  rw [e1, e3, e5, h9, nI_1]
  refine ⟨_, rfl, ?_, ?_, ?_, ?_, ?_, fun i y hy => ?_⟩
  · rw [si_n (by omega), row_off (by omega), row_off (by omega), row_off (by omega)]; exact h0
  · rw [si_0, List.length_append]; rfl
  · rw [si_n (by omega), row_off (by omega), row_off (by omega), row_off (by omega)]; exact h6
  · rw [si_n (by omega), row_off (by omega), row_off (by omega), row_off (by omega)]; exact h7
  · rw [si_r (by omega), row_off (by omega), row_off (by omega), row_off (by omega)]; exact h8
  · have r2 : (x_si (x_row (x_row (x_row D 2 (up (D.1 2) Q.length w)) 4 (up (D.1 4) Q.length s)) 6 (up (D.1 6) Q.length x)) 0 1 (nI (Q.length + 1))).1 2 = up (D.1 2) Q.length w := by rw [si_r (by omega), row_off (by omega), row_off (by omega), row_at]
    have r4 : (x_si (x_row (x_row (x_row D 2 (up (D.1 2) Q.length w)) 4 (up (D.1 4) Q.length s)) 6 (up (D.1 6) Q.length x)) 0 1 (nI (Q.length + 1))).1 4 = up (D.1 4) Q.length s := by rw [si_r (by omega), row_off (by omega), row_at]
    have r6 : (x_si (x_row (x_row (x_row D 2 (up (D.1 2) Q.length w)) 4 (up (D.1 4) Q.length s)) 6 (up (D.1 6) Q.length x)) 0 1 (nI (Q.length + 1))).1 6 = up (D.1 6) Q.length x := by rw [si_r (by omega), row_at]
    rw [r2, r4, r6]
    by_cases c : i < Q.length
    · rw [List.getElem?_append_left c] at hy
      rw [up_ne (by omega), up_ne (by omega), up_ne (by omega)]; exact hQ i y hy
    · rw [List.getElem?_append_right (by omega)] at hy
      by_cases c2 : i = Q.length
      · subst c2
        rw [Nat.sub_self] at hy
        have := Option.some.inj hy
        subst this
        rw [up_eq, up_eq, up_eq]; exact ⟨rfl, rfl, rfl⟩
      · rw [List.getElem?_eq_none (by simp; omega)] at hy; exact absurd hy (by simp)
/-- the pile one lower -/
theorem s_pop (h : SRel D (S ++ [x]) Q W on) : SRel (x_si D 0 6 (nI S.length)) S Q W on := by
  obtain ⟨h0, h1, h6, h7, h8, hq⟩ := h
  refine ⟨(si_n (by omega)).trans h0, (si_n (by omega)).trans h1, si_0, (si_n (by omega)).trans h7, ?_, fun i y hy => ?_⟩
  · rw [si_r (by omega)]; exact h8.pre
  · rw [si_r (by omega), si_r (by omega), si_r (by omega)]; exact hq i y hy
theorem s_within (h : SRel D S Q W on) (W' : Nat) : SRel (x_si D 0 7 (nI W')) S Q W' on := by
  obtain ⟨h0, h1, h6, h7, h8, hq⟩ := h
  refine ⟨(si_n (by omega)).trans h0, (si_n (by omega)).trans h1, (si_n (by omega)).trans h6, si_0, ?_, fun i y hy => ?_⟩
  · rw [si_r (by omega)]; exact h8
  · rw [si_r (by omega), si_r (by omega), si_r (by omega)]; exact hq i y hy
theorem s_ones (h : SRel D S Q W on) (on' : Nat) : SRel (x_si D 0 0 (nI on')) S Q W on' := by
  obtain ⟨h0, h1, h6, h7, h8, hq⟩ := h
  refine ⟨si_0, (si_n (by omega)).trans h1, (si_n (by omega)).trans h6, (si_n (by omega)).trans h7, ?_, fun i y hy => ?_⟩
  · rw [si_r (by omega)]; exact h8
  · rw [si_r (by omega), si_r (by omega), si_r (by omega)]; exact hq i y hy
theorem len_1 {α : Type} (l : List α) (x : α) : (l ++ [x]).length = l.length + 1 := by rw [List.length_append]; rfl
/-- the settling of NOTs -/
theorem s_nots : ∀ (n : Nat) (fu : Nat) (D : XM) (Q : List (Int32 × Int32 × Int32)) (W : Nat), n < fu → SRel D (S ++ List.replicate n 19) Q W on → n ≤ W → W ≤ 8 → Q.length + n ≤ 40 → S.length + n ≤ 40 → (∀ S0, S ≠ S0 ++ [19]) → ∃ D', x_lp (φ := XM → Option (XM)) (fun _ => none) (f_X4_settleNots_0) fu D = some D' ∧ SRel D' S (Q ++ List.replicate n (19, 0, 0)) (W - n) on
  | 0, fu, D, Q, W, hf, h, hW, hW8, hQ, hS, hne => by
    obtain ⟨fu, rfl⟩ : ∃ q, fu = q + 1 := ⟨fu - 1, by omega⟩
    refine ⟨D, ?_, ?_⟩
    · rw [List.replicate_zero, List.append_nil] at h
      show f_X4_settleNots_0 _ D = _
      unfold f_X4_settleNots_0
      obtain ⟨t1, t2⟩ := s_top h (by omega)
      by_cases c : S = []
      · subst c
        rw [if_pos (show D.1 0 6 ≤ 0 from by rw [h.2.2.1]; decide)]
      · obtain ⟨S0, x, e⟩ : ∃ S0 x, S = S0 ++ [x] := ⟨S.dropLast, S.getLast c, (List.dropLast_concat_getLast c).symm⟩
        have hx : ¬ x = 19 := fun z => hne S0 (by rw [e, z])
        have hl : 0 < S.length := by rw [e, len_1]; omega
        rw [if_neg (show ¬ D.1 0 6 ≤ 0 from by rw [h.2.2.1]; exact nI_nle hl (by omega)), t2 S0 x e, lt_eq, if_neg hx]
    · rw [List.replicate_zero, List.append_nil] at h ⊢; exact h
  | n + 1, fu, D, Q, W, hf, h, hW, hW8, hQ, hS, hne => by
    obtain ⟨fu, rfl⟩ : ∃ q, fu = q + 1 := ⟨fu - 1, by omega⟩
    have e19 : S ++ List.replicate (n + 1) 19 = (S ++ List.replicate n 19) ++ [19] := by rw [List.append_assoc, ← List.replicate_succ']
    rw [e19] at h
    have hln : (S ++ List.replicate n 19).length = S.length + n := by rw [List.length_append, List.length_replicate]
    have hln1 : ((S ++ List.replicate n 19) ++ [19]).length = S.length + n + 1 := by rw [len_1, hln]
    obtain ⟨-, t2⟩ := s_top h (by omega)
    obtain ⟨D1, e1, h1⟩ := s_step h (by omega) 19 0 0
    have h2 := s_within (s_pop h1) (W - 1)
    obtain ⟨D', e2, h3⟩ := s_nots n fu _ _ _ (by omega) h2 (by omega) (by omega) (by rw [len_1]; omega) (by omega) hne
    refine ⟨D', ?_, ?_⟩
    · show f_X4_settleNots_0 (x_lp (φ := XM → Option (XM)) (fun _ => none) (f_X4_settleNots_0) fu) D = _
      unfold f_X4_settleNots_0
      rw [if_neg (show ¬ D.1 0 6 ≤ 0 from by rw [h.2.2.1]; exact nI_nle (by omega) (by omega)), t2 _ _ rfl, lt_eq, if_pos rfl, e1, lt_eq, lt_eq, lt_eq]
      dsimp only
      rw [show D1.1 0 6 = nI (S.length + n + 1) from by rw [h1.2.2.1, hln1], (nI_m1 (by omega)).2, Nat.add_sub_cancel, show (x_si D1 0 6 (nI (S.length + n))).1 0 7 = nI W from (si_n (by omega)).trans h1.2.2.2.1, (nI_m1 (by omega)).2, ← hln]
      exact e2
    · have er : (Q ++ [(19, 0, 0)]) ++ List.replicate n (19, 0, 0) = Q ++ List.replicate (n + 1) ((19, 0, 0) : Int32 × Int32 × Int32) := by rw [List.append_assoc, List.replicate_succ]; rfl
      rw [er, show W - 1 - n = W - (n + 1) by omega] at h3
      exact h3
end CU
