-- names told.
section CC
variable {n lim b p s a k nS nF nT nW bB : Nat} {t : Tok} {T v T' v' T'' v'' T0 v0 D : XM} {l : List Nat}
/-- a name that is told, or none -/
theorem nm_cases {cn rn : Nat → Int64} (h : RN nS nT nW cn rn) (hl : okW l) : (∃ i, i < 19 ∧ usd nS nT nW i ∧ cn i = lN (eN 32 l) ∧ rn i = lN (eN 27 l) ∧ (∀ j, j < 19 → cn j = lN (eN 32 l) → j = i) ∧ ∀ j, j < 19 → usd nS nT nW j → rn j = lN (eN 27 l) → j = i) ∨ ((∀ j, j < 19 → cn j ≠ lN (eN 32 l)) ∧ ∀ j, j < 19 → usd nS nT nW j → rn j ≠ lN (eN 27 l)) := by
  obtain ⟨h1, h2, h3⟩ := h
  have hc : ∀ j, j < 19 → cn j = lN (eN 32 l) → usd nS nT nW j := fun j hj e => by
    by_cases u : usd nS nT nW j
    · exact u
    · rw [h2 j hj u] at e; exact absurd e.symm (okW_0 hl)
  have hr : ∀ j, j < 19 → usd nS nT nW j → (rn j = lN (eN 27 l) ↔ cn j = lN (eN 32 l)) := fun j hj u => by
    obtain ⟨l', l1, l2, l3⟩ := h1 j hj u
    rw [l2, l3, okW_inj (by omega) (by omega) l1 hl, okW_inj (by omega) (by omega) l1 hl]
  by_cases c : ∃ i, i < 19 ∧ cn i = lN (eN 32 l)
  · obtain ⟨i, hi, e⟩ := c
    have u := hc i hi e
    refine Or.inl ⟨i, hi, u, e, (hr i hi u).mpr e, fun j hj q => h3 j i hj hi (hc j hj q) u (q.trans e.symm), fun j hj uj q => h3 j i hj hi uj u (((hr j hj uj).mp q).trans e.symm)⟩
  · refine Or.inr ⟨fun j hj q => c ⟨j, hj, q⟩, fun j hj u q => c ⟨j, hj, (hr j hj u).mp q⟩⟩
/-- the class looks a name up -/
theorem c_place {V : XM} {x : Int64} : (∀ i, i < 19 → V.2 15 i = x → (∀ j, j < 19 → V.2 15 j = x → j = i) → f_X9_placeOfName V x = some (nI i)) ∧ ((∀ j, j < 19 → V.2 15 j ≠ x) → f_X9_placeOfName V x = some (-1)) := by
  have st : ∀ (Q : Int32 → Prop), (∀ k, k < 19 → V.2 15 k = x → Q (nI k)) → ((∀ j, j < 19 → V.2 15 j ≠ x) → Q (-1)) → wp (f_X9_placeOfName V x) Q := by
    intro Q h1 h2
    unfold f_X9_placeOfName
    refine lp_fora (σ := Unit) (n := 19) (fun (K : Int64 → Int32 → Option (Int32)) _ c => K x c) (fun i _ => ∀ j, j < i → V.2 15 j ≠ x) _ ?_ ?_ x_NN () (by decide) (fun k hk => absurd hk (Nat.not_lt_zero _))
    · rintro K i _ hi hp ih
      show wp (f_X9_placeOfName_2 V K x (nI i)) _
      unfold f_X9_placeOfName_2
      rw [if_neg (show ¬ (19 : Int32) ≤ nI i from nI_ge (b := 19) (by omega) (by omega)), ck_in hi (by omega), show x_gl V 15 (nI i) = V.2 15 i from by unfold x_gl; rw [nI_clamp (by omega)], nI_1]
      by_cases c : V.2 15 i = x
      · rw [if_pos (lg0.mpr c), wp_some]; exact h1 i hi c
      · rw [if_neg (fun q => c (lg0.mp q))]
        refine ih () (fun j hj => ?_)
        by_cases cj : j = i
        · rw [cj]; exact c
        · exact hp j (by omega)
    · rintro K _ hp
      show wp (f_X9_placeOfName_2 V K x (nI 19)) _
      unfold f_X9_placeOfName_2
      rw [if_pos (show (19 : Int32) ≤ nI 19 from nI_le (a := 19) (b := 19) (by omega) (by omega)), wp_some]
      exact h2 hp
  exact ⟨fun i hi e u => wp_eq.mp (st _ (fun k hk q => by rw [u k hk q]) (fun q => absurd e (q i hi))), fun h => wp_eq.mp (st _ (fun k hk q => absurd q (h k hk)) (fun _ => rfl))⟩
/-- the reference looks a name up -/
theorem r_look {R : XM} {x : Int64} {o m : Nat} (hom : o + m ≤ 19) : (∀ i, i < m → R.2 0 (o + i) = x → (∀ j, j < m → R.2 0 (o + j) = x → j = i) → f_X12_findIn R (nI o) (nI m) x = some (nI i)) ∧ ((∀ j, j < m → R.2 0 (o + j) ≠ x) → f_X12_findIn R (nI o) (nI m) x = some (-1)) := by
  have st : ∀ (Q : Int32 → Prop), (∀ k, k < m → R.2 0 (o + k) = x → Q (nI k)) → ((∀ j, j < m → R.2 0 (o + j) ≠ x) → Q (-1)) → wp (f_X12_findIn R (nI o) (nI m) x) Q := by
    intro Q h1 h2
    unfold f_X12_findIn
    refine lp_fora (σ := Unit) (n := m) (fun (K : Int32 → Int32 → Int64 → Int32 → Option (Int32)) _ c => K (nI o) (nI m) x c) (fun i _ => ∀ j, j < i → R.2 0 (o + j) ≠ x) _ ?_ ?_ x_NN () (by show m < 1000000; omega) (fun k hk => absurd hk (Nat.not_lt_zero _))
    · rintro K i _ hi hp ih
      show wp (f_X12_findIn_3 R K (nI o) (nI m) x (nI i)) _
      unfold f_X12_findIn_3
      rw [if_neg (nI_ge hi (by omega)), nI_add, ck_in (show o + i < 19 by omega) (by omega), show x_gl R 0 (nI (o + i)) = R.2 0 (o + i) from by unfold x_gl; rw [nI_clamp (by omega)], nI_1]
      by_cases c : R.2 0 (o + i) = x
      · rw [if_pos (lg0.mpr c), wp_some]; exact h1 i hi c
      · rw [if_neg (fun q => c (lg0.mp q))]
        refine ih () (fun j hj => ?_)
        by_cases cj : j = i
        · rw [cj]; exact c
        · exact hp j (by omega)
    · rintro K _ hp
      show wp (f_X12_findIn_3 R K (nI o) (nI m) x (nI m)) _
      unfold f_X12_findIn_3
      rw [if_pos (nI_le (Nat.le_refl _) (by omega)), wp_some]
      exact h2 hp
  exact ⟨fun i hi e u => wp_eq.mp (st _ (fun k hk q => by rw [u k hk q]) (fun q => absurd e (q i hi))), fun h => wp_eq.mp (st _ (fun k hk q => absurd q (h k hk)) (fun _ => rfl))⟩
/-- one sort of names: o the first, m so many -/
theorem sort_find {R : XM} {cn : Nat → Int64} (h : RN nS nT nW cn (R.2 0)) (hb : nS ≤ 8 ∧ nT ≤ 6 ∧ nW ≤ 5) (hl : okW l) {o m M : Nat} (hs : (o = 0 ∧ m = nS ∧ M = 8) ∨ (o = 8 ∧ m = nT ∧ M = 6) ∨ (o = 14 ∧ m = nW ∧ M = 5)) {V : XM} (hV : V.2 15 = cn) : (∃ i, i < m ∧ f_X9_placeOfName V (lN (eN 32 l)) = some (nI (o + i)) ∧ f_X12_findIn R (nI o) (nI m) (lN (eN 27 l)) = some (nI i)) ∨ (f_X12_findIn R (nI o) (nI m) (lN (eN 27 l)) = some (-1) ∧ (f_X9_placeOfName V (lN (eN 32 l)) = some (-1) ∨ ∃ i, i < 19 ∧ f_X9_placeOfName V (lN (eN 32 l)) = some (nI i) ∧ (i < o ∨ o + M ≤ i))) := by
  obtain ⟨p1, p2⟩ := c_place (V := V) (x := lN (eN 32 l))
  obtain ⟨q1, q2⟩ := r_look (R := R) (x := lN (eN 27 l)) (o := o) (m := m) (by omega)
  have hu : ∀ i, i < m → usd nS nT nW (o + i) := fun i hi => by unfold usd; omega
  rcases nm_cases h hl with ⟨i, hi, u, e1, e2, e3, e4⟩ | ⟨e1, e2⟩
  · by_cases c : o ≤ i ∧ i < o + m
    · obtain ⟨k, rfl⟩ : ∃ k, i = o + k := ⟨i - o, by omega⟩
      refine Or.inl ⟨k, by omega, p1 _ hi (by rw [hV]; exact e1) (fun j hj q => e3 j hj (by rw [← hV]; exact q)), q1 k (by omega) e2 (fun j hj q => ?_)⟩
      have := e4 (o + j) (by omega) (hu j hj) q
      omega
    · refine Or.inr ⟨q2 (fun j hj q => ?_), Or.inr ⟨i, hi, p1 _ hi (by rw [hV]; exact e1) (fun j hj q => e3 j hj (by rw [← hV]; exact q)), ?_⟩⟩
      · have := e4 (o + j) (by omega) (hu j hj) q
        omega
      · unfold usd at u; omega
  · exact Or.inr ⟨q2 (fun j hj q => e2 (o + j) (by omega) (hu j hj) q), Or.inl (p2 (fun j hj => by rw [hV]; exact e1 j hj))⟩
/-- a NAME of one sort, in the class -/
theorem c_named (h : St n lim b p s t T0 v0 T v) {V : XM} {o M : Nat} (hoM : o + M ≤ 19) : (nmB t = false → f_X8_takeNamed T V (nI o) (nI M) = some (-1, (f_X8_refuse T (nI 1)).2)) ∧ (nmB t = true → ∀ x, f_X9_placeOfName V (lN (eN 32 t.2.2)) = some x → (∀ i, i < M → x = nI (o + i) → f_X8_takeNamed T V (nI o) (nI M) = x_bo (f_X8_advance T) (fun y => some (nI i, y))) ∧ ((x = -1 ∨ ∃ i, i < 19 ∧ x = nI i ∧ (i < o ∨ o + M ≤ i)) → f_X8_takeNamed T V (nI o) (nI M) = some (-1, (f_X8_refuse T (nI 3)).2))) := by
  have hc := h.1.2.2.1
  constructor
  · intro hn
    unfold f_X8_takeNamed
    rw [c_isName hc, hn, lt_eq, if_pos bIf]; rfl
  · intro hn x hx
    have e2 : t.1 = 2 := by
      unfold nmB at hn
      rw [Bool.and_eq_true, decide_eq_true_eq] at hn; exact hn.1
    have e9 := (hc.2.2.2.1 e2).2.1
    have base : f_X8_takeNamed T V (nI o) (nI M) = if (x - nI o) < (0 : Int32) then f_X8_takeNamed_38 V T else (if (x - nI o) < nI M then x_bo (f_X8_advance T) (fun y4 => some (x - nI o, y4)) else f_X8_takeNamed_38 V T) := by
      unfold f_X8_takeNamed
      rw [c_isName hc, hn, lt_eq, if_neg (show ¬ bI true = 0 by decide), e9, hx, bo_some]
    rw [base]
    constructor
    · rintro i hi rfl
      rw [pk_sub (by omega), if_neg (nI_pos (by omega)), if_pos (nI_lt (by omega) (by omega)), show o + i - o = i by omega]
    · rintro (rfl | ⟨i, hi, rfl, hio⟩)
      · rw [if_pos (by
          have : ∀ o, o < 20 → (-1 : Int32) - nI o < 0 := by decide
          exact this o (by omega))]; rfl
      · rcases hio with hio | hio
        · rw [if_pos (by
            have : ∀ o, o < 20 → ∀ i, i < o → nI i - nI o < 0 := by decide
            exact this o (by omega) i hio)]; rfl
        · rw [pk_sub (by omega), if_neg (nI_pos (by omega)), if_neg (nI_ge' (by omega) (by omega))]; rfl
end CC
