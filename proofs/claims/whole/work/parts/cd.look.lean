-- the reader of a VALLEY: what is read so far.
def DR (nS nF nT nW bB : Nat) (D v : XM) : Prop := RV nS nF nT nW bB (fun i => D.1 (i + 1)) (v.1 3) ∧ RN nS nT nW (D.2 16) (v.2 8) ∧ D.1 0 1 = v.1 0 23
/-- the names read so far -/
def DN (nS nT nW : Nat) (D v : XM) : Prop := v.1 3 0 = nI nS ∧ (nS ≤ 8 ∧ nT ≤ 6 ∧ nW ≤ 5) ∧ RN nS nT nW (D.2 16) (v.2 8)
theorem DR.dn {nS nF nT nW bB : Nat} {D v : XM} (h : DR nS nF nT nW bB D v) : DN nS nT nW D v := ⟨h.1.2.1.1, by have := h.1.1; omega, h.2.1⟩
def upL (g : Nat → Int64) (k : Nat) (x : Int64) : Nat → Int64 := fun j => if j = k then x else g j
section CD
variable {n lim b p s a k nS nF nT nW bB : Nat} {t : Tok} {T v T' v' T'' v'' T0 v0 D : XM} {l : List Nat}
theorem DR.fv (h : DR nS nF nT nW bB D v) (e3 : v'.1 3 = v.1 3) (e8 : v'.2 8 = v.2 8) (e0 : v'.1 0 23 = v.1 0 23) : DR nS nF nT nW bB D v' := by
  unfold DR at h ⊢
  rw [e3, e8, e0]; exact h
theorem RN.add {nS' nT' nW' i : Nat} {cn rn : Nat → Int64} (h : RN nS nT nW cn rn) (hi : i < 19) (hu : ¬ usd nS nT nW i) (hl : okW l) (hn : ∀ j, j < 19 → cn j ≠ lN (eN 32 l)) (hu' : ∀ j, j < 19 → (usd nS' nT' nW' j ↔ usd nS nT nW j ∨ j = i)) : RN nS' nT' nW' (upL cn i (lN (eN 32 l))) (upL rn i (lN (eN 27 l))) := by
  obtain ⟨h1, h2, h3⟩ := h
  have e : ∀ (g : Nat → Int64) x, upL g i x i = x := fun g x => if_pos rfl
  have ne : ∀ (g : Nat → Int64) x j, j ≠ i → upL g i x j = g j := fun g x j hj => if_neg hj
  refine ⟨fun j hj u => ?_, fun j hj u => ?_, fun j k hj hk uj uk q => ?_⟩
  · by_cases c : j = i
    · subst c; exact ⟨l, hl, e _ _, e _ _⟩
    · rw [ne _ _ _ c, ne _ _ _ c]
      exact h1 j hj (((hu' j hj).mp u).resolve_right c)
  · have hji : j ≠ i := fun c => u ((hu' j hj).mpr (Or.inr c))
    rw [ne _ _ _ hji]
    exact h2 j hj (fun c => u ((hu' j hj).mpr (Or.inl c)))
  · by_cases c : j = i
    · subst c
      by_cases c2 : k = j
      · exact c2.symm
      · rw [e, ne _ _ _ c2] at q
        exact absurd q.symm (hn k hk)
    · by_cases c2 : k = i
      · subst c2
        rw [e, ne _ _ _ c] at q
        exact absurd q (hn j hj)
      · rw [ne _ _ _ c, ne _ _ _ c2] at q
        exact h3 j k hj hk (((hu' j hj).mp uj).resolve_right c) (((hu' k hk).mp uk).resolve_right c2) q
theorem nm_2 (h : nmB t = true) : t.1 = 2 := by
  unfold nmB at h
  rw [Bool.and_eq_true, decide_eq_true_eq] at h; exact h.1
theorem St.told (h : St n lim b p s t T0 v0 T v) {x : Int32} : St n lim b p s t T0 v0 T (x_si v 0 13 x) := ⟨h.1.cong (si_r (by omega)) (fun j hj => si_n (by omega)) rfl, (h.2.1).trans (si_n (by omega)).symm, h.2.2.1, h.2.2.2.si (by omega)⟩
/-- a SPOT at hand -/
theorem St.here (h : St n lim b p s t T0 v0 T v) (d : DN nS nT nW D v) : (∃ T' v', f_X8_takeNamed T (x_sub D 1) 0 8 = some (-1, T') ∧ f_X12_isSpotHere v = some (0, v') ∧ Bd T0 v0 T' v') ∨ ∃ k, k < nS ∧ f_X12_isSpotHere v = some (1, x_si v 0 13 (nI k)) ∧ f_X8_takeNamed T (x_sub D 1) 0 8 = x_bo (f_X8_advance T) (fun y => some (nI k, y)) ∧ 2 ≤ t.1 := by
  have hc := h.1.2.2.1
  obtain ⟨d1, hb, d2⟩ := d
  have e0 : x_ga v 3 (0 : Int32) = nI nS := by rw [kl_0, ga_in (by omega)]; exact d1
  obtain ⟨c1, c2⟩ := c_named h (V := x_sub D 1) (o := 0) (M := 8) (by omega)
  unfold f_X12_isSpotHere
  rw [r_isName hc, bo_some]
  cases hn : nmB t with
  | false =>
    obtain ⟨T', v', b1, b2, b3⟩ := h.bad 1 (Or.inr rfl)
    refine Or.inl ⟨T', v', ?_, ?_, b3⟩
    · rw [show f_X8_takeNamed T (x_sub D 1) 0 8 = _ from c1 hn, b1]
    · rw [if_pos bIf, show f_X12_bad v 1 = (0, v') from b2]; rfl
  | true =>
    have e2 := nm_2 hn
    obtain ⟨ok, -, e12⟩ := hc.2.2.2.1 e2
    rw [if_neg (show ¬ bI true = 0 by decide), e0, e12]
    rcases sort_find (R := x_sub v 8) (cn := D.2 16) (V := x_sub D 1) (o := 0) (m := nS) (M := 8) (by rw [show (x_sub v 8).2 0 = v.2 8 from rfl]; exact d2) hb ok (Or.inl ⟨rfl, rfl, rfl⟩) rfl with ⟨i, hi, q1, q2⟩ | ⟨q2, q1⟩
    · rw [show f_X12_findIn (x_sub v 8) 0 (nI nS) (lN (eN 27 t.2.2)) = some (nI i) from q2, bo_some, lt_eq, si_0, if_neg (nI_nm1 (by omega))]
      exact Or.inr ⟨i, hi, rfl, (c2 hn _ q1).1 i (by omega) rfl, by omega⟩
    · rw [show f_X12_findIn (x_sub v 8) 0 (nI nS) (lN (eN 27 t.2.2)) = some (-1) from q2, bo_some, lt_eq, si_0, if_pos rfl]
      obtain ⟨T', v', b1, b2, b3⟩ := (h.told (x := -1)).bad 3 (Or.inl (by omega))
      refine Or.inl ⟨T', v', ?_, ?_, b3⟩
      · rcases q1 with q1 | ⟨i, hi, q1, q3⟩
        · rw [show f_X8_takeNamed T (x_sub D 1) 0 8 = _ from (c2 hn _ q1).2 (Or.inl rfl), b1]
        · rw [show f_X8_takeNamed T (x_sub D 1) 0 8 = _ from (c2 hn _ q1).2 (Or.inr ⟨i, hi, rfl, q3⟩), b1]
      · rw [show f_X12_bad (x_si v 0 13 (-1)) 3 = (0, v') from b2]; rfl
/-- a SPOT -/
theorem St.spot (h : St n lim b p s t T0 v0 T v) (d : DN nS nT nW D v) : R2 (f_X8_takeNamed T (x_sub D 1) 0 8) (f_X12_readSpotName v) (fun r q => (r.1 = -1 ∧ q.1 = 0 ∧ Bd T0 v0 r.2 q.2) ∨ (∃ k, k < nS ∧ r.1 = nI k ∧ q.1 = 1 ∧ q.2.1 0 13 = nI k ∧ (2 ≤ t.1) ∧ FT T r.2 ∧ FV (x_si v 0 13 (nI k)) q.2 ∧ ∃ (p' s' : Nat) (t' : Tok), St n lim p p' s' t' T0 v0 r.2 q.2)) := by
  unfold f_X12_readSpotName
  rcases h.here d with ⟨T', v', e1, e2, e3⟩ | ⟨k, hk, e1, e2, e3⟩
  · rw [e1, e2, bo_some, if_pos rfl]
    exact R2_some (Or.inl ⟨rfl, rfl, e3⟩)
  · rw [e1, e2, bo_some, if_neg one0]
    obtain ⟨T', v', a1, a2, p', s', t', a3, a4, a5⟩ := (h.told (x := nI k)).next
    rw [a1, a2, bo_some, bo_some]
    exact R2_some (Or.inr ⟨k, hk, rfl, rfl, (a5.2.1 13 (by omega)).trans si_0, e3, a4, a5, p', s', t', a3⟩)
theorem r_taken (d2 : RN nS nT nW (D.2 16) (v.2 8)) (hb : nS ≤ 8 ∧ nT ≤ 6 ∧ nW ≤ 5) (e0 : v.1 3 0 = nI nS) (e2 : v.1 3 2 = nI nT) (e3 : v.1 3 3 = nI nW) (hl : okW l) (e12 : v.2 0 12 = lN (eN 27 l)) : ((∀ j, j < 19 → D.2 16 j ≠ lN (eN 32 l)) ∧ f_X12_isTaken v = some 0 ∧ f_X9_placeOfName (x_sub D 1) (lN (eN 32 l)) = some (-1)) ∨ (f_X12_isTaken v = some 1 ∧ ∃ i, i < 19 ∧ f_X9_placeOfName (x_sub D 1) (lN (eN 32 l)) = some (nI i)) := by
  obtain ⟨p1, p2⟩ := c_place (V := x_sub D 1) (x := lN (eN 32 l))
  have E : ∀ o m, o + m ≤ 19 → (∀ i, i < m → (x_sub v 8).2 0 (o + i) = lN (eN 27 l) → (∀ j, j < m → (x_sub v 8).2 0 (o + j) = lN (eN 27 l) → j = i) → f_X12_findIn (x_sub v 8) (nI o) (nI m) (lN (eN 27 l)) = some (nI i)) ∧ ((∀ j, j < m → (x_sub v 8).2 0 (o + j) ≠ lN (eN 27 l)) → f_X12_findIn (x_sub v 8) (nI o) (nI m) (lN (eN 27 l)) = some (-1)) := fun o m h => r_look h
  have r8 : (x_sub v 8).2 0 = v.2 8 := rfl
  unfold f_X12_isTaken
  rw [kl_0, kl_2, kl_3, ga_in (by omega), ga_in (by omega), ga_in (by omega), e0, e2, e3, e12, kl_8, kl_14]
  rcases nm_cases d2 hl with ⟨i, hi, u, y1, y2, y3, y4⟩ | ⟨y1, y2⟩
  · refine Or.inr ⟨?_, i, hi, p1 i hi y1 y3⟩
    have nf : ∀ o m, o + m ≤ 19 → (∀ j, j < m → usd nS nT nW (o + j)) → (i < o ∨ o + m ≤ i) → f_X12_findIn (x_sub v 8) (nI o) (nI m) (lN (eN 27 l)) = some (-1) := fun o m h1 h2 h3 => (E o m h1).2 (fun j hj q => by have := y4 (o + j) (by omega) (h2 j hj) q; omega)
    have fo : ∀ o m, o + m ≤ 19 → (∀ j, j < m → usd nS nT nW (o + j)) → (o ≤ i ∧ i < o + m) → f_X12_findIn (x_sub v 8) (nI o) (nI m) (lN (eN 27 l)) = some (nI (i - o)) := fun o m h1 h2 h3 => (E o m h1).1 (i - o) (by omega) (by rw [show o + (i - o) = i by omega]; exact y2) (fun j hj q => by have := y4 (o + j) (by omega) (h2 j hj) q; omega)
    rcases u with u | u | u
    · rw [fo 0 nS (by omega) (fun j hj => by unfold usd; omega) (by omega), bo_some, if_neg (nI_nm1 (by omega))]
    · rw [nf 0 nS (by omega) (fun j hj => by unfold usd; omega) (by omega), bo_some, if_pos rfl, fo 8 nT (by omega) (fun j hj => by unfold usd; omega) (by omega), bo_some, if_neg (nI_nm1 (by omega))]
    · rw [nf 0 nS (by omega) (fun j hj => by unfold usd; omega) (by omega), bo_some, if_pos rfl, nf 8 nT (by omega) (fun j hj => by unfold usd; omega) (by omega), bo_some, if_pos rfl, fo 14 nW (by omega) (fun j hj => by unfold usd; omega) (by omega), bo_some, if_neg (nI_nm1 (by omega))]
  · refine Or.inl ⟨y1, ?_, p2 y1⟩
    have nf : ∀ o m, o + m ≤ 19 → (∀ j, j < m → usd nS nT nW (o + j)) → f_X12_findIn (x_sub v 8) (nI o) (nI m) (lN (eN 27 l)) = some (-1) := fun o m h1 h2 => (E o m h1).2 (fun j hj q => y2 (o + j) (by omega) (h2 j hj) q)
    rw [nf 0 nS (by omega) (fun j hj => by unfold usd; omega), bo_some, if_pos rfl, nf 8 nT (by omega) (fun j hj => by unfold usd; omega), bo_some, if_pos rfl, nf 14 nW (by omega) (fun j hj => by unfold usd; omega), bo_some, if_pos rfl]
/-- a new name -/
theorem St.newName (h : St n lim b p s t T0 v0 T v) (d : DR nS nF nT nW bB D v) {i : Nat} (hi : i < 19) : R2 (f_X6_readNewName D T (nI i)) (f_X12_readNew v (nI i)) (fun r q => (r.1 = 0 ∧ q.1 = 0 ∧ Bd T0 v0 r.2.2 q.2) ∨ (∃ l, okW l ∧ (∀ j, j < 19 → D.2 16 j ≠ lN (eN 32 l)) ∧ r.1 = 1 ∧ q.1 = 1 ∧ r.2.1.1 = D.1 ∧ r.2.1.2 16 = upL (D.2 16) i (lN (eN 32 l)) ∧ q.2.2 8 = upL (v.2 8) i (lN (eN 27 l)) ∧ q.2.1 3 = v.1 3 ∧ (∀ j, ¬ (5 ≤ j ∧ j ≤ 9) → q.2.1 0 j = v.1 0 j) ∧ (2 ≤ t.1) ∧ ∃ (p' s' : Nat) (t' : Tok), St n lim p p' s' t' T0 v0 r.2.2 q.2)) := by
  have hc := h.1.2.2.1
  obtain ⟨d1, d2, d3⟩ := d
  have hb := d1.1
  unfold f_X6_readNewName f_X12_readNew
  rw [c_isName hc, r_isName hc, lt_eq, bo_some]
  cases hn : nmB t with
  | false =>
    obtain ⟨T', v', b1, b2, b3⟩ := h.bad 1 (Or.inr rfl)
    rw [if_pos bIf, if_pos bIf, show f_X8_refuse T 1 = (0, T') from b1, show f_X12_bad v 1 = (0, v') from b2]
    exact R2_some (Or.inl ⟨rfl, rfl, b3⟩)
  | true =>
    have e2 := nm_2 hn
    obtain ⟨ok, e9, e12⟩ := hc.2.2.2.1 e2
    rw [if_neg (show ¬ bI true = 0 by decide), if_neg (show ¬ bI true = 0 by decide), e9]
    rcases r_taken (D := D) d2 ⟨hb.1, hb.2.2.1, hb.2.2.2.1⟩ d1.2.1.1 d1.2.1.2.2.1 d1.2.1.2.2.2.1 ok e12 with ⟨q1, q2, q3⟩ | ⟨q1, k, hk, q2⟩
    · rw [q2, q3, bo_some, bo_some, if_pos rfl, if_pos rfl, ck_in hi (by omega)]
      have hs : f_X9_setName (x_sub D 1) (nI i) (lN (eN 32 t.2.2)) = some (x_pl (x_sub D 1) 15 (nI i) (lN (eN 32 t.2.2))) := by
        unfold f_X9_setName
        rw [if_neg (nI_pos (by omega)), if_neg (show ¬ (19 : Int32) ≤ nI i from nI_ge (b := 19) (by omega) (by omega)), ck_in hi (by omega)]; rfl
      have hpl : ∀ (M : XM) (r : Nat) (x : Int64), x_pl M r (nI i) x = x_sl M r i x := fun M r x => by unfold x_pl; rw [nI_clamp (by omega)]
      rw [hs, bo_some, lt_eq, lt_eq, hpl, hpl, e12]
      have h' : St n lim b p s t T0 v0 T (x_sl v 8 i (lN (eN 27 t.2.2))) := ⟨h.1.cong rfl (fun j hj => rfl) (sl_r (by omega)), h.2.1, h.2.2.1, h.2.2.2.sl⟩
      obtain ⟨T', v', a1, a2, p', s', t', a3, a4, a5⟩ := h'.next
      rw [a1, a2, bo_some, bo_some]
      refine R2_some (Or.inr ⟨t.2.2, ok, q1, rfl, rfl, ?_, ?_, ?_, a5.1 3 (by omega), fun j hj => a5.2.1 j hj, by omega, p', s', t', a3⟩)
      · funext j
        show (if 1 ≤ j ∧ j < 1 + 16 then D.1 (j - 1 + 1) else D.1 j) = D.1 j
        by_cases c : 1 ≤ j ∧ j < 1 + 16
        · rw [if_pos c, Nat.sub_add_cancel c.1]
        · rw [if_neg c]
      · show (if 1 ≤ 16 ∧ 16 < 1 + 16 then (x_sl (x_sub D 1) 15 i (lN (eN 32 t.2.2))).2 (16 - 1) else D.2 16) = _
        rw [if_pos ⟨by omega, by omega⟩]
        funext j
        show (if 15 = 15 ∧ j = i then lN (eN 32 t.2.2) else D.2 16 j) = if j = i then _ else _
        by_cases c : j = i
        · rw [if_pos ⟨rfl, c⟩, if_pos c]
        · rw [if_neg (fun q => c q.2), if_neg c]
      · rw [a5.2.2 8 (by omega)]
        funext j
        show (if 8 = 8 ∧ j = i then lN (eN 27 t.2.2) else v.2 8 j) = if j = i then _ else _
        by_cases c : j = i
        · rw [if_pos ⟨rfl, c⟩, if_pos c]
        · rw [if_neg (fun q => c q.2), if_neg c]
    · obtain ⟨T', v', b1, b2, b3⟩ := h.bad 3 (Or.inl (by omega))
      rw [q1, q2, bo_some, bo_some, if_neg (nI_nm1 (by omega)), if_neg one0, show f_X8_refuse T 3 = (0, T') from b1, show f_X12_bad v 3 = (0, v') from b2]
      exact R2_some (Or.inl ⟨rfl, rfl, b3⟩)
/-- a KIND -/
theorem St.kind (h : St n lim b p s t T0 v0 T v) : R2 (f_X8_takeKind T) (f_X12_readKind v) (fun r q => (r.1 = -1 ∧ q.1 = 0 ∧ Bd T0 v0 r.2 q.2) ∨ (∃ k, k < 3 ∧ r.1 = nI k ∧ q.1 = 1 ∧ q.2.1 0 13 = nI k ∧ (2 ≤ t.1) ∧ FT T r.2 ∧ FV (x_si v 0 13 (nI k)) q.2 ∧ ∃ (p' s' : Nat) (t' : Tok), St n lim p p' s' t' T0 v0 r.2 q.2)) := by
  have hc := h.1.2.2.1
  have hle := wi_le t.2.2
  -- the reference's loop
  have hr : f_X12_readKind v = if t.1 = 2 ∧ 6 ≤ wi t.2.2 ∧ wi t.2.2 < 9 then f_X12_readKind_21 v (nI (wi t.2.2 - 3)) else f_X12_readKind_21 v 6 := by
    have st : ∀ (fu : Nat) i, i ≤ 2 → 3 - i < fu → x_lp (φ := XM → Int32 → Option (Int32 × XM)) (fun _ _ => none) (f_X12_readKind_2) fu v (nI (3 + i)) = (if t.1 = 2 ∧ wi t.2.2 = 6 + i then f_X12_readKind_21 v (nI (3 + i)) else x_lp (φ := XM → Int32 → Option (Int32 × XM)) (fun _ _ => none) (f_X12_readKind_2) (fu - 1) v (nI (3 + i + 1))) := fun fu i hi hf => by
      obtain ⟨fu, rfl⟩ : ∃ q, fu = q + 1 := ⟨fu - 1, by omega⟩
      show f_X12_readKind_2 (x_lp (φ := XM → Int32 → Option (Int32 × XM)) (fun _ _ => none) (f_X12_readKind_2) fu) v (nI (3 + i)) = _
      have hpm : pm (3 + i) = 6 + i := by
        have : ∀ i, i ≤ 2 → pm (3 + i) = 6 + i := by decide
        exact this i hi
      unfold f_X12_readKind_2
      rw [if_neg (show ¬ (5 : Int32) < nI (3 + i) from nI_ge' (a := 5) (by omega) (by omega)), r_isWord hc (by omega), hpm, lt_eq, nI_1]
      by_cases c : t.1 = 2 ∧ wi t.2.2 = 6 + i
      · rw [if_pos c, decide_eq_true c.1, decide_eq_true c.2, if_neg (show ¬ bI (true && true) = 0 by decide)]
      · rw [if_neg c, if_pos (by
          by_cases c1 : t.1 = 2
          · rw [decide_eq_true c1, decide_eq_false (fun q => c ⟨c1, q⟩)]; rfl
          · rw [decide_eq_false c1]; rfl)]; rfl
    have s0 := st x_NN 0 (by omega) (by show 3 < 1000000; omega)
    have s1 := st (x_NN - 1) 1 (by omega) (by show 2 < 1000000 - 1; omega)
    have s2 := st (x_NN - 1 - 1) 2 (by omega) (by show 1 < 1000000 - 1 - 1; omega)
    have s3 : x_lp (φ := XM → Int32 → Option (Int32 × XM)) (fun _ _ => none) (f_X12_readKind_2) (x_NN - 1 - 1 - 1) v (nI (3 + 2 + 1)) = f_X12_readKind_21 v 6 := by
      show f_X12_readKind_2 _ v (nI 6) = _
      unfold f_X12_readKind_2
      rw [if_pos (show (5 : Int32) < nI 6 by decide)]; rfl
    show x_lp (φ := XM → Int32 → Option (Int32 × XM)) (fun _ _ => none) (f_X12_readKind_2) x_NN v (nI (3 + 0)) = _
    rw [s0]
    by_cases c0 : t.1 = 2 ∧ wi t.2.2 = 6 + 0
    · rw [if_pos c0, if_pos ⟨c0.1, by omega, by omega⟩, c0.2]
    · rw [if_neg c0]
      refine s1.trans ?_
      by_cases c1 : t.1 = 2 ∧ wi t.2.2 = 6 + 1
      · rw [if_pos c1, if_pos ⟨c1.1, by omega, by omega⟩, c1.2]
      · rw [if_neg c1]
        refine s2.trans ?_
        by_cases c2 : t.1 = 2 ∧ wi t.2.2 = 6 + 2
        · rw [if_pos c2, if_pos ⟨c2.1, by omega, by omega⟩, c2.2]
        · rw [if_neg c2, s3, if_neg (fun q => by
            have q1 := q.1
            have : ¬ wi t.2.2 = 6 + 0 := fun z => c0 ⟨q1, z⟩
            have : ¬ wi t.2.2 = 6 + 1 := fun z => c1 ⟨q1, z⟩
            have : ¬ wi t.2.2 = 6 + 2 := fun z => c2 ⟨q1, z⟩
            omega)]
  rw [hr]
  unfold f_X8_takeKind
  have bad : f_X12_readKind_21 v 6 = f_X12_readKind_21 v 6 → R2 (f_X8_takeKind_17 T) (f_X12_readKind_21 v 6) (fun r q => (r.1 = -1 ∧ q.1 = 0 ∧ Bd T0 v0 r.2 q.2) ∨ (∃ k, k < 3 ∧ r.1 = nI k ∧ q.1 = 1 ∧ q.2.1 0 13 = nI k ∧ (2 ≤ t.1) ∧ FT T r.2 ∧ FV (x_si v 0 13 (nI k)) q.2 ∧ ∃ (p' s' : Nat) (t' : Tok), St n lim p p' s' t' T0 v0 r.2 q.2)) := fun _ => by
    obtain ⟨T', v', b1, b2, b3⟩ := h.bad 1 (Or.inr rfl)
    unfold f_X8_takeKind_17 f_X12_readKind_21
    rw [if_neg (show ¬ (6 : Int32) ≤ 5 by decide), show f_X8_refuse T 1 = (0, T') from b1, show f_X12_bad v 1 = (0, v') from b2]
    exact R2_some (Or.inl ⟨rfl, rfl, b3⟩)
  by_cases c : t.1 = 2 ∧ wi t.2.2 < 29
  · rw [hc.2.2.2.2, if_pos c]
    by_cases c1 : wi t.2.2 < 6
    · rw [if_pos (by
        have : ∀ i, i < 6 → nI i - (6 : Int32) < 0 := by decide
        exact this _ c1), if_neg (fun q => by omega)]
      exact bad rfl
    · rw [kl_6, pk_sub (by omega), if_neg (nI_pos (by omega)), ← kl_6]
      by_cases c2 : wi t.2.2 < 9
      · rw [if_pos (show nI (wi t.2.2 - 6) < 3 from nI_lt (b := 3) (by omega) (by omega)), if_pos ⟨c.1, by omega, c2⟩]
        unfold f_X12_readKind_21
        rw [if_pos (show nI (wi t.2.2 - 3) ≤ 5 from nI_le (b := 5) (by omega) (by omega)), kl_3, pk_sub (by omega), show wi t.2.2 - 3 - 3 = wi t.2.2 - 6 by omega, lt_eq]
        obtain ⟨T', v', a1, a2, p', s', t', a3, a4, a5⟩ := (h.told (x := nI (wi t.2.2 - 6))).next
        rw [a1, a2, bo_some, bo_some]
        exact R2_some (Or.inr ⟨wi t.2.2 - 6, by omega, rfl, rfl, (a5.2.1 13 (by omega)).trans si_0, by omega, a4, a5, p', s', t', a3⟩)
      · rw [if_neg (show ¬ nI (wi t.2.2 - 6) < 3 from nI_ge' (b := 3) (by omega) (by omega)), if_neg (fun q => by omega)]
        exact bad rfl
  · rw [hc.2.2.2.2, if_neg c, if_pos (by decide), if_neg (fun q => c ⟨q.1, by omega⟩)]
    exact bad rfl
end CD
