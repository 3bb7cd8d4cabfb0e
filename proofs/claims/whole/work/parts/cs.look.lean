-- book, the call: lived.
section CSS
variable {n lim b p s a k e i nS nF nT nW bB : Nat} {t : Tok} {T v T' v' T0 v0 u u' B B0 V w w' m3 : XM} {x : Int32}
/-- what the class's book does behind the reading -/
def bkC (m3 : XM) (l1 : Int32) : Option (Int32 × XM) := x_lt (f_X5_become (x_sub m3 128) (x_sub m3 22)) (fun y4 =>
  x_lt (x_put m3 128 15 y4) (fun m5 =>
  x_bo (f_X0_live (x_sub m5 282) (x_sub m5 5)) (fun y6 =>
  x_lt (x_put (x_put m5 282 9 y6.2.1) 5 32 y6.2.2) (fun m7 =>
  if l1 = (0 : Int32) then
  (x_lt (f_X5_become (x_sub m7 22) (x_sub m7 128)) (fun y10 =>
  x_lt (x_put m7 22 15 y10) (fun m11 =>
  some (y6.1, m11))))
  else (if (m7.1 282 7) ≤ (0 : Int32) then
  (some (y6.1, m7))
  else (x_lt (f_X1_keep (x_sub m7 143) (x_sub m7 128)) (fun y8 =>
  x_lt (x_put m7 143 122 y8) (fun m9 =>
  some (y6.1, m9)))))))))
theorem lived (h : RelN nS nF nT nW bB m3 v) (hk : BKr nT nW k (x_sub m3 282) v) (k40 : k ≤ 40) (e40 : v.1 0 40 = nI k) (hx : x = 0 ∨ x = 1) : R2 (bkC m3 x) (x_bo (f_X12_layAside v) (fun y9 => x_lp (φ := XM → Int32 → Int32 → Int32 → Option (Int32 × XM)) (fun _ _ _ _ => none) (f_X12_book_73) x_NN y9 x (0 : Int32) (0 : Int32))) Both := by
  have hb := h.1.1.1
  obtain ⟨h5, hRS⟩ := h.before
  unfold bkC
  rw [lt_eq, lt_eq]
  have m5o : ∀ i, ¬ (128 ≤ i ∧ i < 143) → (x_put m3 128 15 (f_X5_become (x_sub m3 128) (x_sub m3 22))).1 i = m3.1 i := fun i hi => put_out (by omega)
  generalize x_put m3 128 15 (f_X5_become (x_sub m3 128) (x_sub m3 22)) = m5 at h5 hRS m5o ⊢
  obtain ⟨v2, eA, A0, rfl, hA⟩ := r_aside (v := v)
  rw [eA, bo_some]
  have hR2 : RW nS nF nT nW bB (x_sub m5 5) (x_row v 6 A0) := h5.rw.of (row_off (by omega))
  have hk5 : BKr nT nW k (x_si (x_si (x_si (x_sub m5 282) 0 5 1) 0 6 0) 0 7 0) (x_row v 6 A0) := by
    have e : ∀ i, (x_sub m5 282).1 i = (x_sub m3 282).1 i := fun i => m5o _ (by omega)
    refine ⟨?_, fun j hj => ?_⟩
    · rw [si_n (by omega), si_n (by omega), si_n (by omega), e]; exact hk.1
    · have hbl := hk.2 j hj
      unfold BL at hbl ⊢
      rw [si_r (by omega), si_r (by omega), si_r (by omega), si_r (by omega), si_r (by omega), si_r (by omega), si_r (by omega), si_r (by omega), si_r (by omega), si_r (by omega), si_r (by omega), si_r (by omega), e, e, e, e, row_off (by omega)]
      exact hbl
  have hlv := live_loop (l1 := x) hR2 hk5 k40 (by rw [row_off (by omega)]; exact e40) ((si_n (by omega)).trans si_0) si_0
  obtain ⟨r, a, B2, u', v3, eC, eR, g1, g2, g3, g4, g5, g6, g7, g8, g9, g10⟩ := hlv
  rw [show x_lp (φ := XM → Int32 → Int32 → Int32 → Option (Int32 × XM)) (fun _ _ _ _ => none) (f_X12_book_73) x_NN (x_row v 6 A0) x (0 : Int32) (0 : Int32) = _ from eR]
  -- the class's end of it
  have hkn := c_known g1
  have hcl : f_X0_live (x_sub m5 282) (x_sub m5 5) = some (if r = 0 then -1 else nI a, x_si (x_si B2 0 8 (u'.1 17 0)) 0 9 (om (fun i => v3.1 2 (94 + i)) nW), u') := by
    unfold f_X0_live
    rw [lt_eq, lt_eq, lt_eq]
    refine eC.trans ?_
    unfold f_X0_live_65
    rw [lt_eq, hkn, bo_some, lt_eq, show (x_si (x_si B2 0 8 (u'.1 17 0)) 0 9 (om (fun i => v3.1 2 (94 + i)) nW)).1 0 6 = r from (si_n (by omega)).trans ((si_n (by omega)).trans g4), show (x_si (x_si B2 0 8 (u'.1 17 0)) 0 9 (om (fun i => v3.1 2 (94 + i)) nW)).1 0 7 = nI a from (si_n (by omega)).trans ((si_n (by omega)).trans g5)]
    by_cases c : r = 0
    · rw [if_pos c, if_pos c]
    · rw [if_neg c, if_neg c]
  rw [hcl, bo_some]
  dsimp only
  rw [lt_eq]
  have B3f : (x_si (x_si B2 0 8 (u'.1 17 0)) 0 9 (om (fun i => v3.1 2 (94 + i)) nW)).1 0 5 = 1 ∧ (x_si (x_si B2 0 8 (u'.1 17 0)) 0 9 (om (fun i => v3.1 2 (94 + i)) nW)).1 0 6 = r ∧ (x_si (x_si B2 0 8 (u'.1 17 0)) 0 9 (om (fun i => v3.1 2 (94 + i)) nW)).1 0 7 = nI a ∧ (x_si (x_si B2 0 8 (u'.1 17 0)) 0 9 (om (fun i => v3.1 2 (94 + i)) nW)).1 0 8 = v3.1 2 70 ∧ (x_si (x_si B2 0 8 (u'.1 17 0)) 0 9 (om (fun i => v3.1 2 (94 + i)) nW)).1 0 9 = om (fun i => v3.1 2 (94 + i)) nW ∧ (x_si (x_si B2 0 8 (u'.1 17 0)) 0 9 (om (fun i => v3.1 2 (94 + i)) nW)).2 = (x_sub m5 282).2 := by
    refine ⟨?_, (si_n (by omega)).trans ((si_n (by omega)).trans g4), (si_n (by omega)).trans ((si_n (by omega)).trans g5), ?_, si_0, g10⟩
    · rw [si_n (by omega), si_n (by omega), g8 5 (by omega) (by omega), si_n (by omega), si_n (by omega), si_0]
    · rw [si_n (by omega), si_0]; exact g1.hour
  generalize x_si (x_si B2 0 8 (u'.1 17 0)) 0 9 (om (fun i => v3.1 2 (94 + i)) nW) = B3 at B3f ⊢
  obtain ⟨b5, b6, b7, b8, b9, b2⟩ := B3f
  -- the reference's end of it
  have hK4 : ∀ M : XM, M.1 2 = v3.1 2 → f_X12_known M = some (om (fun i => v3.1 2 (94 + i)) nW) := fun M e => by
    have := r_known (g1.of e)
    rw [this, e]
  have h103 : f_X12_book_103 v3 x (nI a) r = if x = 1 then (if nI a ≤ 0 then f_X12_book_159 (x_si (x_si (x_si (x_si (x_si v3 18 0 r) 18 1 (nI a)) 18 2 (v3.1 2 70)) 18 3 (om (fun i => v3.1 2 (94 + i)) nW)) 0 41 1) (nI a) r else f_X12_book_160 (x_si (x_si (x_si (x_si (x_si v3 18 0 r) 18 1 (nI a)) 18 2 (v3.1 2 70)) 18 3 (om (fun i => v3.1 2 (94 + i)) nW)) 0 41 1) (nI a) r 1) else f_X12_book_159 (x_si (x_si (x_si (x_si (x_si v3 18 0 r) 18 1 (nI a)) 18 2 (v3.1 2 70)) 18 3 (om (fun i => v3.1 2 (94 + i)) nW)) 0 41 1) (nI a) r := by
    have q0 : ∀ (M : XM) (z : Int32), x_pa M 18 0 z = x_si M 18 0 z := fun M z => pa_si (k := 0) (by omega)
    have q1 : ∀ (M : XM) (z : Int32), x_pa M 18 1 z = x_si M 18 1 z := fun M z => pa_si (k := 1) (by omega)
    have q2 : ∀ (M : XM) (z : Int32), x_pa M 18 2 z = x_si M 18 2 z := fun M z => pa_si (k := 2) (by omega)
    have q3 : ∀ (M : XM) (z : Int32), x_pa M 18 3 z = x_si M 18 3 z := fun M z => pa_si (k := 3) (by omega)
    have q70 : x_ga (x_si (x_si v3 18 0 r) 18 1 (nI a)) 2 70 = v3.1 2 70 := by rw [kl_70, ga_in (by omega), si_r (by omega), si_r (by omega)]
    unfold f_X12_book_103
    rw [q0, lt_eq, q1, lt_eq, q2, lt_eq, q70, hK4 _ ((si_r (by omega)).trans ((si_r (by omega)).trans (si_r (by omega)))), bo_some, q3, lt_eq, lt_eq]
  rw [h103]
  have w4 : (x_si (x_si (x_si (x_si (x_si v3 18 0 r) 18 1 (nI a)) 18 2 (v3.1 2 70)) 18 3 (om (fun i => v3.1 2 (94 + i)) nW)) 0 41 1).1 18 0 = r ∧ (x_si (x_si (x_si (x_si (x_si v3 18 0 r) 18 1 (nI a)) 18 2 (v3.1 2 70)) 18 3 (om (fun i => v3.1 2 (94 + i)) nW)) 0 41 1).1 18 1 = nI a ∧ (x_si (x_si (x_si (x_si (x_si v3 18 0 r) 18 1 (nI a)) 18 2 (v3.1 2 70)) 18 3 (om (fun i => v3.1 2 (94 + i)) nW)) 0 41 1).1 18 2 = v3.1 2 70 ∧ (x_si (x_si (x_si (x_si (x_si v3 18 0 r) 18 1 (nI a)) 18 2 (v3.1 2 70)) 18 3 (om (fun i => v3.1 2 (94 + i)) nW)) 0 41 1).1 18 3 = om (fun i => v3.1 2 (94 + i)) nW ∧ (x_si (x_si (x_si (x_si (x_si v3 18 0 r) 18 1 (nI a)) 18 2 (v3.1 2 70)) 18 3 (om (fun i => v3.1 2 (94 + i)) nW)) 0 41 1).1 0 41 = 1 ∧ (∀ j, j ≠ 41 → (x_si (x_si (x_si (x_si (x_si v3 18 0 r) 18 1 (nI a)) 18 2 (v3.1 2 70)) 18 3 (om (fun i => v3.1 2 (94 + i)) nW)) 0 41 1).1 0 j = v3.1 0 j) ∧ (∀ i, i ≠ 0 → i ≠ 18 → (x_si (x_si (x_si (x_si (x_si v3 18 0 r) 18 1 (nI a)) 18 2 (v3.1 2 70)) 18 3 (om (fun i => v3.1 2 (94 + i)) nW)) 0 41 1).1 i = v3.1 i) ∧ (x_si (x_si (x_si (x_si (x_si v3 18 0 r) 18 1 (nI a)) 18 2 (v3.1 2 70)) 18 3 (om (fun i => v3.1 2 (94 + i)) nW)) 0 41 1).2 = v3.2 := by
    refine ⟨?_, ?_, ?_, ?_, si_0, fun j hj => ?_, fun i i0 i18 => ?_, rfl⟩
    · rw [si_r (by omega), si_n (by omega), si_n (by omega), si_n (by omega), si_0]
    · rw [si_r (by omega), si_n (by omega), si_n (by omega), si_0]
    · rw [si_r (by omega), si_n (by omega), si_0]
    · rw [si_r (by omega), si_0]
    · rw [si_n hj, si_r (by omega), si_r (by omega), si_r (by omega), si_r (by omega)]
    · rw [si_r i0, si_r i18, si_r i18, si_r i18, si_r i18]
  generalize x_si (x_si (x_si (x_si (x_si v3 18 0 r) 18 1 (nI a)) 18 2 (v3.1 2 70)) 18 3 (om (fun i => v3.1 2 (94 + i)) nW)) 0 41 1 = v4 at w4 ⊢
  obtain ⟨p0, p1, p2, p3, p41, pj, pi, pl⟩ := w4
  -- what the state was comes back
  have A6 : v4.1 6 = A0 := (pi 6 (by omega) (by omega)).trans ((g3.2.1 6 (by omega) (by omega)).trans row_at)
  have V2 : ∀ j, j < 70 ∨ 111 ≤ j → v4.1 2 j = v.1 2 j := fun j hj => by
    rw [pi 2 (by omega) (by omega), g3.2.2.2 j hj, row_off (by omega)]
  have hv5 : ∀ N S, (∀ j, N j = if 70 ≤ j ∧ j < 111 then v4.1 6 (j - 70) else v4.1 2 j) → (∀ j, j < 41 → S j = v4.1 2 (70 + j)) → RelN nS nF nT nW bB (x_put m5 282 9 B3) (x_row (x_row v4 2 N) 6 S) ∧ N = v.1 2 := by
    intro N S hN hS
    have eN : N = v.1 2 := by
      funext j
      rw [hN]
      by_cases c : 70 ≤ j ∧ j < 111
      · rw [if_pos c, A6, hA _ (by omega), show 70 + (j - 70) = j by omega]
      · rw [if_neg c]; exact V2 j (by omega)
    refine ⟨h5.txt3 (fun i hi => by rw [put_2 b2]) (fun i i1 i3 i282 hi => ?_) ?_ (fun i hi => ?_) (fun j hj j2 j10 j41 => ?_) ?_ (Or.inr ⟨?_, ?_, ?_, ?_, ?_, ?_⟩), eN⟩
    · exact put_out (by unfold scrW at hi; omega)
    · show v4.2 7 = v.2 7 ∧ v4.2 9 = v.2 9
      rw [pl, g3.1]; exact ⟨rfl, rfl⟩
    · by_cases c : i = 2
      · subst c; rw [row_off (by omega), row_at, eN]
      · rw [row_off (by omega), row_off c, pi i (by omega) (by omega), g3.2.1 i c (by omega), row_off (by omega)]
    · rw [row_off (by omega), row_off (by omega), pj j j41, g3.2.2.1 j (by unfold vF at hj; omega), row_off (by omega)]
    · refine h5.tape.congr ⟨?_, ?_, ?_⟩ ⟨?_, ?_, ?_⟩
      · rw [put_out (by omega)]
      · rw [put_out (by omega)]
      · rw [put_out (by omega)]
      · rw [row_off (by omega), row_off (by omega), pj 2 (by omega), g3.2.2.1 2 (by omega), row_off (by omega)]
      · rw [row_off (by omega), row_off (by omega), pj 10 (by omega), g3.2.2.1 10 (by omega), row_off (by omega)]
      · rw [row_off (by omega), row_off (by omega), pi 1 (by omega) (by omega), g3.2.1 1 (by omega) (by omega), row_off (by omega)]
    · rw [put_inn (by omega)]; exact b5
    · rw [row_off (by omega), row_off (by omega)]; exact p41
    · rw [put_inn (by omega), row_off (by omega), row_off (by omega), p0]; exact b6
    · rw [put_inn (by omega), row_off (by omega), row_off (by omega), p1]; exact b7
    · rw [put_inn (by omega), row_off (by omega), row_off (by omega), p2]; exact b8
    · rw [put_inn (by omega), row_off (by omega), row_off (by omega), p3]; exact b9
  have RW4 : ∀ M : XM, (∀ j, j < 111 → M.1 2 j = v4.1 2 j) → RW nS nF nT nW bB u' M := fun M e => g1.cong (fun _ _ _ => rfl) (fun j hj => by rw [e j hj, pi 2 (by omega) (by omega)])
  have res : (if r = 0 then (-1 : Int32) else nI a) = (if r = 0 then (-1 : Int32) else nI a) := rfl
  -- nothing stays
  have none : ∀ W : XM, W.2 = m5.2 → (∀ i, (i < 22 ∨ (37 ≤ i ∧ i < 128) ∨ 265 ≤ i) → i ≠ 5 → ¬ scrW i → W.1 i = (x_put m5 282 9 B3).1 i) → (∀ i, 143 ≤ i → i < 265 → W.1 i = m5.1 i) → RS nS nF nW bB (v.1 2) (fun i => W.1 (i + 22)) (fun j => v.1 2 (70 + j)) → R2 (some (if r = 0 then (-1 : Int32) else nI a, W)) (f_X12_book_159 v4 (nI a) r) Both := by
    intro W W2 Wc Wh WS
    unfold f_X12_book_159 f_X12_book_160
    obtain ⟨N, S, hN, hS, e⟩ := r_stay v4 0
    rw [e, if_pos rfl, bo_some]
    obtain ⟨hm, eN⟩ := hv5 N S hN hS
    have e5 : (x_row (x_row v4 2 N) 6 S).1 2 = v.1 2 := by rw [row_off (by omega), row_at, eN]
    have hrel : RelN nS nF nT nW bB W (x_row (x_row v4 2 N) 6 S) := by
      refine hm.state (by rw [W2, put_2 b2]) Wc ⟨rfl, rfl⟩ ⟨rfl, rfl, rfl, rfl, rfl, rfl, rfl⟩ (fun _ _ _ => rfl) (fun _ _ => rfl) (by rw [e5]; exact WS) ?_
      exact hm.2.1.congr ⟨by omega, by omega⟩ (fun _ _ => rfl) (fun i p q => by rw [Wh i p q, put_out (by omega)]) ⟨rfl, rfl⟩
    by_cases c : r = 0
    · rw [if_pos c, if_pos c]; exact R2_some ⟨rfl, hrel.rel⟩
    · rw [if_neg c, if_neg c]; exact R2_some ⟨rfl, hrel.rel⟩
  have mm7 : ∀ i, ¬ (5 ≤ i ∧ i < 37) → (x_put (x_put m5 282 9 B3) 5 32 u').1 i = (x_put m5 282 9 B3).1 i := fun i hi => put_out (by omega)
  have mm2 : (x_put (x_put m5 282 9 B3) 5 32 u').2 = m5.2 := by
    have e1 : (x_put m5 282 9 B3).2 = m5.2 := put_2 b2
    rw [put_2 (show u'.2 = (x_sub (x_put m5 282 9 B3) 5).2 from by
      rw [g2.1]
      show (fun i => m5.2 (i + 5)) = (fun i => (x_put m5 282 9 B3).2 (i + 5))
      rw [e1]), e1]
  have m57 : ∀ i, i < 32 → i ≠ 0 → ¬ (17 ≤ i) → (x_put (x_put m5 282 9 B3) 5 32 u').1 (i + 5) = m5.1 (i + 5) := fun i hi h0 h17 => by
    rw [put_inn (by omega), Nat.add_sub_cancel, g2.2 i (by simp only [List.mem_cons, List.not_mem_nil, or_false]; omega)]; rfl
  have Wc7 : ∀ i, (i < 22 ∨ (37 ≤ i ∧ i < 128) ∨ 265 ≤ i) → i ≠ 5 → ¬ scrW i → (x_put (x_put m5 282 9 B3) 5 32 u').1 i = (x_put m5 282 9 B3).1 i := fun i hi h5' hs => by
    by_cases c : 5 ≤ i ∧ i < 37
    · have := m57 (i - 5) (by omega) (by omega) (by omega)
      rw [Nat.sub_add_cancel c.1] at this
      rw [this, put_out (by omega)]
    · exact mm7 i c
  rcases hx with rfl | rfl
  · -- not lived for good
    rw [if_pos rfl, if_neg (show ¬ (0 : Int32) = 1 by decide), lt_eq, lt_eq]
    refine none _ ?_ (fun i hi h5' hs => ?_) (fun i p q => ?_) ?_
    · rw [put_2 (become_2 _ _), mm2]
    · rw [put_out (by omega)]; exact Wc7 i hi h5' hs
    · rw [put_out (by omega), mm7 i (by omega), put_out (by omega)]
    · have e := become_st (x_sub (x_put (x_put m5 282 9 B3) 5 32 u') 22) (x_sub (x_put (x_put m5 282 9 B3) 5 32 u') 128)
      have h128 : RS nS nF nW bB (v.1 2) (fun i => (x_sub (x_put (x_put m5 282 9 B3) 5 32 u') 128).1 i) (fun j => v.1 2 (70 + j)) := hRS.congr (fun i hi => by
        show (x_put (x_put m5 282 9 B3) 5 32 u').1 (i + 128) = _
        rw [mm7 _ (by omega), put_out (by omega)]) (fun _ _ => rfl) (fun _ _ => rfl) (by omega) (by omega)
      exact (h128.steq (cs' := (f_X5_become (x_sub (x_put (x_put m5 282 9 B3) 5 32 u') 22) (x_sub (x_put (x_put m5 282 9 B3) 5 32 u') 128)).1) e (by omega) (by omega)).congr (fun i hi => by
        rw [put_inn (by omega), Nat.add_sub_cancel]) (fun _ _ => rfl) (fun _ _ => rfl) (by omega) (by omega)
  · rw [if_neg one0, if_pos rfl, show (x_put (x_put m5 282 9 B3) 5 32 u').1 282 7 = nI a from by rw [mm7 _ (by omega), put_inn (by omega)]; exact b7]
    by_cases ca : nI a ≤ 0
    · rw [if_pos ca, if_pos ca]
      have a0 : a = 0 := by
        by_cases z : a = 0
        · exact z
        · exact absurd ca (nI_nle (by omega) (by omega))
      obtain ⟨k1, k2⟩ := g7 a0
      refine none _ mm2 Wc7 (fun i p q => ?_) ?_
      · rw [mm7 i (by omega), put_out (by omega)]
      · refine h5.1.2.1.congr (fun i hi => ?_) (fun _ _ => rfl) (fun _ _ => rfl) (by omega) (by omega)
        rw [put_inn (by omega), k1]
        show m5.1 (i + 22 - 5 + 5) = m5.1 (i + 17 + 5)
        congr 1
    · rw [if_neg ca, if_neg ca, lt_eq, lt_eq]
      unfold f_X12_book_160
      obtain ⟨N, S, hN, hS, e⟩ := r_stay v4 1
      rw [e, if_neg one0]
      obtain ⟨hm, eN⟩ := hv5 N S hN hS
      have e5 : (x_row (x_row v4 2 N) 6 S).1 2 = v.1 2 := by rw [row_off (by omega), row_at, eN]
      have e56 : (x_row (x_row v4 2 N) 6 S).1 6 = S := row_at
      generalize x_row (x_row v4 2 N) 6 S = v5 at hm e5 e56 ⊢
      -- the world that came out, cut to its cells
      obtain ⟨U, hU1, hU2, hU3⟩ : ∃ U : XM, (∀ i, i < 32 → U.1 i = u'.1 i) ∧ (∀ i, 32 ≤ i → U.1 i = (x_sub (x_put m5 282 9 B3) 5).1 i) ∧ U.2 = u'.2 := ⟨(fun i => if i < 32 then u'.1 i else (x_sub (x_put m5 282 9 B3) 5).1 i, u'.2), fun i hi => if_pos hi, fun i hi => if_neg (by omega), rfl⟩
      have eU : x_put (x_put m5 282 9 B3) 5 32 u' = x_put (x_put m5 282 9 B3) 5 32 U := by
        refine Prod.ext ?_ ?_ <;> funext j
        · show (if 5 ≤ j ∧ j < 5 + 32 then u'.1 (j - 5) else (x_put m5 282 9 B3).1 j) = if 5 ≤ j ∧ j < 5 + 32 then U.1 (j - 5) else (x_put m5 282 9 B3).1 j
          by_cases c : 5 ≤ j ∧ j < 5 + 32
          · rw [if_pos c, if_pos c, hU1 _ (by omega)]
          · rw [if_neg c, if_neg c]
        · show (if 5 ≤ j ∧ j < 5 + 32 then u'.2 (j - 5) else (x_put m5 282 9 B3).2 j) = if 5 ≤ j ∧ j < 5 + 32 then U.2 (j - 5) else (x_put m5 282 9 B3).2 j
          rw [hU3]
      rw [eU]
      have hu2 : U.2 = (x_sub (x_put m5 282 9 B3) 5).2 := by
        rw [hU3, g2.1]
        show (fun i => m5.2 (i + 5)) = (fun i => (x_put m5 282 9 B3).2 (i + 5))
        rw [show (x_put m5 282 9 B3).2 = m5.2 from put_2 b2]
      have hu : SoU (x_sub (x_put m5 282 9 B3) 5) U := ⟨hu2, fun i hi => by
        by_cases c : i < 32
        · rw [hU1 i c, g2.2 i hi]
          show m5.1 (i + 5) = (x_put m5 282 9 B3).1 (i + 5)
          rw [put_out (by omega)]
        · exact hU2 i (by omega)⟩
      have mmU : ∀ i, ¬ (5 ≤ i ∧ i < 37) → (x_put (x_put m5 282 9 B3) 5 32 U).1 i = (x_put m5 282 9 B3).1 i := fun i hi => put_out (by omega)
      have hH4 : RHist nS nF nW bB (v5.1 2) (x_put (x_put m5 282 9 B3) 5 32 U) v5 := hm.2.1.congr ⟨by omega, by omega⟩ (fun _ _ => rfl) (fun i p q => put_out (by omega)) ⟨rfl, rfl⟩
      have hB4 : RS nS nF nW bB (v5.1 2) (fun i => (x_put (x_put m5 282 9 B3) 5 32 U).1 (i + 128)) (fun j => v5.1 2 (70 + j)) := by
        rw [e5]
        exact hRS.congr (fun i hi => by rw [mmU _ (by omega), put_out (by omega)]) (fun _ _ => rfl) (fun _ _ => rfl) (by omega) (by omega)
      obtain ⟨hK2, vs, es, q1, q2⟩ := hist_keep ⟨by omega, by omega⟩ hH4 hB4
      obtain ⟨v6, et, N6, rfl, hN6⟩ := r_takeBack (v := vs)
      rw [es, bo_some, et, bo_some, bo_some]
      have vs6 : vs.1 6 = S := (q1.2.1 6 (by omega) (by omega)).trans e56
      have vs2 : vs.1 2 = v.1 2 := (q1.2.1 2 (by omega) (by omega)).trans e5
      have n4 : ∀ j, j < 111 → N6 j = v4.1 2 j := fun j hj => by
        rw [hN6]
        by_cases c : 70 ≤ j ∧ j < 111
        · rw [if_pos c, vs6, hS _ (by omega), show 70 + (j - 70) = j by omega]
        · rw [if_neg c, vs2, V2 j (by omega)]
      have hRW6 : RW nS nF nT nW bB U (x_row vs 2 N6) := g1.cong (fun i i1 i31 => hU1 i (by omega)) (fun j hj => by rw [row_at, n4 j hj, pi 2 (by omega) (by omega)])
      have fin := kept_done hm hu2 hu hRW6 q1 hK2 q2 rfl (fun i a b => row_off b) (fun j _ => by rw [row_off (by omega)]) (fun j hj => by rw [row_at, hN6, if_neg (by omega)])
      by_cases c : r = 0
      · rw [if_pos c, if_pos c]; exact R2_some ⟨rfl, fin.rel⟩
      · rw [if_neg c, if_neg c]; exact R2_some ⟨rfl, fin.rel⟩
end CSS
