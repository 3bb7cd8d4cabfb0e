-- image, restore, the calls.
section D2
variable {nS nF nT nW bB nS' nF' nT' nW' bB' R k : Nat} {v v' w w' M u d U : XM} {a a' b : Nat → Nat → Int32}
theorem WEq.cg (h : WEq a b) (e : ∀ i, 1 ≤ i → i < 41 → a' i = a i) : WEq a' b := by
  obtain ⟨e1, e2, e3, e4, ⟨e5, e6, e7⟩, e8, e9, e10⟩ := h
  refine ⟨fun j hj => ?_, fun j hj => ?_, fun j hj => ?_, fun j hj => ?_, ⟨fun j hj => ?_, fun j hj => ?_, fun j hj => ?_⟩, ?_, ?_, fun j hj => ?_⟩
  · rw [e 1 (by omega) (by omega)]; exact e1 j hj
  · rw [e 3 (by omega) (by omega), e 5 (by omega) (by omega), e 7 (by omega) (by omega), e 9 (by omega) (by omega)]; exact e2 j hj
  · rw [e 11 (by omega) (by omega)]; exact e3 j hj
  · rw [e 13 (by omega) (by omega), e 15 (by omega) (by omega)]; exact e4 j hj
  · show a' (0 + 17) j = _
    rw [e _ (by omega) (by omega)]; exact e5 j hj
  · show a' (2 + 17) j = _ ∧ a' (4 + 17) j = _ ∧ a' (6 + 17) j = _ ∧ a' (8 + 17) j = _ ∧ a' (10 + 17) j = _
    rw [e _ (by omega) (by omega), e _ (by omega) (by omega), e _ (by omega) (by omega), e _ (by omega) (by omega), e _ (by omega) (by omega)]; exact e6 j hj
  · show a' (12 + 17) j = _ ∧ a' (14 + 17) j = _
    rw [e _ (by omega) (by omega), e _ (by omega) (by omega)]; exact e7 j hj
  · rw [e 32 (by omega) (by omega)]; exact e8
  · rw [e 32 (by omega) (by omega)]; exact e9
  · rw [e 34 (by omega) (by omega), e 36 (by omega) (by omega), e 38 (by omega) (by omega)]; exact e10 j hj
theorem img (h : RelN nS nF nT nW bB w v) (hR : (R = 46 ∧ k = 0) ∨ (R = 87 ∧ k = 1)) : R2 (x_bo (f_X10_become (x_sub w R) (x_sub w 5)) (fun y1 => x_lt (x_put w R 41 y1) (fun m2 => x_lt (x_si m2 R 3 (1 : Int32)) (fun m3 => some ((1 : Int32), m3))))) (x_lp (φ := XM → Int32 → Int32 → Option (Int32 × XM)) (fun _ _ _ => none) (f_X12_image_18) x_NN v (nI k) (0 : Int32)) Both := by
  have hb := h.1.1.1
  have hk : k < 2 := by omega
  obtain ⟨U, eU, e1, e2, e3⟩ := c_become10 (x_sub w R) (x_sub w 5)
  obtain ⟨r, er, r1, r2, r3, r4, r5, r6, r7, r8⟩ := r_image (v := v) hk
  rw [eU, bo_some, lt_eq, lt_eq, er]
  have mo : ∀ i, ¬ (R ≤ i ∧ i < R + 41) → (x_si (x_put w R 41 U) R 3 1).1 i = w.1 i := fun i hi => by
    rw [si_r (by omega), put_out hi]
  have mi : ∀ i, 1 ≤ i → i < 41 → (x_si (x_put w R 41 U) R 3 1).1 (i + R) = U.1 i := fun i p q => by
    rw [si_r (by omega), put_inn (by omega), Nat.add_sub_cancel]
  have m3 : (x_si (x_put w R 41 U) R 3 1).1 R 3 = 1 := si_0
  have ml : (x_si (x_put w R 41 U) R 3 1).2 (16 + R) = U.2 16 := by
    show (x_put w R 41 U).2 (16 + R) = _
    rw [put_i2 (by omega), Nat.add_sub_cancel]
  have mlo : ∀ i, ¬ (R ≤ i ∧ i < R + 41) → (x_si (x_put w R 41 U) R 3 1).2 i = w.2 i := fun i hi => put_o2 hi
  generalize x_si (x_put w R 41 U) R 3 1 = M at mo mi m3 ml mlo ⊢
  have hI : RImg R k M r.2 := by
    refine Or.inr ⟨m3, by rw [r5, up_eq], nS, nF, nT, nW, bB, ?_⟩
    refine h.1.weq (WEq.cg e1 (fun i p q => mi i p q)) (fun i hi => ?_) (fun j hj => r3 j hj) (fun i hi => r7 i hi)
    rw [ml]; exact e2 i hi
  obtain ⟨a1, a6, a7, a7', a8, a9, a10, a11, a12⟩ := h
  refine R2_some ⟨r1.symm, (show RelN nS nF nT nW bB M r.2 from ⟨a1.congr (fun i p q => mo _ (by omega)) (mlo 21 (by omega)) (fun i _ => by rw [r6 7 (by omega)]) (fun j _ => by rw [r2 2 (by omega) (by omega)]), ?_, ?_, ?_, a8.congr ⟨by rw [mo 1 (by omega)], by rw [mo 1 (by omega)], mo 3 (by omega)⟩ ⟨by rw [r2 0 (by omega) (by omega)], by rw [r2 0 (by omega) (by omega)], r2 1 (by omega) (by omega)⟩, a9.congr (mlo 4 (by omega)), a10.congr (mo 282 (by omega)) ⟨by rw [r2 0 (by omega) (by omega)], r2 18 (by omega) (by omega)⟩, a11.congr (fun i hi => mo i (by omega)) ⟨by rw [r2 0 (by omega) (by omega)], by rw [r2 0 (by omega) (by omega)], by rw [r2 0 (by omega) (by omega)], by rw [r2 0 (by omega) (by omega)], by rw [r2 0 (by omega) (by omega)]⟩ ⟨r2 12 (by omega) (by omega), r2 15 (by omega) (by omega)⟩, a12.congr ⟨by rw [mo 315 (by omega)], mo 317 (by omega)⟩ ⟨by rw [r2 0 (by omega) (by omega)], r2 16 (by omega) (by omega)⟩⟩).rel⟩
  · rw [r2 2 (by omega) (by omega)]
    exact a6.congr ⟨by omega, by omega⟩ (fun _ _ => rfl) (fun i p q => mo i (by omega)) ⟨r2 5 (by omega) (by omega), by rw [r2 0 (by omega) (by omega)]⟩
  · rcases hR with ⟨rfl, rfl⟩ | ⟨rfl, rfl⟩
    · exact hI
    · exact a7.cg (fun i hi => mo _ (by omega)) (mlo 62 (by omega)) (by rw [r5, up_ne (by omega)]) (fun j hj => r4 _ (by omega)) (fun i hi => r8 _ (by omega))
  · rcases hR with ⟨rfl, rfl⟩ | ⟨rfl, rfl⟩
    · exact a7'.cg (fun i hi => mo _ (by omega)) (mlo 103 (by omega)) (by rw [r5, up_ne (by omega)]) (fun j hj => r4 _ (by omega)) (fun i hi => r8 _ (by omega))
    · exact hI
theorem b_image (h : RelN nS nF nT nW bB w v) (x : Int32) : R2 (f_X11_image w x) (f_X12_image v x) Both := by
  have h1 := h.th (x := 0)
  unfold f_X11_image f_X12_image
  rw [show ∀ (f : XM → Option (Int32 × XM)), x_lt (x_si v 0 0 0) f = f (x_si v 0 0 0) from fun f => rfl]
  rw [show ∀ (f : Int32 → Option (Int32 × XM)), x_lt (f_X12_isIn x 0 1) f = f (f_X12_isIn x 0 1) from fun f => rfl]
  generalize x_si v 0 0 0 = v1 at h1 ⊢
  rcases rng (a := 0) (b := 1) (by omega) (by omega) x with ⟨q, q1, q2, rfl, q4, q5, q6⟩ | ⟨q1, q2⟩
  · rw [show f_X12_isIn (nI q) 0 1 = 1 from q6, if_neg one0]
    by_cases c : q = 0
    · subst c
      rw [if_pos (show nI 0 = 0 from rfl)]
      exact img h1 (Or.inl ⟨rfl, rfl⟩)
    · obtain rfl : q = 1 := by omega
      rw [if_neg (show ¬ nI 1 = 0 by decide), if_pos (show nI 1 = 1 from rfl)]
      exact img h1 (Or.inr ⟨rfl, rfl⟩)
  · rw [show f_X12_isIn x 0 1 = 0 from q2, if_pos rfl]
    have n0 : ¬ x = 0 := fun z => by
      subst z
      rcases q1 with q1 | ⟨-, q1⟩
      · exact absurd q1 (by decide)
      · exact q1 (by decide)
    have n1 : ¬ x = 1 := fun z => by
      subst z
      rcases q1 with q1 | ⟨-, q1⟩
      · exact absurd q1 (by decide)
      · exact q1 (by decide)
    rw [if_neg n0, if_neg n1]
    exact R2_some ⟨rfl, h1.rel⟩
theorem rst (h : RelN nS nF nT nW bB w v) (hR : (R = 46 ∧ k = 0) ∨ (R = 87 ∧ k = 1)) : R2 (if (w.1 R 3) = (0 : Int32) then (some ((0 : Int32), w)) else (x_bo (f_X10_become (x_sub w 5) (x_sub w R)) (fun y1 => x_lt (x_put w 5 41 y1) (fun m2 => x_lt (f_X1_forget (x_sub m2 143)) (fun y3 => x_lt (x_put m2 143 122 y3) (fun m4 => some ((1 : Int32), m4))))))) (if v.1 10 k = (0 : Int32) then (some ((0 : Int32), v)) else x_lp (φ := XM → Int32 → Int32 → Option (Int32 × XM)) (fun _ _ _ => none) (f_X12_restore_27) x_NN v (nI k) (0 : Int32)) Both := by
  have hb := h.1.1.1
  have hk : k < 2 := by omega
  have hI : RImg R k w v := by
    rcases hR with ⟨rfl, rfl⟩ | ⟨rfl, rfl⟩
    · exact h.2.2.1
    · exact h.2.2.2.1
  rcases hI with ⟨z1, z2⟩ | ⟨z1, z2, nS', nF', nT', nW', bB', hW⟩
  · rw [if_pos z1, if_pos z2]; exact R2_some ⟨rfl, h.rel⟩
  · obtain ⟨U, eU, e1, e2, e3⟩ := c_become10 (x_sub w 5) (x_sub w R)
    obtain ⟨r, er, r1, r2, r3, r4, r5, r6⟩ := r_restore (v := v) hk
    unfold f_X1_forget
    rw [if_neg (by rw [z1]; exact one0), if_neg (by rw [z2]; exact one0), eU, bo_some, lt_eq, lt_eq, lt_eq, lt_eq, er, si_row, put_row (by omega)]
    have mo : ∀ i, ¬ (5 ≤ i ∧ i < 46) → (x_put w 5 41 U).1 i = w.1 i := fun i hi => put_out (by omega)
    have mi : ∀ i, i < 41 → (x_put w 5 41 U).1 (i + 5) = U.1 i := fun i q => by
      rw [put_inn (by omega), Nat.add_sub_cancel]
    have ml : (x_put w 5 41 U).2 21 = U.2 16 := by rw [put_i2 (by omega)]
    have mlo : ∀ i, ¬ (5 ≤ i ∧ i < 46) → (x_put w 5 41 U).2 i = w.2 i := fun i hi => put_o2 (by omega)
    generalize x_put w 5 41 U = m5 at mo mi ml mlo ⊢
    have x_o : ∀ i, i ≠ 143 → (x_row m5 (0 + 143) (up ((x_sub m5 143).1 0) 2 0)).1 i = m5.1 i := fun i hi => row_off (by omega)
    have x_h : ∀ j, j ≠ 2 → (x_row m5 (0 + 143) (up ((x_sub m5 143).1 0) 2 0)).1 143 j = w.1 143 j := fun j hj => by
      rw [row_at, up_ne hj]
      show m5.1 143 j = _
      rw [mo 143 (by omega)]
    have x_h2 : (x_row m5 (0 + 143) (up ((x_sub m5 143).1 0) 2 0)).1 143 2 = 0 := by rw [row_at, up_eq]
    have x_l : ∀ i, (x_row m5 (0 + 143) (up ((x_sub m5 143).1 0) 2 0)).2 i = m5.2 i := fun i => rfl
    generalize x_row m5 (0 + 143) (up ((x_sub m5 143).1 0) 2 0) = M at x_o x_h x_h2 x_l ⊢
    have v0 : ∀ j, j ≠ 24 → r.2.1 0 j = v.1 0 j := fun j hj => by rw [r4, up_ne hj]
    refine R2_some ⟨r1.symm, (h.mk2 (nS' := nS') (nF' := nF') (nT' := nT') (nW' := nW') (bB' := bB') (fun i hi => ?_) (fun i hi hs => ?_) ?_ (fun i hi => r2 i (by omega) (by omega)) (fun j _ _ _ j24 => v0 j j24) ?_ ?_ ?_).rel⟩
    · rw [x_l, mlo i (by omega)]
    · rw [x_o i (by omega), mo i (by omega)]
    · rw [r5 9 (by omega)]
    · refine hW.weq (WEq.cg e1 (fun i p q => ?_)) (fun i hi => ?_) (fun j hj => r3 j hj) (fun i hi => r6 i hi)
      · rw [x_o _ (by omega), mi i q]
      · rw [x_l, ml, e2 i hi]
        show w.2 (16 + R) i = w.2 (16 + R) i
        rfl
    · obtain ⟨mm, x, -, hx, -, hx1, -, -⟩ := h.2.1
      exact ⟨0, x, by omega, hx, x_h2, (x_h 1 (by omega)).trans hx1, by rw [r4, up_eq]; rfl, fun k hk => absurd hk (Nat.not_lt_zero _)⟩
    · exact h.tape.congr ⟨by rw [x_o 1 (by omega), mo 1 (by omega)], by rw [x_o 1 (by omega), mo 1 (by omega)], by rw [x_o 3 (by omega), mo 3 (by omega)]⟩ ⟨v0 2 (by omega), v0 10 (by omega), r2 1 (by omega) (by omega)⟩
theorem b_restore (h : RelN nS nF nT nW bB w v) (x : Int32) : R2 (f_X11_restore w x) (f_X12_restore v x) Both := by
  have h1 := h.th (x := 0)
  unfold f_X11_restore f_X12_restore
  rw [show ∀ (f : XM → Option (Int32 × XM)), x_lt (x_si v 0 0 0) f = f (x_si v 0 0 0) from fun f => rfl]
  rw [show ∀ (f : Int32 → Option (Int32 × XM)), x_lt (f_X12_isIn x 0 1) f = f (f_X12_isIn x 0 1) from fun f => rfl]
  generalize x_si v 0 0 0 = v1 at h1 ⊢
  rcases rng (a := 0) (b := 1) (by omega) (by omega) x with ⟨q, q1, q2, rfl, q4, q5, q6⟩ | ⟨q1, q2⟩
  · rw [show f_X12_isIn (nI q) 0 1 = 1 from q6, if_neg one0, ck_in (by omega) (by omega), ga_in (by omega)]
    by_cases c : q = 0
    · subst c
      rw [if_pos (show nI 0 = 0 from rfl)]
      exact rst h1 (Or.inl ⟨rfl, rfl⟩)
    · obtain rfl : q = 1 := by omega
      rw [if_neg (show ¬ nI 1 = 0 by decide), if_pos (show nI 1 = 1 from rfl)]
      exact rst h1 (Or.inr ⟨rfl, rfl⟩)
  · rw [show f_X12_isIn x 0 1 = 0 from q2, if_pos rfl]
    have n0 : ¬ x = 0 := fun z => by
      subst z
      rcases q1 with q1 | ⟨-, q1⟩
      · exact absurd q1 (by decide)
      · exact q1 (by decide)
    have n1 : ¬ x = 1 := fun z => by
      subst z
      rcases q1 with q1 | ⟨-, q1⟩
      · exact absurd q1 (by decide)
      · exact q1 (by decide)
    rw [if_neg n0, if_neg n1]
    exact R2_some ⟨rfl, h1.rel⟩
end D2
