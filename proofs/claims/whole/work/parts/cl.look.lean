-- LINES of a BOOK: what they read.
def RD (n lim p : Nat) (T0 v0 v : XM) (C R : Option (Int32 × XM)) (rg : Nat → Prop) : Prop := (∃ T' v', C = some (-1, T') ∧ R = some (0, v') ∧ Bd T0 v0 T' v') ∨ (∃ (x : Nat) (T' v' : XM) (p' s' : Nat) (t' : Tok), rg x ∧ x < 1000 ∧ C = some (nI x, T') ∧ R = some (1, v') ∧ v'.1 0 13 = nI x ∧ v'.1 17 = v.1 17 ∧ v'.1 0 40 = v.1 0 40 ∧ St n lim p p' s' t' T0 v0 T' v')
/-- the names of the VALLEY that is -/
def WN (nS nT nW : Nat) (V v : XM) : Prop := (nS ≤ 8 ∧ nT ≤ 6 ∧ nW ≤ 5) ∧ RN nS nT nW (V.2 15) (v.2 7) ∧ v.1 2 0 = nI nS ∧ v.1 2 2 = nI nT ∧ v.1 2 3 = nI nW
section CL
variable {n lim b p s a k nS nF nT nW bB : Nat} {t : Tok} {T v T' v' T'' v'' T0 v0 V B D' : XM} {l : List Nat}
theorem WN.gl (h : WN nS nT nW V v) (g : GL v v') : WN nS nT nW V v' := by
  unfold WN at h ⊢
  rw [g.2.2 7 (by omega) (by omega), g.1 2 (by omega) (by omega) (by omega) (by omega)]; exact h
theorem St.rNum (h : St n lim b p s t T0 v0 T v) {x y : Nat} (hx : x < 1000) (hy : y < 1000) : RD n lim p T0 v0 v (f_X8_takeNumber T (nI x) (nI y)) (f_X12_readNumber v (nI x) (nI y)) (fun m => x ≤ m ∧ m ≤ y) := by
  obtain ⟨⟨r, T'⟩, ⟨q, v'⟩, e1, e2, (⟨z1, z2, z3⟩ | ⟨m, m1, m2, z1, z2, z3, -, f1, f2, p', s', t', z4⟩)⟩ := h.num hx hy
  · dsimp only at z1 z2 z3
    subst z1 z2
    exact Or.inl ⟨T', v', e1, e2, z3⟩
  · dsimp only at z1 z2 z3 z4 f1 f2
    subst z1 z2
    exact Or.inr ⟨m, T', v', p', s', t', ⟨m1, m2⟩, by omega, e1, e2, z3, (f2.1 17 (by omega)).trans (si_r (by omega)), (f2.2.1 40 (by omega)).trans (si_n (by omega)), z4⟩
theorem St.rKind (h : St n lim b p s t T0 v0 T v) : RD n lim p T0 v0 v (f_X8_takeKind T) (f_X12_readKind v) (fun m => m < 3) := by
  obtain ⟨⟨r, T'⟩, ⟨q, v'⟩, e1, e2, (⟨z1, z2, z3⟩ | ⟨m, m1, z1, z2, z3, -, f1, f2, p', s', t', z4⟩)⟩ := h.kind
  · dsimp only at z1 z2 z3
    subst z1 z2
    exact Or.inl ⟨T', v', e1, e2, z3⟩
  · dsimp only at z1 z2 z3 z4 f1 f2
    subst z1 z2
    exact Or.inr ⟨m, T', v', p', s', t', m1, by omega, e1, e2, z3, (f2.1 17 (by omega)).trans (si_r (by omega)), (f2.2.1 40 (by omega)).trans (si_n (by omega)), z4⟩
/-- a NAME of one sort, looked up on both sides -/
theorem St.look (h : St n lim b p s t T0 v0 T v) (d : WN nS nT nW V v) {o m M : Nat} (hs : (o = 0 ∧ m = nS ∧ M = 8) ∨ (o = 8 ∧ m = nT ∧ M = 6) ∨ (o = 14 ∧ m = nW ∧ M = 5)) (hn : nmB t = true) : (∃ i, i < m ∧ f_X12_findIn (x_sub v 7) (nI o) (nI m) (v.2 0 12) = some (nI i) ∧ f_X8_takeNamed T V (nI o) (nI M) = x_bo (f_X8_advance T) (fun y => some (nI i, y))) ∨ (f_X12_findIn (x_sub v 7) (nI o) (nI m) (v.2 0 12) = some (-1) ∧ f_X8_takeNamed T V (nI o) (nI M) = some (-1, (f_X8_refuse T (nI 3)).2)) := by
  have hc := h.1.2.2.1
  obtain ⟨hb, d2, -⟩ := d
  obtain ⟨-, c2⟩ := c_named h (V := V) (o := o) (M := M) (by omega)
  have e2 := nm_2 hn
  obtain ⟨ok, -, e12⟩ := hc.2.2.2.1 e2
  rw [e12]
  rcases sort_find (R := x_sub v 7) (cn := V.2 15) (V := V) (o := o) (m := m) (M := M) (by rw [show (x_sub v 7).2 0 = v.2 7 from rfl]; exact d2) hb ok hs rfl with ⟨i, hi, q1, q2⟩ | ⟨q2, q1⟩
  · exact Or.inl ⟨i, hi, q2, (c2 hn _ q1).1 i (by omega) rfl⟩
  · refine Or.inr ⟨q2, ?_⟩
    rcases q1 with q1 | ⟨i, hi, q1, q3⟩
    · exact (c2 hn _ q1).2 (Or.inl rfl)
    · exact (c2 hn _ q1).2 (Or.inr ⟨i, hi, rfl, q3⟩)
theorem St.rNamed (h : St n lim b p s t T0 v0 T v) (d : WN nS nT nW V v) {o m M : Nat} (hs : (o = 0 ∧ m = nS ∧ M = 8) ∨ (o = 8 ∧ m = nT ∧ M = 6) ∨ (o = 14 ∧ m = nW ∧ M = 5)) : RD n lim p T0 v0 v (f_X8_takeNamed T V (nI o) (nI M)) (f_X12_readNamed v (nI o) (nI m)) (fun x => x < m) := by
  have hc := h.1.2.2.1
  have hb := d.1
  obtain ⟨c1, -⟩ := c_named h (V := V) (o := o) (M := M) (by omega)
  unfold f_X12_readNamed
  rw [r_isName hc, bo_some]
  cases hn : nmB t with
  | false =>
    obtain ⟨T', v', b1, b2, b3⟩ := h.bad 1 (Or.inr rfl)
    rw [if_pos bIf, c1 hn, b1, show f_X12_bad v 1 = (0, v') from b2]
    exact Or.inl ⟨T', v', rfl, rfl, b3⟩
  | true =>
    have e2 := nm_2 hn
    rw [if_neg (show ¬ bI true = 0 by decide)]
    rcases h.look d hs hn with ⟨i, hi, q1, q2⟩ | ⟨q1, q2⟩
    · rw [q1, q2, bo_some, lt_eq, si_0, if_neg (nI_nm1 (by omega))]
      obtain ⟨T', v', a1, a2, p', s', t', a3, a4, a5⟩ := (h.told (x := nI i)).next
      rw [a1, a2, bo_some, bo_some]
      exact Or.inr ⟨i, T', v', p', s', t', hi, by omega, rfl, rfl, (a5.2.1 13 (by omega)).trans si_0, (a5.1 17 (by omega)).trans (si_r (by omega)), (a5.2.1 40 (by omega)).trans (si_n (by omega)), a3⟩
    · rw [q1, q2, bo_some, lt_eq, si_0, if_pos rfl]
      obtain ⟨T', v', b1, b2, b3⟩ := (h.told (x := -1)).bad 3 (Or.inl (by omega))
      rw [b1, show f_X12_bad (x_si v 0 13 (-1)) 3 = (0, v') from b2]
      exact Or.inl ⟨T', v', rfl, rfl, b3⟩
theorem St.s17 (h : St n lim b p s t T0 v0 T v) {j : Nat} {x : Int32} : St n lim b p s t T0 v0 T (x_si v 17 j x) := ⟨h.1.cong (si_r (by omega)) (fun j hj => congrFun (si_r (by omega)) j) rfl, (h.2.1).trans (congrFun (si_r (by omega)) 10).symm, h.2.2.1, h.2.2.2.s17 (Or.inl rfl)⟩
theorem r_keep0 {x : Int32} : f_X12_keep v x 0 = some (0, v) := by unfold f_X12_keep; rw [if_pos rfl]
theorem r_keep1 {j : Nat} (hj : j < 120) : f_X12_keep v (nI j) 1 = some (1, x_si v 17 j (v.1 0 13)) := by
  unfold f_X12_keep; rw [if_neg one0, ck_in hj (by omega), lt_eq, pa_si (by omega)]
/-- LINE j of a BOOK as both keep it: deed e, what is behind it x and y -/
def BL (nT nW : Nat) (B v : XM) (j : Nat) : Prop := ∃ e x y : Nat, e < 8 ∧ B.1 2 j = nI (9 + e) ∧ v.1 17 (3 * j) = nI e ∧ v.1 17 (3 * j + 1) = nI x ∧ v.1 17 (3 * j + 2) = nI y ∧ (x < 1000 ∧ y < 1000) ∧ (e < 4 → x < nW ∧ B.1 4 j = nI x ∧ B.1 6 j = nI y ∧ B.1 8 j = 0 ∧ (e = 1 → y < nT) ∧ (e = 2 → y < nW) ∧ (e = 3 → y = 0)) ∧ (4 ≤ e → B.1 4 j = 0 ∧ B.1 6 j = nI x ∧ B.1 8 j = nI y ∧ (e ≠ 5 → y = 0) ∧ (e = 5 → 1 ≤ y ∧ y ≤ 30) ∧ (e = 6 → x < 3) ∧ (e = 7 → 1 ≤ x ∧ x ≤ 60))
def BKr (nT nW k : Nat) (B v : XM) : Prop := B.1 0 4 = nI k ∧ ∀ j, j < k → BL nT nW B v j
/-- the class's LINE k put down -/
def bk4 (B : XM) (k : Nat) (d w x l : Int32) : XM := x_si (x_row (x_row (x_row (x_row B 2 (up (B.1 2) k d)) 4 (up (B.1 4) k w)) 6 (up (B.1 6) k x)) 8 (up (B.1 8) k l)) 0 4 (nI (k + 1))
theorem bput {M : XM} {o k : Nat} {x : Int32} {g : Nat → Int32} (hk : k < 40) (e : M.1 0 4 = nI k) (e2 : M.1 (1 + o) = g) : x_put M o 2 (r_put 40 (x_sub M o) (M.1 0 4) x) = x_row M (1 + o) (up g k x) := by rw [e, put_rput hk (by omega), e2]
theorem c_140 {d w x l : Int32} (hB : B.1 0 4 = nI k) (hk : k < 40) (hx : ¬ x = -1) (hl : ¬ l = -1) : f_X0_readLine_140 V B T w d x l = some (1, bk4 B k d w x l, T) := by
  have h3 : (x_row B 2 (up (B.1 2) k d)).1 0 4 = nI k := by rw [row_off (by omega)]; exact hB
  have h5 : (x_row (x_row B 2 (up (B.1 2) k d)) 4 (up (B.1 4) k w)).1 0 4 = nI k := by rw [row_off (by omega)]; exact h3
  have h7 : (x_row (x_row (x_row B 2 (up (B.1 2) k d)) 4 (up (B.1 4) k w)) 6 (up (B.1 6) k x)).1 0 4 = nI k := by rw [row_off (by omega)]; exact h5
  have h9 : (x_row (x_row (x_row (x_row B 2 (up (B.1 2) k d)) 4 (up (B.1 4) k w)) 6 (up (B.1 6) k x)) 8 (up (B.1 8) k l)).1 0 4 = nI k := by rw [row_off (by omega)]; exact h7
  have e3 : x_put B 1 2 (r_put 40 (x_sub B 1) (B.1 0 4) d) = x_row B 2 (up (B.1 2) k d) := bput hk hB rfl
  have e5 : x_put (x_row B 2 (up (B.1 2) k d)) 3 2 (r_put 40 (x_sub (x_row B 2 (up (B.1 2) k d)) 3) ((x_row B 2 (up (B.1 2) k d)).1 0 4) w) = x_row (x_row B 2 (up (B.1 2) k d)) 4 (up (B.1 4) k w) := bput hk h3 (by rw [row_off (by omega)])
  have e7 : x_put (x_row (x_row B 2 (up (B.1 2) k d)) 4 (up (B.1 4) k w)) 5 2 (r_put 40 (x_sub (x_row (x_row B 2 (up (B.1 2) k d)) 4 (up (B.1 4) k w)) 5) ((x_row (x_row B 2 (up (B.1 2) k d)) 4 (up (B.1 4) k w)).1 0 4) x) = x_row (x_row (x_row B 2 (up (B.1 2) k d)) 4 (up (B.1 4) k w)) 6 (up (B.1 6) k x) := bput hk h5 (by rw [row_off (by omega), row_off (by omega)])
  have e9 : x_put (x_row (x_row (x_row B 2 (up (B.1 2) k d)) 4 (up (B.1 4) k w)) 6 (up (B.1 6) k x)) 7 2 (r_put 40 (x_sub (x_row (x_row (x_row B 2 (up (B.1 2) k d)) 4 (up (B.1 4) k w)) 6 (up (B.1 6) k x)) 7) ((x_row (x_row (x_row B 2 (up (B.1 2) k d)) 4 (up (B.1 4) k w)) 6 (up (B.1 6) k x)).1 0 4) l) = x_row (x_row (x_row (x_row B 2 (up (B.1 2) k d)) 4 (up (B.1 4) k w)) 6 (up (B.1 6) k x)) 8 (up (B.1 8) k l) := bput hk h7 (by rw [row_off (by omega), row_off (by omega), row_off (by omega)])
  unfold f_X0_readLine_140
  rw [if_neg hx, if_neg hl]
  simp only [lt_eq]
  rw [e3, e5, e7, e9, h9, nI_1]; rfl
theorem bk4_at {d w x l : Int32} : (bk4 B k d w x l).1 2 = up (B.1 2) k d ∧ (bk4 B k d w x l).1 4 = up (B.1 4) k w ∧ (bk4 B k d w x l).1 6 = up (B.1 6) k x ∧ (bk4 B k d w x l).1 8 = up (B.1 8) k l ∧ (bk4 B k d w x l).1 0 4 = nI (k + 1) ∧ (∀ j, j ≠ 4 → (bk4 B k d w x l).1 0 j = B.1 0 j) := by
  unfold bk4
  refine ⟨?_, ?_, ?_, ?_, si_0, fun j hj => ?_⟩
  · rw [si_r (by omega), row_off (by omega), row_off (by omega), row_off (by omega), row_at]
  · rw [si_r (by omega), row_off (by omega), row_off (by omega), row_at]
  · rw [si_r (by omega), row_off (by omega), row_at]
  · rw [si_r (by omega), row_at]
  · rw [si_n hj, row_off (by omega), row_off (by omega), row_off (by omega), row_off (by omega)]
theorem BKr.more (h : BKr nT nW k B v) {e x y : Nat} {w X L : Int32} (he : e < 8) (hv : ∀ j, j < 3 * k → v'.1 17 j = v.1 17 j) (v0 : v'.1 17 (3 * k) = nI e) (v1 : v'.1 17 (3 * k + 1) = nI x) (v2 : v'.1 17 (3 * k + 2) = nI y) (hxy : x < 1000 ∧ y < 1000) (h4 : e < 4 → x < nW ∧ w = nI x ∧ X = nI y ∧ L = 0 ∧ (e = 1 → y < nT) ∧ (e = 2 → y < nW) ∧ (e = 3 → y = 0)) (h5 : 4 ≤ e → w = 0 ∧ X = nI x ∧ L = nI y ∧ (e ≠ 5 → y = 0) ∧ (e = 5 → 1 ≤ y ∧ y ≤ 30) ∧ (e = 6 → x < 3) ∧ (e = 7 → 1 ≤ x ∧ x ≤ 60)) : BKr nT nW (k + 1) (bk4 B k (nI (9 + e)) w X L) v' := by
  obtain ⟨q1, q2, q3, q4, q5, -⟩ := bk4_at (B := B) (k := k) (d := nI (9 + e)) (w := w) (x := X) (l := L)
  refine ⟨q5, fun j hj => ?_⟩
  by_cases c : j = k
  · subst c
    refine ⟨e, x, y, he, by rw [q1, up_eq], v0, v1, v2, hxy, fun z => ?_, fun z => ?_⟩
    · rw [q2, q3, q4, up_eq, up_eq, up_eq]; exact h4 z
    · rw [q2, q3, q4, up_eq, up_eq, up_eq]; exact h5 z
  · obtain ⟨e', x', y', w1, w2, w3, w4, w5, w6, w7, w8⟩ := h.2 j (by omega)
    refine ⟨e', x', y', w1, by rw [q1, up_ne c]; exact w2, by rw [hv _ (by omega)]; exact w3, by rw [hv _ (by omega)]; exact w4, by rw [hv _ (by omega)]; exact w5, w6, fun z => ?_, fun z => ?_⟩
    · rw [q2, q3, q4, up_ne c, up_ne c, up_ne c]; exact w7 z
    · rw [q2, q3, q4, up_ne c, up_ne c, up_ne c]; exact w8 z
end CL
