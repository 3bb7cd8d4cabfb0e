-- valley, the call.
theorem R2_wq {α β : Type} {f : Option α} {g : Option β} {Q : α → β → Prop} (h : wp g (fun q => R2 f (some q) Q)) : R2 f g Q := by
  obtain ⟨q, e, r⟩ := h
  rw [e]; exact r
theorem wq_R2 {α β : Type} {f : Option α} {g : Option β} {Q : α → β → Prop} (h : R2 f g Q) : wp g (fun q => R2 f (some q) Q) := by
  obtain ⟨r, q, e1, e2, e3⟩ := h
  exact ⟨q, e2, r, q, e1, rfl, e3⟩
theorem put_o2 {v u : XM} {o n i : Nat} (h : ¬ (o ≤ i ∧ i < o + n)) : (x_put v o n u).2 i = v.2 i := if_neg h
theorem put_i2 {v u : XM} {o n i : Nat} (h : o ≤ i ∧ i < o + n) : (x_put v o n u).2 i = u.2 (i - o) := if_pos h
section CK
variable {n lim b p s a k nS nF nT nW bB : Nat} {t : Tok} {T v T' v' T'' v'' T0 v0 D D' w : XM}
theorem r_zero3 {Q : Int32 × XM → Prop} (v1 : XM) (H : ∀ m, Fr [3] v1 m → (∀ j, j < 70 → m.1 3 j = 0) → wp (x_lp (φ := XM → Int32 → Option (Int32 × XM)) (fun _ _ => none) (f_X12_valley_43) x_NN (x_si (x_si m 0 23 0) 3 4 12) (0 : Int32)) Q) : wp (x_lp (φ := XM → Int32 → Option (Int32 × XM)) (fun _ _ => none) (f_X12_valley_9) x_NN v1 (0 : Int32)) Q := by
  refine lp_fora (σ := XM) (n := 70) (fun (K : XM → Int32 → Option (Int32 × XM)) a c => K a c) (fun i a => Fr [3] v1 a ∧ ∀ j, j < i → a.1 3 j = 0) _ ?_ ?_ x_NN v1 (by decide) ⟨Fr.rf, fun j q => absurd q (Nat.not_lt_zero _)⟩
  · rintro K i a hi ⟨g1, g2⟩ ih
    show wp (f_X12_valley_9 K a (nI i)) _
    unfold f_X12_valley_9
    rw [if_neg (show ¬ (70 : Int32) ≤ nI i from nI_ge (b := 70) (by omega) (by omega)), ck_in hi (by omega), lt_eq, pa_in (by omega), nI_1]
    refine ih _ ⟨g1.row (by simp), fun j hj => ?_⟩
    rw [row_at]
    by_cases c : j = i
    · subst c; rw [up_eq]
    · rw [up_ne c]; exact g2 j (by omega)
  · rintro K a ⟨g1, g2⟩
    show wp (f_X12_valley_9 K a (nI 70)) _
    unfold f_X12_valley_9
    rw [if_pos (show (70 : Int32) ≤ nI 70 from nI_le (a := 70) (b := 70) (by omega) (by omega)), lt_eq, lt_eq, show x_pa (x_si a 0 23 0) 3 4 12 = x_si (x_si a 0 23 0) 3 4 12 from pa_si (k := 4) (by omega)]
    exact H a g1 g2
theorem RV.cg {cv cv' : Nat → Nat → Int32} {hd hd' : Nat → Int32} (h : RV nS nF nT nW bB cv hd) (c0 : ∀ j, j < 6 → cv' 0 j = cv 0 j) (c2 : ∀ j, j < 12 → cv' 2 j = cv 2 j ∧ cv' 4 j = cv 4 j ∧ cv' 6 j = cv 6 j ∧ cv' 8 j = cv 8 j) (c10 : ∀ j, j < 6 → cv' 10 j = cv 10 j) (c12 : ∀ j, j < 5 → cv' 12 j = cv 12 j ∧ cv' 14 j = cv 14 j) (e : ∀ j, j < 70 → hd' j = hd j) : RV nS nF nT nW bB cv' hd' := by
  obtain ⟨hb, h2, h3, h4, h5, h6, h7⟩ := h
  refine ⟨hb, ?_, ?_, fun f hf => ?_, fun f hf => ?_, fun t ht => ?_, fun w hw => ?_⟩
  · rw [e 0 (by omega), e 1 (by omega), e 2 (by omega), e 3 (by omega), e 4 (by omega)]; exact h2
  · rw [c0 0 (by omega), c0 1 (by omega), c0 2 (by omega), c0 3 (by omega), c0 4 (by omega), c0 5 (by omega), e 5 (by omega)]; exact h3
  · obtain ⟨q1, q2, q3, q4⟩ := c2 f (by omega)
    rw [q1, q2, q3, q4, e _ (by omega), e _ (by omega), e _ (by omega), e _ (by omega)]; exact h4 f hf
  · rw [e _ (by omega), e _ (by omega), e _ (by omega)]; exact h5 f hf
  · rw [c10 t (by omega), e _ (by omega)]; exact h6 t ht
  · obtain ⟨q1, q2⟩ := c12 w (by omega)
    rw [q1, q2, e _ (by omega), e _ (by omega)]; exact h7 w hw
theorem opV_o {j : Nat} (h0 : j ≠ 0) (h2 : j ≠ 2) (h3 : j ≠ 3) (h4 : j ≠ 4) (h5 : j ≠ 5) (h10 : j ≠ 10) : (opV lim n v).1 0 j = v.1 0 j := (si_n h5).trans ((si_n h10).trans ((si_n h4).trans ((si_n h3).trans ((si_n h2).trans (si_n h0)))))
theorem opV_r {i : Nat} (h : i ≠ 0) : (opV lim n v).1 i = v.1 i := (si_r h).trans ((si_r h).trans ((si_r h).trans ((si_r h).trans ((si_r h).trans (si_r h)))))
theorem opV_2 : (opV lim n v).1 0 2 = 0 := (si_n (by omega)).trans ((si_n (by omega)).trans ((si_n (by omega)).trans ((si_n (by omega)).trans si_0)))
theorem opT_r {i : Nat} (h : i ≠ 0) : (opT lim w).1 i = w.1 (i + 1) := (si_r h).trans ((si_r h).trans ((si_r h).trans (si_r h)))
theorem vy_main (h : RelN nS nF nT nW bB w v) : ∃ n, R2 (f_X6_readValley (x_sub w 265) (x_sub w 1)) (f_X12_valley v) (VyP (opT 900 w) (opV 900 n v)) := by
  obtain ⟨n, T, v1, p, s, t, n1, n2, n3, e1, e2, hs, fT, fV⟩ := begun h (lim := 900) (by omega)
  obtain ⟨U, eU, ⟨u0, u1, u2, u3, u4, u5⟩, un⟩ := c_empty (x_sub (x_sub w 265) 1)
  refine ⟨n, ?_⟩
  unfold f_X6_readValley f_X12_valley
  rw [eU, bo_some, lt_eq, lt_eq, show f_X8_open (x_sub w 1) 900 = some T from e1, bo_some, show f_X12_begin v 900 = some v1 from e2, bo_some]
  refine R2_wq (r_zero3 v1 (fun m fm zm => wq_R2 ?_))
  have h' : St n 900 0 p s t (opT 900 w) (opV 900 n v) T (x_si (x_si m 0 23 0) 3 4 12) := by
    have em : ∀ j, m.1 0 j = v1.1 0 j := fun j => by rw [fm.2 0 (by simp)]
    refine ⟨hs.1.cong ?_ (fun j hj => ?_) ?_, ?_, hs.2.2.1, ((hs.2.2.2.tr ⟨fun i i0 i3 _ _ => fm.2 i (by simp; omega), fun j _ _ _ => em j, fun i _ _ => by rw [fm.1]⟩).si (by omega)).s3⟩
    · exact (si_r (by omega)).trans ((si_r (by omega)).trans (fm.2 1 (by simp)))
    · exact (congrFun (si_r (by omega)) j).trans ((si_n (by omega)).trans (em j))
    · show m.2 0 = v1.2 0
      rw [fm.1]
    · exact hs.2.1.trans ((congrFun (si_r (by omega)) 10).trans ((si_n (by omega)).trans (em 10))).symm
  have eD : (x_si (x_put (x_sub w 265) 1 16 U) 0 1 0).1 1 = U.1 0 := (si_r (by omega)).trans (put_inn (by omega))
  have e3 : ∀ j, j < 70 → j ≠ 4 → (x_si (x_si m 0 23 0) 3 4 12).1 3 j = 0 := fun j hj h4 => (si_n h4).trans ((congrFun (si_r (by omega)) j).trans (zm j hj))
  have hd : DR 0 0 0 0 12 (x_si (x_put (x_sub w 265) 1 16 U) 0 1 0) (x_si (x_si m 0 23 0) 3 4 12) := by
    refine ⟨⟨by omega, ⟨e3 0 (by omega) (by omega), e3 1 (by omega) (by omega), e3 2 (by omega) (by omega), e3 3 (by omega) (by omega), si_0⟩, ⟨?_, ?_, ?_, ?_, ?_, ?_⟩, fun f hf => absurd hf (Nat.not_lt_zero _), fun f hf => absurd hf (Nat.not_lt_zero _), fun f hf => absurd hf (Nat.not_lt_zero _), fun f hf => absurd hf (Nat.not_lt_zero _)⟩, ⟨fun i hi hu => ?_, fun i hi _ => ?_, fun i j _ _ hu => ?_⟩, ?_⟩
    · show (x_si (x_put (x_sub w 265) 1 16 U) 0 1 0).1 1 0 = 0
      rw [eD]; exact u0
    · show (x_si (x_put (x_sub w 265) 1 16 U) 0 1 0).1 1 1 = 0
      rw [eD]; exact u1
    · show (x_si (x_put (x_sub w 265) 1 16 U) 0 1 0).1 1 2 = 0
      rw [eD]; exact u2
    · show (x_si (x_put (x_sub w 265) 1 16 U) 0 1 0).1 1 3 = 0
      rw [eD]; exact u3
    · show (x_si (x_put (x_sub w 265) 1 16 U) 0 1 0).1 1 4 = 12
      rw [eD]; exact u4
    · show (x_si (x_put (x_sub w 265) 1 16 U) 0 1 0).1 1 5 = _
      rw [eD, u5, e3 5 (by omega) (by omega)]
    · unfold usd at hu; omega
    · show (if 1 ≤ 16 ∧ 16 < 1 + 16 then U.2 (16 - 1) else (x_sub w 265).2 16) i = 0
      rw [if_pos (by omega)]; exact un i hi
    · unfold usd at hu; omega
    · rw [si_0, congrFun (si_r (show 0 ≠ 3 by omega)) 23, si_0]
  exact vy_loop h' hd (by omega)
theorem b_valley (h : RelN nS nF nT nW bB w v) : R2 (f_X11_valley w) (f_X12_valley v) Both := by
  obtain ⟨n, ⟨r, D, T⟩, ⟨q, v'⟩, e1, e2, P⟩ := vy_main h
  have hb := h.1.1.1
  unfold f_X11_valley
  rw [e1, e2, bo_some]
  -- the class's memory behind the reading
  have m_T : ∀ i, 1 ≤ i → i < 5 → (x_put (x_put w 265 17 D) 1 4 T).1 i = T.1 (i - 1) := fun i p q => put_inn (by omega)
  have m_D : ∀ i, 265 ≤ i → i < 282 → (x_put (x_put w 265 17 D) 1 4 T).1 i = D.1 (i - 265) := fun i p q => by rw [put_out (by omega), put_inn (by omega)]
  have m_o : ∀ i, ¬ (1 ≤ i ∧ i < 5) → ¬ (265 ≤ i ∧ i < 282) → (x_put (x_put w 265 17 D) 1 4 T).1 i = w.1 i := fun i p q => by rw [put_out (by omega), put_out (by omega)]
  have l_T : (x_put (x_put w 265 17 D) 1 4 T).2 4 = T.2 3 := by
    rw [put_i2 (by omega)]
  have l_o : ∀ i, ¬ (1 ≤ i ∧ i < 5) → ¬ (265 ≤ i ∧ i < 282) → (x_put (x_put w 265 17 D) 1 4 T).2 i = w.2 i := fun i p q => by
    show (if 1 ≤ i ∧ i < 1 + 4 then T.2 (i - 1) else if 265 ≤ i ∧ i < 265 + 17 then D.2 (i - 265) else w.2 i) = _
    rw [if_neg (by omega), if_neg (by omega)]
  have l_D : (x_put (x_put w 265 17 D) 1 4 T).2 281 = D.2 16 := by
    show (if 1 ≤ 281 ∧ 281 < 1 + 4 then T.2 (281 - 1) else if 265 ≤ 281 ∧ 281 < 265 + 17 then D.2 (281 - 265) else w.2 281) = _
    rw [if_neg (by omega), if_pos (by omega)]
  generalize x_put (x_put w 265 17 D) 1 4 T = m2 at m_T m_D m_o l_T l_o l_D ⊢
  have e3 : ∀ i, i ≠ 1 → (x_si m2 1 2 0).1 i = m2.1 i := fun i hi => si_r hi
  have tape : ∀ z : XM, FL (opT 900 w) T → (∀ i, z.1 1 i = v.1 1 i) → z.1 0 2 = 0 → T.1 0 10 = z.1 0 10 → ∀ M : XM, M.1 1 2 = 0 → M.1 1 10 = m2.1 1 10 → M.1 3 = m2.1 3 → RTape M z := by
    intro z hT z1 z2 z10 M a1 a2 a3
    refine ⟨⟨0, by omega, a1, z2⟩, fun i hi => ?_, ?_⟩
    · rw [a3, m_T 3 (by omega) (by omega), hT.1 2 (by omega), opT_r (by omega), z1]; exact h.tape.2.1 i hi
    · rw [a2, m_T 1 (by omega) (by omega)]; exact z10
  rcases P with ⟨z1, ⟨z2, z3, z4, z5, -⟩, z6⟩ | ⟨k, nS', nF', nT', nW', bB', v2, k9, z1, d, fT, fV, f10, y1, y2, y3, y4, y5, y6, y7, y8⟩
  · dsimp only at z1 z2 z3 z4 z5 z6 ⊢
    rw [lt_eq, lt_eq, if_pos z1, show (x_si m2 1 2 0).1 1 11 = v'.1 0 11 from by rw [si_n (by omega), m_T 1 (by omega) (by omega)]; exact z5, ← z6]
    refine R2_some ⟨rfl, (h.txt (fun i hi => ?_) (fun i i1 i3 hi => ?_) ⟨?_, ?_⟩ (fun i hi => ?_) (fun j hj j2 j10 => ?_) ?_).rel⟩
    · show m2.2 i = w.2 i
      by_cases c : i = 4
      · subst c; rw [l_T, z2.2.2 3 (by omega)]; rfl
      · exact l_o i (by omega) (by omega)
    · rw [e3 i i1]
      by_cases c : 1 ≤ i ∧ i < 5
      · rw [m_T i c.1 c.2, z2.1 _ (by omega), opT_r (by omega), show i - 1 + 1 = i by omega]
      · exact m_o i c (by unfold scrW at hi; omega)
    · exact z3.2.2 7 (by omega) (by omega)
    · exact z3.2.2 9 (by omega) (by omega)
    · rw [z3.1 i (by omega) (by omega) (by omega) (by omega), opV_r (by omega)]
    · have : ¬ (5 ≤ j ∧ j ≤ 13) ∧ j ≠ 23 ∧ ¬ (j = 40 ∨ 42 ≤ j) ∧ j ≠ 0 ∧ j ≠ 3 ∧ j ≠ 4 ∧ j ≠ 5 := by unfold vF at hj; omega
      rw [z3.2.1 j this.1 this.2.1 this.2.2.1, opV_o this.2.2.2.1 j2 this.2.2.2.2.1 this.2.2.2.2.2.1 this.2.2.2.2.2.2 j10]
    · exact tape v' z2 (fun i => by rw [z3.1 1 (by omega) (by omega) (by omega) (by omega), opV_r (by omega)]) (by rw [z3.2.1 2 (by omega) (by omega) (by omega)]; exact opV_2) z4 _ si_0 (si_n (by omega)) (e3 3 (by omega))
  · dsimp only at z1 d fT fV f10 y1 y2 y3 y4 y5 y6 y7 y8 ⊢
    rw [lt_eq, lt_eq, if_neg (show ¬ r = -1 from by rw [z1]; exact nI_nm1 (by omega))]
    obtain ⟨U, eU, f1, f2, f3, f4, f5, f6, f7, f8, f9⟩ := c_found (x_sub (x_si m2 1 2 0) 5) (x_sub (x_si m2 1 2 0) 266)
    rw [eU, bo_some, lt_eq]
    unfold f_X1_forget
    rw [lt_eq, lt_eq, lt_eq, si_row (v := x_sub (x_put (x_si m2 1 2 0) 5 41 U) 143), put_row (by omega)]
    have hb' := d.1.1
    have dd : ∀ i, i < 16 → (x_sub (x_si m2 1 2 0) 266).1 i = D.1 (i + 1) := fun i hi => by
      show (x_si m2 1 2 0).1 (i + 266) = _
      rw [e3 _ (by omega), m_D _ (by omega) (by omega), show i + 266 - 265 = i + 1 by omega]
    have dl : (x_sub (x_si m2 1 2 0) 266).2 15 = D.2 16 := l_D
    rw [dd 0 (by omega)] at f1
    rw [dd 2 (by omega), dd 4 (by omega), dd 6 (by omega), dd 8 (by omega)] at f2
    rw [dd 10 (by omega)] at f3
    rw [dd 12 (by omega), dd 14 (by omega)] at f4
    rw [dl] at f5
    rw [dd 12 (by omega)] at f7
    rw [dd 6 (by omega)] at f8
    have u_1 : ∀ i, i < 41 → i + 5 ≠ 143 → (x_put (x_si m2 1 2 0) 5 41 U).1 (i + 5) = U.1 i := fun i hi _ => by rw [put_inn (by omega), Nat.add_sub_cancel]
    have u_o : ∀ i, ¬ (5 ≤ i ∧ i < 46) → i ≠ 1 → (x_put (x_si m2 1 2 0) 5 41 U).1 i = m2.1 i := fun i hi h1 => by rw [put_out (by omega), e3 i h1]
    have u_11 : ∀ j, (x_put (x_si m2 1 2 0) 5 41 U).1 1 j = (x_si m2 1 2 0).1 1 j := fun j => by rw [put_out (by omega)]
    have u_l : (x_put (x_si m2 1 2 0) 5 41 U).2 21 = U.2 16 := by
      rw [put_i2 (by omega)]
    have u_lo : ∀ i, ¬ (5 ≤ i ∧ i < 46) → (x_put (x_si m2 1 2 0) 5 41 U).2 i = m2.2 i := fun i hi => by
      rw [put_o2 (by omega)]; rfl
    generalize x_put (x_si m2 1 2 0) 5 41 U = m5 at u_1 u_o u_11 u_l u_lo ⊢
    have x_o : ∀ i, i ≠ 143 → (x_row m5 (0 + 143) (up ((x_sub m5 143).1 0) 2 0)).1 i = m5.1 i := fun i hi => row_off hi
    have x_h : ∀ j, j ≠ 2 → (x_row m5 (0 + 143) (up ((x_sub m5 143).1 0) 2 0)).1 143 j = w.1 143 j := fun j hj => by
      rw [row_at, up_ne hj]
      show m5.1 143 j = _
      rw [u_o 143 (by omega) (by omega), m_o 143 (by omega) (by omega)]
    have x_h2 : (x_row m5 (0 + 143) (up ((x_sub m5 143).1 0) 2 0)).1 143 2 = 0 := by rw [row_at, up_eq]
    have x_l : ∀ i, (x_row m5 (0 + 143) (up ((x_sub m5 143).1 0) 2 0)).2 i = m5.2 i := fun i => rfl
    generalize x_row m5 (0 + 143) (up ((x_sub m5 143).1 0) 2 0) = M at x_o x_h x_h2 x_l ⊢
    have eM : ∀ i, i < 41 → M.1 (i + 5) = U.1 i := fun i hi => by rw [x_o _ (by omega), u_1 i hi (by omega)]
    have hso : ∀ j, j < 283 → v'.1 2 (70 + j) = so0 (v2.1 3) (70 + j) := fun j hj => y8 _ (by omega) (by omega)
    have s0 : ∀ j, j < 283 → j ≠ 1 → ¬ (4 ≤ j ∧ j < 14) → v'.1 2 (70 + j) = 0 := fun j hj h1 h2 => by
      rw [hso j hj]; unfold so0
      rw [if_neg (by omega), if_neg (by omega), if_neg (by omega)]
    have s1 : v'.1 2 71 = -1 := by rw [y8 71 (by omega) (by omega)]; rfl
    have sA : ∀ j, j < 5 → v'.1 2 (74 + j) = v2.1 3 (60 + j) := fun j hj => by
      rw [y8 _ (by omega) (by omega)]; unfold so0
      rw [if_neg (by omega), if_pos (by omega), show 74 + j - 14 = 60 + j by omega]
    have sB : ∀ j, j < 5 → v'.1 2 (79 + j) = -1 := fun j hj => by
      rw [y8 _ (by omega) (by omega)]; unfold so0
      rw [if_neg (by omega), if_neg (by omega), if_pos (by omega)]
    refine R2_some ⟨by rw [z1, y1], (h.mk2 (nS' := nS') (nF' := nF') (nT' := nT') (nW' := nW') (bB' := bB') (fun i hi => ?_) (fun i hi hs => ?_) ?_ (fun i hi => ?_) (fun j hj j2 j10 j24 => ?_) ⟨?_, ?_, ?_, ?_⟩ ?_ ?_).rel⟩
    · rw [x_l, u_lo i (by omega)]
      by_cases c : i = 4
      · subst c; rw [l_T, fT.2.2 3 (by omega)]; rfl
      · exact l_o i (by omega) (by omega)
    · rw [x_o i (by omega), u_o i (by omega) (by omega), m_o i (by omega) (by unfold scrW at hs; omega)]
    · rw [y5 9 (by omega), fV.2.2 9 (by omega) (by omega)]; rfl
    · rw [y2 i (by omega) (by omega), fV.1 i (by omega) (by omega) (by omega) (by omega), opV_r (by omega)]
    · have : ¬ (5 ≤ j ∧ j ≤ 13) ∧ j ≠ 23 ∧ ¬ (j = 40 ∨ 42 ≤ j) ∧ j ≠ 0 ∧ j ≠ 3 ∧ j ≠ 4 ∧ j ≠ 5 := by unfold vF at hj; omega
      rw [y3 j j24, fV.2.1 j this.1 this.2.1 this.2.2.1, opV_o this.2.2.2.1 j2 this.2.2.2.2.1 this.2.2.2.2.2.1 this.2.2.2.2.2.2 j10]
    · refine d.1.cg (fun j hj => ?_) (fun j hj => ?_) (fun j hj => ?_) (fun j hj => ?_) y7
      · show M.1 (0 + 1 + 5) j = D.1 (0 + 1) j
        rw [eM 1 (by omega)]; exact f1 j hj
      · show M.1 (3 + 5) j = D.1 3 j ∧ M.1 (5 + 5) j = D.1 5 j ∧ M.1 (7 + 5) j = D.1 7 j ∧ M.1 (9 + 5) j = D.1 9 j
        rw [eM 3 (by omega), eM 5 (by omega), eM 7 (by omega), eM 9 (by omega)]; exact f2 j hj
      · show M.1 (11 + 5) j = D.1 11 j
        rw [eM 11 (by omega)]; exact f3 j hj
      · show M.1 (13 + 5) j = D.1 13 j ∧ M.1 (15 + 5) j = D.1 15 j
        rw [eM 13 (by omega), eM 15 (by omega)]; exact f4 j hj
    · refine ⟨⟨0, by omega, s0 0 (by omega) (by omega) (by omega)⟩, ⟨?_, ?_, ?_⟩, fun w' hw => ⟨?_, ?_, ?_, ?_, ?_⟩, fun w' hw => ?_, fun w' p q => ⟨?_, ?_⟩, fun f hf => ⟨?_, ?_, 0, by omega, ?_⟩, fun f p q => ?_⟩
      · show M.1 (17 + 5) 0 = _
        rw [eM 17 (by omega), f6.1]; exact (s0 0 (by omega) (by omega) (by omega)).symm
      · show M.1 (17 + 5) 1 = _
        rw [eM 17 (by omega), f6.2.1]; exact s1.symm
      · show M.1 (17 + 5) 2 = _
        rw [eM 17 (by omega), f6.2.2]; exact (s0 3 (by omega) (by omega) (by omega)).symm
      · show M.1 (19 + 5) w' = v'.1 2 (70 + (4 + w'))
        rw [eM 19 (by omega), (f7 w' (by omega)).1, show 70 + (4 + w') = 74 + w' by omega, sA w' (by omega)]
        exact (d.1.2.2.2.2.2.2 w' hw).1
      · show M.1 (21 + 5) w' = v'.1 2 (70 + (9 + w'))
        rw [eM 21 (by omega), (f7 w' (by omega)).2.1, show 70 + (9 + w') = 79 + w' by omega, sB w' (by omega)]
      · show M.1 (23 + 5) w' = v'.1 2 (70 + (14 + w'))
        rw [eM 23 (by omega), (f7 w' (by omega)).2.2.1, s0 _ (by omega) (by omega) (by omega)]
      · show M.1 (25 + 5) w' = v'.1 2 (70 + (19 + w'))
        rw [eM 25 (by omega), (f7 w' (by omega)).2.2.2.1, s0 _ (by omega) (by omega) (by omega)]
      · show M.1 (27 + 5) w' = v'.1 2 (70 + (24 + w'))
        rw [eM 27 (by omega), (f7 w' (by omega)).2.2.2.2, s0 _ (by omega) (by omega) (by omega)]
      · obtain ⟨-, -, s, p, q1, -, -, q4, -⟩ := d.1.2.2.2.2.2.2 w' hw
        refine ⟨s, 0, 0, q1, by omega, by omega, ?_, s0 _ (by omega) (by omega) (by omega), s0 _ (by omega) (by omega) (by omega), ⟨fun _ => ?_, fun _ => rfl⟩⟩
        · show v'.1 2 (70 + (4 + w')) = _
          rw [show 70 + (4 + w') = 74 + w' by omega, sA w' (by omega)]; exact q4
        · show v'.1 2 (70 + (9 + w')) = _
          rw [show 70 + (9 + w') = 79 + w' by omega]; exact sB w' (by omega)
      · exact s0 _ (by omega) (by omega) (by omega)
      · exact s0 _ (by omega) (by omega) (by omega)
      · show M.1 (29 + 5) f = pd (v'.1 2) (fun j => v'.1 2 (70 + j)) f
        unfold pd
        rw [eM 29 (by omega), (f8 f (by omega)).1, show (fun j => v'.1 2 (70 + j)) 2 = 0 from s0 2 (by omega) (by omega) (by omega), b_0, if_neg ft, y7 _ (by omega)]
        exact (d.1.2.2.2.1 f hf).2.2.1
      · show M.1 (31 + 5) f = v'.1 2 (70 + (29 + f))
        rw [eM 31 (by omega), (f8 f (by omega)).2, s0 _ (by omega) (by omega) (by omega)]
      · exact s0 _ (by omega) (by omega) (by omega)
      · exact s0 _ (by omega) (by omega) (by omega)
    · obtain ⟨r1, r2, r3⟩ := d.2.1
      have q1 : ∀ i, i < 19 → M.2 21 i = D.2 16 i := fun i hi => by rw [x_l, u_l, f5 i hi]
      refine ⟨fun i hi hu => ?_, fun i hi hu => ?_, fun i j hi hj ui uj e => ?_⟩
      · rw [q1 i hi, y6 i hi]; exact r1 i hi hu
      · rw [q1 i hi]; exact r2 i hi hu
      · rw [q1 i hi, q1 j hj] at e; exact r3 i j hi hj ui uj e
    · refine Or.inl ⟨s0 41 (by omega) (by omega) (by omega), ?_⟩
      show M.1 (32 + 5) 0 = 0
      rw [eM 32 (by omega)]; exact f9
    · obtain ⟨mm, x, -, hx, -, hx1, -, -⟩ := h.2.1
      exact ⟨0, x, by omega, hx, x_h2, (x_h 1 (by omega)).trans hx1, y4, fun k hk => absurd hk (Nat.not_lt_zero _)⟩
    · refine tape v' fT (fun i => by rw [y2 1 (by omega) (by omega), fV.1 1 (by omega) (by omega) (by omega) (by omega), opV_r (by omega)]) (by rw [y3 2 (by omega), fV.2.1 2 (by omega) (by omega) (by omega)]; exact opV_2) (by rw [y3 10 (by omega)]; exact f10) M ?_ ?_ ?_
      · rw [x_o 1 (by omega), u_11]; exact si_0
      · rw [x_o 1 (by omega), u_11, si_n (by omega)]
      · rw [x_o 3 (by omega), u_o 3 (by omega) (by omega)]
end CK
