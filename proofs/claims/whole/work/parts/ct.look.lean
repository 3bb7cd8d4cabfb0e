-- book, the call.
section CTT
variable {n lim b p s a k e i nS nF nT nW bB : Nat} {t : Tok} {T v T' v' T0 v0 u u' B B0 V w w' m3 : XM} {x : Int32}
theorem book_13 (h : RelN nS nF nT nW bB w v) (hx : x = 0 ∨ x = 1) : R2 (f_X11_book_13 w x) (x_bo (f_X12_begin v 400) (fun y14 => x_lt (x_si y14 0 40 0) (fun m15 => x_lp (φ := XM → Int32 → Option (Int32 × XM)) (fun _ _ => none) (f_X12_book_30) x_NN m15 x))) Both := by
  have hb := h.1.1.1
  obtain ⟨n, T, vb, p, s, t, n1, n2, n3, e1, e2, hs, fT, fV⟩ := begun h (lim := 400) (by omega)
  have hs' : St n 400 0 p s t (opT 400 w) (opV 400 n v) T (x_si vb 0 40 0) := ⟨hs.1.cong (si_r (by omega)) (fun j hj => si_n (by omega)) rfl, hs.2.1.trans (si_n (by omega)).symm, hs.2.2.1, hs.2.2.2.si (by omega)⟩
  have hwn : WN nS nT nW (x_sub w 6) (opV 400 n v) := by
    have := h.wn
    unfold WN at this ⊢
    rw [opV_r (by omega)]; exact this
  have hk0 : BKr nT nW 0 (x_si (x_sub w 282) 0 4 0) (x_si vb 0 40 0) := ⟨si_0, fun j hj => absurd hj (Nat.not_lt_zero _)⟩
  obtain ⟨r, B', T', eC, hB', P⟩ := rd_loop (l1 := x) (B0 := x_sub w 282) hs' hwn hk0 si_0 (fun j hj => si_n hj)
  have er : f_X0_readBook (x_sub w 282) (x_sub w 1) (x_sub w 6) = some (r, B', T') := by
    unfold f_X0_readBook
    rw [lt_eq, show f_X8_open (x_sub w 1) 400 = some T from e1, bo_some]
    exact eC
  unfold f_X11_book_13
  rw [er, bo_some, show f_X12_begin v 400 = some vb from e2, bo_some, lt_eq, lt_eq]
  dsimp only
  obtain ⟨m_T, m_B, m_o, l_T, l_o⟩ := read_mem (w := w) (T := T') (D := B') (o := 282) (m := 9) (by omega)
  generalize x_put (x_put w 282 9 B') 1 4 T' = m2 at m_T m_B m_o l_T l_o ⊢
  -- the relation behind the reading
  have rel : ∀ v' : XM, FL (opT 400 w) T' → GL (opV 400 n v) v' → T'.1 0 10 = v'.1 0 10 → RelN nS nF nT nW bB (x_si m2 1 2 0) v' := by
    intro v' z2 z3 z4
    refine h.txt3 (fun i hi => ?_) (fun i i1 i3 i282 hi => ?_) ⟨z3.2.2 7 (by omega) (by omega), z3.2.2 9 (by omega) (by omega)⟩ (fun i hi => ?_) (fun j hj j2 j10 j41 => ?_) ?_ ?_
    · show m2.2 i = w.2 i
      by_cases c : i = 4
      · subst c; rw [l_T, z2.2.2 3 (by omega)]; rfl
      · exact l_o i (by omega) (by omega)
    · rw [si_r i1]
      by_cases c : 1 ≤ i ∧ i < 5
      · rw [m_T i c.1 c.2, z2.1 _ (by omega), opT_r (by omega), show i - 1 + 1 = i by omega]
      · exact m_o i c (by unfold scrW at hi; omega)
    · rw [z3.1 i (by omega) (by omega) (by omega) (by omega), opV_r (by omega)]
    · have : ¬ (5 ≤ j ∧ j ≤ 13) ∧ j ≠ 23 ∧ ¬ (j = 40 ∨ 42 ≤ j) ∧ j ≠ 0 ∧ j ≠ 3 ∧ j ≠ 4 ∧ j ≠ 5 := by unfold vF at hj; omega
      rw [z3.2.1 j this.1 this.2.1 this.2.2.1, opV_o this.2.2.2.1 j2 this.2.2.2.2.1 this.2.2.2.2.2.1 this.2.2.2.2.2.2 j10]
    · exact read_tape (M := x_si m2 1 2 0) h m_T z2 (fun i => by rw [z3.1 1 (by omega) (by omega) (by omega) (by omega), opV_r (by omega)]) (by rw [z3.2.1 2 (by omega) (by omega) (by omega)]; exact opV_2) z4 si_0 (si_n (by omega)) (si_r (by omega))
    · have ho : ∀ j, j ≠ 4 → (x_si m2 1 2 0).1 282 j = w.1 282 j := fun j hj => by
        rw [si_r (by omega), m_B 282 (by omega) (by omega)]
        exact (hB' j hj).trans rfl
      have := h.told
      unfold RTold at this ⊢
      rw [ho 5 (by omega), ho 6 (by omega), ho 7 (by omega), ho 8 (by omega), ho 9 (by omega), z3.2.1 41 (by omega) (by omega) (by omega), opV_o (by omega) (by omega) (by omega) (by omega) (by omega) (by omega), z3.1 18 (by omega) (by omega) (by omega) (by omega), opV_r (by omega)]
      exact this
  rcases P with ⟨rfl, v', eR, ⟨z2, z3, z4, z5, -⟩⟩ | ⟨rfl, v', k, k40, hk, e40, z2, z3, z4, eR⟩
  · rw [if_pos rfl, show x_lt (x_si vb 0 40 0) (fun m15 => x_lp (φ := XM → Int32 → Option (Int32 × XM)) (fun _ _ => none) (f_X12_book_30) x_NN m15 x) = _ from eR, show (x_si m2 1 2 0).1 1 11 = v'.1 0 11 from by rw [si_n (by omega), m_T 1 (by omega) (by omega)]; exact z5]
    exact R2_some ⟨rfl, (rel v' z2 z3 z4).rel⟩
  · rw [if_neg one0, show x_lt (x_si vb 0 40 0) (fun m15 => x_lp (φ := XM → Int32 → Option (Int32 × XM)) (fun _ _ => none) (f_X12_book_30) x_NN m15 x) = _ from eR]
    refine lived (rel v' z2 z3 z4) ⟨?_, fun j hj => ?_⟩ k40 e40 hx
    · show (x_si m2 1 2 0).1 282 4 = nI k
      rw [si_r (by omega), m_B 282 (by omega) (by omega)]; exact hk.1
    · have e : ∀ i, i < 9 → (x_sub (x_si m2 1 2 0) 282).1 i = B'.1 i := fun i hi => by
        show (x_si m2 1 2 0).1 (i + 282) = _
        rw [si_r (by omega), m_B _ (by omega) (by omega), Nat.add_sub_cancel]
      have hbl := hk.2 j hj
      unfold BL at hbl ⊢
      rw [e 2 (by omega), e 4 (by omega), e 6 (by omega), e 8 (by omega)]
      exact hbl
theorem b_book (h : RelN nS nF nT nW bB w v) (x : Int32) : R2 (f_X11_book w x) (f_X12_book v x) Both := by
  have h1 := h.th (x := 0)
  unfold f_X11_book f_X12_book
  rw [lt_eq, lt_eq]
  generalize x_si v 0 0 0 = v1 at h1 ⊢
  rcases rng (a := 0) (b := 1) (by omega) (by omega) x with ⟨q, q1, q2, rfl, q4, q5, q6⟩ | ⟨q1, q2⟩
  · rw [show f_X12_isIn (nI q) 0 1 = 1 from q6, if_neg one0]
    by_cases c : q = 0
    · subst c
      rw [if_pos (show nI 0 = 0 from rfl)]
      exact book_13 h1 (Or.inl rfl)
    · obtain rfl : q = 1 := by omega
      rw [if_neg (show ¬ nI 1 = 0 by decide), if_pos (show nI 1 = 1 from rfl)]
      exact book_13 h1 (Or.inr rfl)
  · rw [show f_X12_isIn x 0 1 = 0 from q2, if_pos rfl]
    have n0 : ¬ x = 0 := fun z => by
      subst z
      rcases q1 with q1 | ⟨-, q1⟩
      · exact absurd q1 (by decide)
      · exact q1 (by decide)
    have n1 : ¬ x = 1 := fun z => by
      subst z
      rcases q1 with q1 | ⟨-, q1⟩
      · exact absurd q1 (by decide)
      · exact q1 (by decide)
    rw [if_neg n0, if_neg n1]
    exact R2_some ⟨rfl, h1.rel⟩
end CTT
