-- a LINE of a BOOK, whole.
section CNN
variable {n lim b p s a k e nS nF nT nW bB : Nat} {t : Tok} {T v T' v' T'' v'' T0 v0 V B D' w y3 : XM} {l : List Nat}
theorem bo_pr {f : Option (Int32 × XM)} : x_bo f (fun y => some (y.1, y.2)) = f := by cases f <;> rfl
/-- what a walker does, read -/
theorem r_does (hc : TkC t T v) {j : Nat} : f_X12_readDoes v (nI j) = if t.1 = 2 ∧ 9 ≤ wi t.2.2 ∧ wi t.2.2 ≤ 12 then f_X12_readDoes_23 v (nI j) (nI (wi t.2.2)) else f_X12_readDoes_23 v (nI j) 13 := by
  have st : ∀ (fu : Nat) i, i ≤ 3 → 4 - i < fu → x_lp (φ := XM → Int32 → Int32 → Option (Int32 × XM)) (fun _ _ _ => none) (f_X12_readDoes_3) fu v (nI j) (nI (9 + i)) = (if t.1 = 2 ∧ wi t.2.2 = 9 + i then f_X12_readDoes_23 v (nI j) (nI (9 + i)) else x_lp (φ := XM → Int32 → Int32 → Option (Int32 × XM)) (fun _ _ _ => none) (f_X12_readDoes_3) (fu - 1) v (nI j) (nI (9 + i + 1))) := fun fu i hi hf => by
    obtain ⟨fu, rfl⟩ : ∃ q, fu = q + 1 := ⟨fu - 1, by omega⟩
    show f_X12_readDoes_3 (x_lp (φ := XM → Int32 → Int32 → Option (Int32 × XM)) (fun _ _ _ => none) (f_X12_readDoes_3) fu) v (nI j) (nI (9 + i)) = _
    have hpm : pm (9 + i) = 9 + i := by
      have : ∀ i, i ≤ 3 → pm (9 + i) = 9 + i := by decide
      exact this i hi
    unfold f_X12_readDoes_3
    rw [if_neg (show ¬ (12 : Int32) < nI (9 + i) from nI_ge' (a := 12) (by omega) (by omega)), r_isWord hc (by omega), hpm, lt_eq, nI_1]
    by_cases c : t.1 = 2 ∧ wi t.2.2 = 9 + i
    · rw [if_pos c, decide_eq_true c.1, decide_eq_true c.2, if_neg (show ¬ bI (true && true) = 0 by decide)]
    · rw [if_neg c, if_pos (show bI (decide (t.1 = 2) && decide (wi t.2.2 = 9 + i)) = 0 from by
        by_cases c1 : t.1 = 2
        · rw [decide_eq_true c1, decide_eq_false (fun q => c ⟨c1, q⟩)]; rfl
        · rw [decide_eq_false c1]; rfl)]; rfl
  have s0 := st x_NN 0 (by omega) (by show 4 < 1000000; omega)
  have s1 := st (x_NN - 1) 1 (by omega) (by show 3 < 1000000 - 1; omega)
  have s2 := st (x_NN - 1 - 1) 2 (by omega) (by show 2 < 1000000 - 1 - 1; omega)
  have s3 := st (x_NN - 1 - 1 - 1) 3 (by omega) (by show 1 < 1000000 - 1 - 1 - 1; omega)
  have s4 : x_lp (φ := XM → Int32 → Int32 → Option (Int32 × XM)) (fun _ _ _ => none) (f_X12_readDoes_3) (x_NN - 1 - 1 - 1 - 1) v (nI j) (nI (9 + 3 + 1)) = f_X12_readDoes_23 v (nI j) 13 := by
    show f_X12_readDoes_3 _ v (nI j) (nI 13) = _
    unfold f_X12_readDoes_3
    rw [if_pos (show (12 : Int32) < nI 13 by decide)]; rfl
  show x_lp (φ := XM → Int32 → Int32 → Option (Int32 × XM)) (fun _ _ _ => none) (f_X12_readDoes_3) x_NN v (nI j) (nI (9 + 0)) = _
  rw [s0]
  by_cases c0 : t.1 = 2 ∧ wi t.2.2 = 9 + 0
  · rw [if_pos c0, if_pos ⟨c0.1, by omega, by omega⟩, c0.2]
  · rw [if_neg c0]
    refine s1.trans ?_
    by_cases c1 : t.1 = 2 ∧ wi t.2.2 = 9 + 1
    · rw [if_pos c1, if_pos ⟨c1.1, by omega, by omega⟩, c1.2]
    · rw [if_neg c1]
      refine s2.trans ?_
      by_cases c2 : t.1 = 2 ∧ wi t.2.2 = 9 + 2
      · rw [if_pos c2, if_pos ⟨c2.1, by omega, by omega⟩, c2.2]
      · rw [if_neg c2]
        refine s3.trans ?_
        by_cases c3 : t.1 = 2 ∧ wi t.2.2 = 9 + 3
        · rw [if_pos c3, if_pos ⟨c3.1, by omega, by omega⟩, c3.2]
        · rw [if_neg c3, s4, if_neg (fun q => by
            have q1 := q.1
            have : ¬ wi t.2.2 = 9 + 0 := fun z => c0 ⟨q1, z⟩
            have : ¬ wi t.2.2 = 9 + 1 := fun z => c1 ⟨q1, z⟩
            have : ¬ wi t.2.2 = 9 + 2 := fun z => c2 ⟨q1, z⟩
            have : ¬ wi t.2.2 = 9 + 3 := fun z => c3 ⟨q1, z⟩
            omega)]
theorem tw {d : Int32} {V T : XM} : (d = 9 → f_X0_takeWhat T V d = f_X8_takeNumber T 0 11) ∧ (d = 10 → f_X0_takeWhat T V d = f_X8_takeNamed T V 8 6) ∧ (d = 11 → f_X0_takeWhat T V d = f_X8_takeNamed T V 14 5) ∧ (d = 12 → f_X0_takeWhat T V d = some (0, T)) ∧ (d = 13 → f_X0_takeWhat T V d = f_X8_takeNumber T 0 11) ∧ (d = 14 → f_X0_takeWhat T V d = f_X8_takeNumber T 0 11) ∧ (d = 15 → f_X0_takeWhat T V d = f_X8_takeKind T) ∧ (d = 16 → f_X0_takeWhat T V d = f_X8_takeNumber T 1 60) := by
  refine ⟨?_, ?_, ?_, ?_, ?_, ?_, ?_, ?_⟩ <;> (rintro rfl; unfold f_X0_takeWhat)
  · rw [if_pos rfl, bo_pr]
  · rw [if_neg (by decide), if_pos rfl, bo_pr]
  · rw [if_neg (by decide), if_neg (by decide), if_pos rfl, bo_pr]
  · rw [if_neg (by decide), if_neg (by decide), if_neg (by decide), if_pos rfl]
  · rw [if_neg (by decide), if_neg (by decide), if_neg (by decide), if_neg (by decide), if_pos rfl, bo_pr]
  · rw [if_neg (by decide), if_neg (by decide), if_neg (by decide), if_neg (by decide), if_neg (by decide), if_pos rfl, bo_pr]
  · rw [if_neg (by decide), if_neg (by decide), if_neg (by decide), if_neg (by decide), if_neg (by decide), if_neg (by decide), if_pos rfl, bo_pr]
  · rw [if_neg (by decide), if_neg (by decide), if_neg (by decide), if_neg (by decide), if_neg (by decide), if_neg (by decide), if_neg (by decide), if_pos rfl, bo_pr]
/-- CREAM, SLIP, MOOD, HOUR -/
theorem bl_word (h : St n lim b p s t T0 v0 T v) (hk : BKr nT nW k B v) (k40 : k < 40) (e40 : v.1 0 40 = nI k) (hnW : nW ≤ 5) (he : 4 ≤ e) (he8 : e < 8) {E : Int32} (hE : E = nI e) : LB n lim p T0 v0 nT nW k B (f_X0_readLine_103 V B T 0 (nI (9 + e))) (f_X12_readBookLine_165 (x_si v 17 (3 * k) E) E (nI (3 * k)) (nI (3 * k) + 1) 0) := by
  obtain ⟨T1, v3, a1, a2, p1, s1, t1, hs, fT, fV⟩ := ((h.s17 (j := 3 * k) (x := E)).s17 (j := 3 * k + 1) (x := 0)).s17 (j := 3 * k + 2) (x := 0) |>.next
  have e17 : v3.1 17 = up (up (up (v.1 17) (3 * k) E) (3 * k + 1) 0) (3 * k + 2) 0 := (fV.1 17 (by omega)).trans (by rw [si_s, si_s, si_s])
  have h17 : ∀ i, i < 3 * k → v3.1 17 i = v.1 17 i := fun i hi => by rw [e17, up_ne (by omega), up_ne (by omega), up_ne (by omega)]
  have h0 : v3.1 17 (3 * k) = nI e := by rw [e17, up_ne (by omega), up_ne (by omega), up_eq, hE]
  have h2 : v3.1 17 (3 * k + 2) = 0 := by rw [e17, up_eq]
  have e40' : v3.1 0 40 = nI k := by
    rw [fV.2.1 40 (by omega), congrFun (si_r (show 0 ≠ 17 by omega)) 40, congrFun (si_r (show 0 ≠ 17 by omega)) 40, congrFun (si_r (show 0 ≠ 17 by omega)) 40]; exact e40
  have hp : p ≤ p1 := hs.1.2.1.2.2.2
  have t1g : ∀ (C R : Option (Int32 × XM)) (rg : Nat → Prop), RD n lim p1 T0 v0 v3 C R rg → f_X0_takeWhat T1 V (nI (9 + e)) = C → e ≠ 5 → (∀ x, rg x → (e = 6 → x < 3) ∧ (e = 7 → 1 ≤ x ∧ x ≤ 60)) → LB n lim p T0 v0 nT nW k B (f_X0_readLine_103 V B T 0 (nI (9 + e))) (RK R (3 * k + 1)) := fun C R rg q1 q2 q3 q4 => tail1 (z := 0) (who := 0) hs a1 hk k40 e40' q1 (by rw [q2, bo_pr]) he8 q3 (Or.inl ⟨rfl, he⟩) h17 h0 (fun z => absurd z (by omega)) (fun _ => ⟨h2, rfl⟩) (fun x hx => ⟨fun z => absurd z (by omega), fun z => absurd z (by omega), fun z => absurd z (by omega), q4 x hx⟩) hnW
  have hee : e = 4 ∨ e = 5 ∨ e = 6 ∨ e = 7 := by omega
  rcases hee with rfl | rfl | rfl | rfl
  · rw [show E = 4 from hE] at a2 ⊢
    rw [r165_4 k40 a2]
    exact t1g _ _ _ (hs.rNum (x := 0) (y := 11) (by omega) (by omega)) (tw.2.2.2.2.1 rfl) (by omega) (fun x _ => ⟨fun z => absurd z (by omega), fun z => absurd z (by omega)⟩) |> (fun q => by rw [fold_no]; exact q)
  · rw [show E = 5 from hE] at a2 ⊢
    rw [r165_5 k40 a2, fold_no]
    have tw5 : f_X0_takeWhat T1 V 14 = f_X8_takeNumber T1 0 11 := tw.2.2.2.2.2.1 rfl
    rcases hs.rNum (x := 0) (y := 11) (by omega) (by omega) with ⟨T', v', q1, q2, q3⟩ | ⟨x, T', v', p', s', t', qx, qx2, q1, q2, q3, q4, q5, q6⟩
    · rw [show f_X12_readNumber v3 0 11 = some (0, v') from q2, bo_some, r_keep0, bo_some, if_pos rfl]
      exact Or.inl ⟨T', v', c103_bad a1 (tw5.trans q1), rfl, q3⟩
    · rw [show f_X12_readNumber v3 0 11 = some (1, v') from q2, bo_some, r_keep1 (by omega), bo_some, if_neg one0, q3]
      have cs : f_X0_readLine_103 V B T 0 (nI (9 + 5)) = x_bo (f_X8_takeNumber T' 1 30) (fun y13 => f_X0_readLine_140 V B y13.2 0 14 (nI x) y13.1) := c103_slip qx2 a1 (tw5.trans q1)
      rw [cs]
      rcases (q6.s17 (j := 3 * k + 1) (x := nI x)).rNum (x := 1) (y := 30) (by omega) (by omega) with ⟨T'', v'', w1, w2, w3⟩ | ⟨y, T'', v'', p'', s'', t'', wy, wy2, w1, w2, w3, w4, w5, w6⟩
      · rw [show f_X8_takeNumber T' 1 30 = some (-1, T'') from w1, bo_some]
        refine Or.inl ⟨T'', v'', ?_, rk_bad w2, w3⟩
        unfold f_X0_readLine_140
        rw [if_neg (nI_nm1 (by omega)), if_pos rfl]
      · rw [show f_X8_takeNumber T' 1 30 = some (nI y, T'') from w1, bo_some]
        obtain ⟨-, -, -, -, -, u6⟩ := bk4_at (B := B) (k := k) (d := nI (9 + 5)) (w := 0) (x := nI x) (l := nI y)
        have pp := q6.1.2.1.2.2.2
        refine Or.inr ⟨bk4 B k (nI (9 + 5)) 0 (nI x) (nI y), T'', x_si v'' 17 (3 * k + 2) (nI y), p', p'', s'', t'', c_140 hk.1 k40 (nI_nm1 (by omega)) (nI_nm1 (by omega)), rk_ok (by omega) w2 w3, by omega, k40, ?_, u6, ?_, w6.s17⟩
        · refine hk.more (x := x) (y := y) (by omega) (fun i hi => ?_) ?_ ?_ si_0 ⟨qx2, wy2⟩ (fun z => absurd z (by omega)) (fun _ => ⟨rfl, rfl, rfl, fun z => absurd rfl z, fun _ => wy, fun z => absurd z (by omega), fun z => absurd z (by omega)⟩)
          · rw [si_n (by omega), w4, si_n (by omega), q4, h17 i hi]
          · rw [si_n (by omega), w4, si_n (by omega), q4, h0]
          · rw [si_n (by omega), w4, si_0]
        · rw [congrFun (si_r (show 0 ≠ 17 by omega)) 40, w5, congrFun (si_r (show 0 ≠ 17 by omega)) 40, q5]; exact e40'
  · rw [show E = 6 from hE] at a2 ⊢
    rw [r165_6 k40 a2]
    exact t1g _ _ _ hs.rKind (tw.2.2.2.2.2.2.1 rfl) (by omega) (fun x hx => ⟨fun _ => hx, fun z => absurd z (by omega)⟩)
  · rw [show E = 7 from hE] at a2 ⊢
    rw [r165_7 k40 a2]
    exact t1g _ _ _ (hs.rNum (x := 1) (y := 60) (by omega) (by omega)) (tw.2.2.2.2.2.2.2 rfl) (by omega) (fun x hx => ⟨fun z => absurd z (by omega), fun _ => hx⟩)
end CNN
