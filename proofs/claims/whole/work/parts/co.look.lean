-- a BOOK read.
theorem sub_o2 {v : XM} {o i : Nat} {g : Nat → Int32} : (x_sub (x_row v i g) o).2 = (x_sub v o).2 := rfl
/-- the reference looks names up in longs alone -/
theorem find_c {R R' : XM} {a b : Int32} {x : Int64} (h : R'.2 0 = R.2 0) : f_X12_findIn R' a b x = f_X12_findIn R a b x := by
  have e : f_X12_findIn_3 R' = f_X12_findIn_3 R := by
    funext K l1 l2 l3 l5
    unfold f_X12_findIn_3 x_gl
    rw [h]
  unfold f_X12_findIn
  rw [e]
section COO
variable {n lim b p s a k e who nS nF nT nW bB : Nat} {t : Tok} {T v T' v' T'' v'' T0 v0 V B D' w y3 : XM} {l : List Nat}
theorem rk_as {R : Option (Int32 × XM)} {j : Nat} : x_bo (x_bo R (fun y4 => x_bo (f_X12_keep y4.2 (nI j) y4.1) (fun y5 => some (y5.1, y5.2)))) (fun y5 => if y5.1 = (0 : Int32) then some ((0 : Int32), y5.2) else Eb y5.2) = RK R j := by
  unfold RK
  cases R with
  | none => rfl
  | some r =>
    show x_bo (x_bo (f_X12_keep r.2 (nI j) r.1) (fun y5 => some (y5.1, y5.2))) _ = x_bo (f_X12_keep r.2 (nI j) r.1) _
    cases f_X12_keep r.2 (nI j) r.1 <;> rfl
theorem bl_does {p1 s1 : Nat} {t1 : Tok} {T1 v3 : XM} (hs : St n lim p p1 s1 t1 T0 v0 T1 v3) (d : WN nS nT nW V v3) (hk : BKr nT nW k B v) (k40 : k < 40) (e40 : v3.1 0 40 = nI k) (h17 : ∀ i, i < 3 * k → v3.1 17 i = v.1 17 i) (hw : v3.1 17 (3 * k + 1) = nI who) (hw2 : who < nW) (h2 : v3.1 17 (3 * k + 2) = 0) : LB n lim p T0 v0 nT nW k B (if T1.1 0 8 < 9 then f_X0_readLine_97 V B T1 else if T1.1 0 8 ≤ 12 then f_X0_readLine_103 V B T1 (nI who) (T1.1 0 8) else f_X0_readLine_97 V B T1) (x_bo (f_X12_readDoes v3 (nI (3 * k))) (fun y5 => if y5.1 = (0 : Int32) then some ((0 : Int32), y5.2) else Eb y5.2)) := by
  have hc := hs.1.2.2.1
  have hb := d.1
  rw [r_does hc]
  by_cases c : t1.1 = 2 ∧ 9 ≤ wi t1.2.2 ∧ wi t1.2.2 ≤ 12
  · rw [if_pos c]
    obtain ⟨e, ee⟩ : ∃ e, wi t1.2.2 = 9 + e := ⟨wi t1.2.2 - 9, by omega⟩
    have e8 : T1.1 0 8 = nI (9 + e) := (tk_8 hc (by omega)).mpr ⟨c.1, ee⟩
    rw [e8, ee, if_neg (show ¬ nI (9 + e) < 9 from nI_ge' (b := 9) (by omega) (by omega)), if_pos (show nI (9 + e) ≤ 12 from nI_le (b := 12) (by omega) (by omega))]
    obtain ⟨T2, v4, a1, a2, p2, s2, t2, hs2, fT, fV⟩ := (hs.s17 (j := 3 * k) (x := nI e)).next
    have g4 : GL v3 v4 := (GL.tr (GL.s17 (v := v3) (v' := v3) ⟨fun _ _ _ _ _ => rfl, fun _ _ _ _ => rfl, fun _ _ _ => rfl⟩ (Or.inl rfl)) fV.gl)
    have d4 : WN nS nT nW V v4 := d.gl g4
    have e17 : v4.1 17 = up (v3.1 17) (3 * k) (nI e) := (fV.1 17 (by omega)).trans si_s
    have e40' : v4.1 0 40 = nI k := by rw [fV.2.1 40 (by omega), congrFun (si_r (show 0 ≠ 17 by omega)) 40]; exact e40
    have h17' : ∀ i, i < 3 * k → v4.1 17 i = v.1 17 i := fun i hi => by rw [e17, up_ne (by omega)]; exact h17 i hi
    have h0' : v4.1 17 (3 * k) = nI e := by rw [e17, up_eq]
    have hw' : v4.1 17 (3 * k + 1) = nI who := by rw [e17, up_ne (by omega)]; exact hw
    have h2' : v4.1 17 (3 * k + 2) = 0 := by rw [e17, up_ne (by omega)]; exact h2
    have hp : p ≤ p1 := hs.1.2.1.2.2.2
    have a3 : nI (3 * k) + 2 = nI (3 * k + 2) := by rw [kl_2, nI_add]
    have tl : ∀ (C R : Option (Int32 × XM)) (rg : Nat → Prop), RD n lim p2 T0 v0 v4 C R rg → f_X0_takeWhat T2 V (nI (9 + e)) = C → (∀ x, rg x → (e = 1 → x < nT) ∧ (e = 2 → x < nW) ∧ (e = 3 → x = 0)) → LB n lim p T0 v0 nT nW k B (f_X0_readLine_103 V B T1 (nI who) (nI (9 + e))) (RK R (3 * k + 2)) := fun C R rg q1 q2 q4 => (tail1 (z := 0) (who := who) hs2 a1 hk k40 e40' q1 (by rw [q2, bo_pr]) (by omega) (by omega) (Or.inr ⟨rfl, by omega⟩) h17' h0' (fun _ => ⟨hw', hw2, rfl⟩) (fun z => absurd z (by omega)) (fun x hx => ⟨(q4 x hx).1, (q4 x hx).2.1, (q4 x hx).2.2, fun z => absurd z (by omega), fun z => absurd z (by omega)⟩) hb.2.2).mono hp
    have x3 : x_ga v4 2 (3 : Int32) = nI nW := by rw [kl_3, ga_in (by omega)]; exact d4.2.2.2.2
    have x2 : x_ga v4 2 (2 : Int32) = nI nT := by rw [kl_2, ga_in (by omega)]; exact d4.2.2.2.1
    unfold f_X12_readDoes_23
    rw [if_pos (show nI (9 + e) ≤ 12 from nI_le (b := 12) (by omega) (by omega)), ck_in (by omega) (by omega), kl_9, pk_sub (by omega), show 9 + e - 9 = e by omega, pa_si (by omega), lt_eq, a2, bo_some, ck_in (by omega) (by omega), ga_in (by omega), h0', a3, x2, x3]
    have hee : e = 0 ∨ e = 1 ∨ e = 2 ∨ e = 3 := by omega
    rcases hee with rfl | rfl | rfl | rfl
    · rw [if_pos (show nI 0 = 0 from rfl), rk_as, fold_no]
      exact tl _ _ _ (hs2.rNum (x := 0) (y := 11) (by omega) (by omega)) (tw.1 rfl) (fun x _ => ⟨fun z => absurd z (by omega), fun z => absurd z (by omega), fun z => absurd z (by omega)⟩)
    · rw [if_neg (show ¬ nI 1 = 0 by decide), if_pos (show nI 1 = 1 from rfl), rk_as]
      exact tl _ _ _ (hs2.rNamed d4 (o := 8) (m := nT) (M := 6) (by omega)) (tw.2.1 rfl) (fun x hx => ⟨fun _ => hx, fun z => absurd z (by omega), fun z => absurd z (by omega)⟩)
    · rw [if_neg (show ¬ nI 2 = 0 by decide), if_neg (show ¬ nI 2 = 1 by decide), if_pos (show nI 2 = 2 from rfl), rk_as]
      exact tl _ _ _ (hs2.rNamed d4 (o := 14) (m := nW) (M := 5) (by omega)) (tw.2.2.1 rfl) (fun x hx => ⟨fun z => absurd z (by omega), fun _ => hx, fun z => absurd z (by omega)⟩)
    · rw [if_neg (show ¬ nI 3 = 0 by decide), if_neg (show ¬ nI 3 = 1 by decide), if_neg (show ¬ nI 3 = 2 by decide), bo_some, if_neg one0]
      have tw3 : f_X0_takeWhat T2 V (nI (9 + 3)) = some (nI 0, T2) := tw.2.2.2.1 rfl
      obtain ⟨-, -, -, -, -, u6⟩ := bk4_at (B := B) (k := k) (d := nI (9 + 3)) (w := nI who) (x := nI 0) (l := 0)
      have pp := hs2.1.2.1.2.2.2
      refine Or.inr ⟨bk4 B k (nI (9 + 3)) (nI who) (nI 0) 0, T2, v4, p1, p2, s2, t2, ?_, rfl, hp, k40, ?_, u6, e40', hs2⟩
      · rw [c103_ok (by omega) a1 tw3 (show ¬ nI (9 + 3) = 14 by decide), c_140 hk.1 k40 (nI_nm1 (by omega)) (show ¬ (0 : Int32) = -1 by decide)]
      · exact hk.more (x := who) (y := 0) (by omega) h17' h0' hw' h2' ⟨by omega, by omega⟩ (fun _ => ⟨hw2, rfl, rfl, rfl, fun z => absurd z (by omega), fun z => absurd z (by omega), fun _ => rfl⟩) (fun z => absurd z (by omega))
  · rw [if_neg c]
    obtain ⟨T', v', b1, b2, b3⟩ := hs.bad 1 (Or.inr rfl)
    have hle := wi_le t1.2.2
    have r97 : f_X0_readLine_97 V B T1 = some (0, B, T') := by
      unfold f_X0_readLine_97
      rw [show f_X8_refuse T1 1 = (0, T') from b1]; rfl
    refine Or.inl ⟨T', v', ?_, ?_, b3⟩
    · rw [r97]
      by_cases c1 : T1.1 0 8 < 9
      · rw [if_pos c1]
      · rw [if_neg c1]
        by_cases c2 : T1.1 0 8 ≤ 12
        · exfalso
          rw [hc.2.2.2.2] at c1 c2
          by_cases c3 : t1.1 = 2 ∧ wi t1.2.2 < 29
          · rw [if_pos c3] at c1 c2
            refine c ⟨c3.1, ?_, ?_⟩
            · exact Nat.le_of_not_lt (fun z => c1 (nI_lt (b := 9) z (by omega)))
            · rw [kl_12, nI_leI (by omega) (by omega)] at c2; exact c2
          · rw [if_neg c3] at c1; exact c1 (by decide)
        · rw [if_neg c2]
    · unfold f_X12_readDoes_23
      rw [if_neg (show ¬ (13 : Int32) ≤ 12 by decide), show f_X12_bad v3 1 = (0, v') from b2]; rfl
theorem St.bLine (h : St n lim b p s t T0 v0 T v) (d : WN nS nT nW V v) (hk : BKr nT nW k B v) (k40 : k ≤ 40) (e40 : v.1 0 40 = nI k) : LB n lim b T0 v0 nT nW k B (f_X0_readLine B T V) (f_X12_readBookLine v) := by
  have hc := h.1.2.2.1
  have hb := d.1
  have hle := wi_le t.2.2
  have hp : b ≤ p := h.1.2.1.2.2.2
  have W : ∀ k, k < 29 → f_X12_isWord v (nI k) = bI (decide (t.1 = 2) && decide (wi t.2.2 = pm k)) := fun k hk => r_isWord hc hk
  have w13 : f_X12_isWord v 13 = bI (decide (t.1 = 2) && decide (wi t.2.2 = 13)) := W 13 (by omega)
  have w14 : f_X12_isWord v 14 = bI (decide (t.1 = 2) && decide (wi t.2.2 = 14)) := W 14 (by omega)
  have w15 : f_X12_isWord v 15 = bI (decide (t.1 = 2) && decide (wi t.2.2 = 15)) := W 15 (by omega)
  have w16 : f_X12_isWord v 16 = bI (decide (t.1 = 2) && decide (wi t.2.2 = 16)) := W 16 (by omega)
  have yes : ∀ k, t.1 = 2 → wi t.2.2 = k → ¬ bI (decide (t.1 = 2) && decide (wi t.2.2 = k)) = 0 := fun k e1 e2 => by
    rw [decide_eq_true e1, decide_eq_true e2]; decide
  have no : ∀ k, ¬ (t.1 = 2 ∧ wi t.2.2 = k) → bI (decide (t.1 = 2) && decide (wi t.2.2 = k)) = 0 := fun k e => by
    by_cases c1 : t.1 = 2
    · rw [decide_eq_true c1, decide_eq_false (fun q => e ⟨c1, q⟩)]; rfl
    · rw [decide_eq_false c1]; rfl
  have full : ∀ (T' : XM) (E : Int32), k = 40 → FL T0 T' → t.1 ≠ 1 → ∃ T'' v', (x_lt (f_X8_refuseAt T' (4 : Int32) (T.1 0 5)) (fun y14 => some (y14.1, B, y14.2))) = some (0, B, T'') ∧ f_X12_readBookLine_102 v E = some (0, v') ∧ Bd T0 v0 T'' v' := fun T' E q1 q2 q3 => by
    obtain ⟨T'', v', b1, b2, b3⟩ := h.badAt (T' := T') 4 (Or.inl q3) q2
    refine ⟨T'', v', ?_, ?_, b3⟩
    · rw [show f_X8_refuseAt T' 4 (T.1 0 5) = (0, T'') from b1]; rfl
    · unfold f_X12_readBookLine_102
      rw [e40, q1, if_pos (show nI 40 = 40 from rfl), show f_X12_bad v 4 = (0, v') from b2]; rfl
  have r102 : ∀ E : Int32, ¬ E = 0 → k < 40 → f_X12_readBookLine_102 v E = f_X12_readBookLine_165 (x_si v 17 (3 * k) E) E (nI (3 * k)) (nI (3 * k) + 1) 0 := fun E hE q => by
    unfold f_X12_readBookLine_102
    rw [e40, if_neg (show ¬ nI k = 40 from fun z => by have := nI_iff (b := 40) (by omega) (by omega) z; omega), kl_3, pk_mul, lt_eq, ck_in (by omega) (by omega), pa_si (by omega), lt_eq, if_neg hE]
  by_cases c : t.1 = 2 ∧ 13 ≤ wi t.2.2 ∧ wi t.2.2 ≤ 16
  · obtain ⟨e, ee⟩ : ∃ e, wi t.2.2 = 9 + e := ⟨wi t.2.2 - 9, by omega⟩
    have e8 : T.1 0 8 = nI (9 + e) := (tk_8 hc (by omega)).mpr ⟨c.1, ee⟩
    have hr : f_X12_readBookLine v = f_X12_readBookLine_102 v (nI e) := by
      have r55 : ∀ E : Int32, ¬ E = 0 → f_X12_readBookLine_55 v E = f_X12_readBookLine_102 v E := fun E hE => by unfold f_X12_readBookLine_55; rw [if_neg hE]
      unfold f_X12_readBookLine
      rw [w13, w14, w15, w16]
      simp only [lt_eq]
      have hee : e = 4 ∨ e = 5 ∨ e = 6 ∨ e = 7 := by omega
      rcases hee with rfl | rfl | rfl | rfl
      · rw [if_neg (yes 13 c.1 ee)]; exact r55 4 (by decide)
      · rw [if_pos (no 13 (by omega)), if_neg (yes 14 c.1 ee)]; exact r55 5 (by decide)
      · rw [if_pos (no 13 (by omega)), if_pos (no 14 (by omega)), if_neg (yes 15 c.1 ee)]; exact r55 6 (by decide)
      · rw [if_pos (no 13 (by omega)), if_pos (no 14 (by omega)), if_pos (no 15 (by omega)), if_neg (yes 16 c.1 ee)]; exact r55 7 (by decide)
    rw [hr]
    unfold f_X0_readLine f_X0_readLine_28 f_X0_readLine_56
    rw [e8, if_neg (show ¬ nI (9 + e) < 13 from nI_ge' (b := 13) (by omega) (by omega)), if_pos (show nI (9 + e) ≤ 16 from nI_le (b := 16) (by omega) (by omega)), if_pos rfl, hk.1]
    by_cases q : k = 40
    · obtain ⟨T'', v', f1, f2, f3⟩ := full T (nI e) q h.2.2.1 (by omega)
      rw [if_neg (show ¬ nI k < 40 from nI_ge' (b := 40) (by omega) (by omega))]
      exact Or.inl ⟨T'', v', f1, f2, f3⟩
    · rw [if_pos (show nI k < 40 from nI_lt (b := 40) (by omega) (by omega)), if_pos rfl, r102 _ (nI_ne0 (by omega) (by omega)) (by omega)]
      exact (bl_word h hk (by omega) e40 (by omega) (by omega) (by omega) rfl).mono hp
  · have hr : f_X12_readBookLine v = f_X12_readBookLine_55 v 0 := by
      unfold f_X12_readBookLine
      rw [w13, w14, w15, w16]
      simp only [lt_eq]
      rw [if_pos (no 13 (by omega)), if_pos (no 14 (by omega)), if_pos (no 15 (by omega)), if_pos (no 16 (by omega))]
    have hl : f_X0_readLine B T V = f_X0_readLine_28 V B T (T.1 0 5) 1 := by
      unfold f_X0_readLine f_X0_readLine_23
      by_cases c1 : T.1 0 8 < 13
      · rw [if_pos c1]
      · rw [if_neg c1]
        by_cases c2 : T.1 0 8 ≤ 16
        · exfalso
          rw [hc.2.2.2.2] at c1 c2
          by_cases c3 : t.1 = 2 ∧ wi t.2.2 < 29
          · rw [if_pos c3] at c1 c2
            refine c ⟨c3.1, ?_, ?_⟩
            · exact Nat.le_of_not_lt (fun z => c1 (nI_lt (b := 13) z (by omega)))
            · rw [kl_16, nI_leI (by omega) (by omega)] at c2; exact c2
          · rw [if_neg c3] at c1; exact c1 (by decide)
        · rw [if_neg c2]
    rw [hr, hl]
    have x23 : x_ga v 2 (3 : Int32) = nI nW := by rw [kl_3, ga_in (by omega)]; exact d.2.2.2.2
    obtain ⟨c1, -⟩ := c_named h (V := V) (o := 14) (M := 5) (by omega)
    unfold f_X0_readLine_28 f_X12_readBookLine_55
    rw [if_neg one0, if_pos rfl, r_isName hc, bo_some, x23]
    cases hn : nmB t with
    | false =>
      obtain ⟨T', v', b1, b2, b3⟩ := h.bad 1 (Or.inr rfl)
      rw [if_pos bIf, show f_X8_takeNamed T V 14 5 = _ from c1 hn, b1, bo_some, if_pos rfl, show f_X12_bad v 1 = (0, v') from b2]
      exact Or.inl ⟨T', v', rfl, rfl, b3⟩
    | true =>
      have e2 := nm_2 hn
      rw [if_neg (show ¬ bI true = 0 by decide)]
      rcases h.look d (o := 14) (m := nW) (M := 5) (by omega) hn with ⟨who, hw, q1, q2⟩ | ⟨q1, q2⟩
      · rw [show f_X12_findIn (x_sub v 7) 14 (nI nW) (v.2 0 12) = some (nI who) from q1, bo_some, if_neg (nI_nm1 (by omega)), show f_X8_takeNamed T V 14 5 = _ from q2]
        by_cases q : k = 40
        · obtain ⟨T1, v1, a1, a2, p1, s1, t1, hs1, -, -⟩ := h.next
          obtain ⟨T'', v', f1, f2, f3⟩ := full T1 0 q hs1.2.2.1 (by omega)
          rw [a1, bo_some, bo_some, if_neg (nI_nm1 (by omega))]
          unfold f_X0_readLine_56
          rw [hk.1, if_neg (show ¬ nI k < 40 from nI_ge' (b := 40) (by omega) (by omega))]
          exact Or.inl ⟨T'', v', f1, f2, f3⟩
        · obtain ⟨T1, v3, a1, a2, p1, s1, t1, hs, fT, fV⟩ := ((h.s17 (j := 3 * k) (x := 0)).s17 (j := 3 * k + 1) (x := nI who)).s17 (j := 3 * k + 2) (x := 0) |>.next
          have e17 : v3.1 17 = up (up (up (v.1 17) (3 * k) 0) (3 * k + 1) (nI who)) (3 * k + 2) 0 := (fV.1 17 (by omega)).trans (by rw [si_s, si_s, si_s])
          have rr : GL v v := ⟨fun _ _ _ _ _ => rfl, fun _ _ _ _ => rfl, fun _ _ _ => rfl⟩
          have g3 : GL v v3 := (((rr.s17 (j := 3 * k) (x := 0) (Or.inl rfl)).s17 (j := 3 * k + 1) (x := nI who) (Or.inl rfl)).s17 (j := 3 * k + 2) (x := 0) (Or.inl rfl)).tr fV.gl
          have hr2 : f_X12_readBookLine_102 v 0 = x_bo (f_X12_readDoes v3 (nI (3 * k))) (fun y5 => if y5.1 = (0 : Int32) then some ((0 : Int32), y5.2) else Eb y5.2) := by
            unfold f_X12_readBookLine_102
            rw [e40, if_neg (show ¬ nI k = 40 from fun z => by have := nI_iff (b := 40) (by omega) (by omega) z; omega), kl_3, pk_mul, lt_eq, ck_in (by omega) (by omega), pa_si (by omega), lt_eq, if_pos rfl, ← kl_3, show x_ga (x_si v 17 (3 * k) 0) 2 (3 : Int32) = nI nW from by rw [kl_3, ga_in (by omega), si_r (by omega)]; exact d.2.2.2.2, show f_X12_findIn (x_sub (x_si v 17 (3 * k) 0) 7) 14 (nI nW) ((x_si v 17 (3 * k) 0).2 0 12) = some (nI who) from (find_c (R := x_sub v 7) rfl).trans q1, bo_some, r165_0 (by omega) a2]
          rw [a1, bo_some, bo_some, if_neg (nI_nm1 (by omega)), hr2]
          unfold f_X0_readLine_56
          rw [hk.1, if_pos (show nI k < 40 from nI_lt (b := 40) (by omega) (by omega)), if_neg one0]
          refine (bl_does hs (d.gl g3) hk (by omega) ?_ (fun i hi => ?_) ?_ hw ?_).mono hp
          · rw [fV.2.1 40 (by omega), congrFun (si_r (show 0 ≠ 17 by omega)) 40, congrFun (si_r (show 0 ≠ 17 by omega)) 40, congrFun (si_r (show 0 ≠ 17 by omega)) 40]; exact e40
          · rw [e17, up_ne (by omega), up_ne (by omega), up_ne (by omega)]
          · rw [e17, up_ne (by omega), up_eq]
          · rw [e17, up_eq]
      · obtain ⟨T', v', b1, b2, b3⟩ := h.bad 3 (Or.inl (by omega))
        rw [show f_X12_findIn (x_sub v 7) 14 (nI nW) (v.2 0 12) = some (-1) from q1, bo_some, if_pos rfl, show f_X8_takeNamed T V 14 5 = _ from q2, b1, bo_some, if_pos rfl, show f_X12_bad v 3 = (0, v') from b2]
        exact Or.inl ⟨T', v', rfl, rfl, b3⟩
end COO
