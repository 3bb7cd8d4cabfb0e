-- LINES of a VALLEY, read: THING, WALKER; any.
section CH
variable {n lim b p s a k nS nF nT nW bB : Nat} {t : Tok} {T v T' v' T'' v'' T0 v0 D D' : XM} {l : List Nat}
theorem St.lThing (h : St n lim b p s t T0 v0 T v) (ht : t.1 = 2) (d : DR nS nF nT nW bB D v) : R2 (f_X6_readThing D T) (f_X12_readThing v) (LineP n lim b T0 v0) := by
  have hb := d.1.1
  have hD : D.1 1 2 = nI nT := d.1.2.2.1.2.2.1
  have hv : v.1 3 2 = nI nT := d.1.2.1.2.2.1
  obtain ⟨g1, g2⟩ := h.first ht (j := 2) (M := 6) hv (by omega) (by omega) (by omega)
  unfold f_X6_readThing f_X12_readThing
  rw [hD]
  by_cases c : nT = 6
  · obtain ⟨T', v', b1, b2, b3⟩ := g1 c
    rw [if_neg (show ¬ nI nT < 6 from nI_ge' (b := 6) (by omega) (by omega)), b1, show f_X12_readFirst v 2 6 = some (0, v') from b2, bo_some, if_pos rfl, lt_eq]
    exact R2_some (Or.inl ⟨rfl, rfl, b3⟩)
  · obtain ⟨T1, v1, a1, a2, p1, s1, t1, hs1, fT, fV⟩ := h.next
    have e13 : v1.1 3 = v.1 3 := fV.1 3 (by omega)
    have d1 : DR nS nF nT nW bB D v1 := d.fv e13 (fV.2.2 8 (by omega)) (fV.2.1 23 (by omega))
    have hv1 : x_ga v1 3 (2 : Int32) = nI nT := by rw [kl_2, ga_in (by omega), e13]; exact hv
    rw [if_pos (show nI nT < 6 from nI_lt (b := 6) (by omega) (by omega)), show f_X12_readFirst v 2 6 = _ from g2 c, a1, a2, bo_some, bo_some, bo_some, if_neg one0, hv1, kl_8, nI_add, kl_54, nI_add]
    refine R2_bo (hs1.newName d1 (i := 8 + nT) (by omega)) ?_
    rintro ⟨r1, D2, T2⟩ ⟨q1, v2⟩ (⟨z1, z2, z3⟩ | ⟨l, ok, hn, z1, z2, eD1, eD2, e8, e3, e0, -, p2, s2, t2, hs2⟩)
    · dsimp only at z1 z2 z3 ⊢
      rw [z1, z2, if_pos rfl, if_pos rfl]
      exact R2_some (Or.inl ⟨rfl, rfl, z3⟩)
    · dsimp only at z1 z2 eD1 eD2 e8 e3 e0 hs2 ⊢
      have rn := d1.2.1.add (nS' := nS) (nT' := nT + 1) (nW' := nW) (i := 8 + nT) (by omega) (by unfold usd; omega) ok hn (fun j hj => by unfold usd; omega)
      have dn : DN nS (nT + 1) nW D2 v2 := ⟨by rw [e3, e13]; exact d.1.2.1.1, by omega, by rw [eD2, e8]; exact rn⟩
      rw [z1, z2, if_neg one0, if_neg one0, ← kl_8]
      refine R2_bo (hs2.spot dn) ?_
      rintro ⟨r3, T3⟩ ⟨q3, v3⟩ (⟨z1, z2, z3⟩ | ⟨x, hx, z1, z2, z3, -, f1, f2, p3, s3, t3, hs3⟩)
      · dsimp only at z1 z2 z3 ⊢
        unfold f_X12_put
        rw [z1, z2, if_pos rfl, if_pos rfl, bo_some, if_pos rfl]
        exact R2_some (Or.inl ⟨rfl, rfl, z3⟩)
      · dsimp only at z1 z2 z3 f1 f2 hs3 ⊢
        have ep : f_X12_put v3 (nI (54 + nT)) 1 = some (1, x_si v3 3 (54 + nT) (nI x)) := by
          unfold f_X12_put
          rw [if_neg one0, ck_in (by omega) (by omega), pa_si (by omega), z3]; rfl
        have r3 : v3.1 3 = v.1 3 := (f2.1 3 (by omega)).trans ((si_r (by omega)).trans (e3.trans e13))
        have r32 : x_ga (x_si v3 3 (54 + nT) (nI x)) 3 (2 : Int32) = nI nT := by
          rw [kl_2, ga_in (by omega), si_n (by omega), r3, hv]
        have hD2 : D2.1 1 2 = nI nT := by rw [eD1]; exact hD
        have pu : x_put D2 10 2 (r_put 6 (x_sub D2 10) (D2.1 1 2) (nI x)) = x_row D2 11 (up (D.1 11) nT (nI x)) := put_step (by omega) (by omega) hD2 (by rw [eD1])
        rw [z1, z2, if_neg (nI_nm1 (by omega)), ep, bo_some, if_neg one0, r32, show ∀ z, x_pa (x_si v3 3 (54 + nT) (nI x)) 3 (2 : Int32) z = x_si (x_si v3 3 (54 + nT) (nI x)) 3 2 z from fun z => pa_si (k := 2) (by omega), nI_1]
        simp only [lt_eq]
        rw [pu, show (x_row D2 11 (up (D.1 11) nT (nI x))).1 1 2 = nI nT from by rw [row_off (by omega)]; exact hD2, nI_1]
        refine R2_some (Or.inr ⟨rfl, rfl, nS, nF, nT + 1, nW, bB, _, p3, s3, t3, ?_, ⟨d.1.thing (x := x) (by omega) hx si_0 (fun j hj => ?_) (fun i w0 w1 => ?_) ?_ si_0 ?_ (fun j w0 w1 => ?_), ?_, ?_⟩, hs3.s3.s3⟩)
        · have u1 := h.1.2.1
          have u2 := hs1.1.2.1
          have u3 := hs2.1.2.1
          omega
        · show (x_si (x_row D2 11 (up (D.1 11) nT (nI x))) 1 2 (nI (nT + 1))).1 1 j = D.1 1 j
          rw [si_n hj, row_off (by omega), eD1]
        · show (x_si (x_row D2 11 (up (D.1 11) nT (nI x))) 1 2 (nI (nT + 1))).1 (i + 1) = D.1 (i + 1)
          rw [si_r (by omega), row_off (by omega), eD1]
        · exact (si_r (by omega)).trans row_at
        · rw [si_n (by omega), si_0]
        · rw [si_n w0, si_n w1, r3]
        · show RN nS (nT + 1) nW (D2.2 16) (v3.2 8)
          rw [f2.2.2 8 (by omega)]; exact dn.2.2
        · show (x_si (x_row D2 11 (up (D.1 11) nT (nI x))) 1 2 (nI (nT + 1))).1 0 1 = (x_si (x_si v3 3 (54 + nT) (nI x)) 3 2 (nI (nT + 1))).1 0 23
          rw [congrFun (si_r (show 0 ≠ 1 by omega)) 1, row_off (by omega), congrFun (si_r (show 0 ≠ 3 by omega)) 23, congrFun (si_r (show 0 ≠ 3 by omega)) 23, eD1, f2.2.1 23 (by omega), si_n (by omega), e0 23 (by omega), fV.2.1 23 (by omega)]; exact d.2.2
theorem St.lWalker (h : St n lim b p s t T0 v0 T v) (ht : t.1 = 2) (d : DR nS nF nT nW bB D v) : R2 (f_X6_readWalker D T) (f_X12_readWalker v) (LineP n lim b T0 v0) := by
  have hb := d.1.1
  have hD : D.1 1 3 = nI nW := d.1.2.2.1.2.2.2.1
  have hv : v.1 3 3 = nI nW := d.1.2.1.2.2.2.1
  obtain ⟨g1, g2⟩ := h.first ht (j := 3) (M := 5) hv (by omega) (by omega) (by omega)
  unfold f_X6_readWalker f_X12_readWalker
  rw [hD]
  by_cases c : nW = 5
  · obtain ⟨T', v', b1, b2, b3⟩ := g1 c
    rw [if_neg (show ¬ nI nW < 5 from nI_ge' (b := 5) (by omega) (by omega)), b1, show f_X12_readFirst v 3 5 = some (0, v') from b2, bo_some, if_pos rfl, lt_eq]
    exact R2_some (Or.inl ⟨rfl, rfl, b3⟩)
  · obtain ⟨T1, v1, a1, a2, p1, s1, t1, hs1, fT, fV⟩ := h.next
    have e13 : v1.1 3 = v.1 3 := fV.1 3 (by omega)
    have d1 : DR nS nF nT nW bB D v1 := d.fv e13 (fV.2.2 8 (by omega)) (fV.2.1 23 (by omega))
    have hv1 : x_ga v1 3 (3 : Int32) = nI nW := by rw [kl_3, ga_in (by omega), e13]; exact hv
    rw [if_pos (show nI nW < 5 from nI_lt (b := 5) (by omega) (by omega)), show f_X12_readFirst v 3 5 = _ from g2 c, a1, a2, bo_some, bo_some, bo_some, if_neg one0, hv1, kl_14, nI_add, kl_60, nI_add, kl_65, nI_add]
    refine R2_bo (hs1.newName d1 (i := 14 + nW) (by omega)) ?_
    rintro ⟨r1, D2, T2⟩ ⟨q1, v2⟩ (⟨z1, z2, z3⟩ | ⟨l, ok, hn, z1, z2, eD1, eD2, e8, e3, e0, -, p2, s2, t2, hs2⟩)
    · dsimp only at z1 z2 z3 ⊢
      rw [z1, z2, if_pos rfl, if_pos rfl]
      exact R2_some (Or.inl ⟨rfl, rfl, z3⟩)
    · dsimp only at z1 z2 eD1 eD2 e8 e3 e0 hs2 ⊢
      have rn := d1.2.1.add (nS' := nS) (nT' := nT) (nW' := nW + 1) (i := 14 + nW) (by omega) (by unfold usd; omega) ok hn (fun j hj => by unfold usd; omega)
      have dn : DN nS nT (nW + 1) D2 v2 := ⟨by rw [e3, e13]; exact d.1.2.1.1, by omega, by rw [eD2, e8]; exact rn⟩
      rw [z1, z2, if_neg one0, if_neg one0]
      refine R2_bo (hs2.spot dn) ?_
      rintro ⟨r3, T3⟩ ⟨q3, v3⟩ (⟨z1, z2, z3⟩ | ⟨x, hx, z1, z2, z3, -, f1, f2, p3, s3, t3, hs3⟩)
      · dsimp only at z1 z2 z3 ⊢
        unfold f_X12_put
        rw [z1, z2, if_pos rfl, if_pos rfl, bo_some, if_pos rfl]
        exact R2_some (Or.inl ⟨rfl, rfl, z3⟩)
      · dsimp only at z1 z2 z3 f1 f2 hs3 ⊢
        have ep : f_X12_put v3 (nI (60 + nW)) 1 = some (1, x_si v3 3 (60 + nW) (nI x)) := by
          unfold f_X12_put
          rw [if_neg one0, ck_in (by omega) (by omega), pa_si (by omega), z3]; rfl
        rw [z1, z2, if_neg (nI_nm1 (by omega)), ep, bo_some, if_neg one0]
        refine R2_bo ((hs3.s3 (j := 60 + nW) (x := nI x)).num (x := 1) (y := 5) (by omega) (by omega)) ?_
        rintro ⟨r4, T4⟩ ⟨q4, v4⟩ (⟨z1, z2, z3⟩ | ⟨m, m1, m2, z1, z2, z3, -, g1, g2, p4, s4, t4, hs4⟩)
        · dsimp only at z1 z2 z3 ⊢
          unfold f_X12_put
          rw [z1, z2, if_pos rfl, if_pos rfl, bo_some, if_pos rfl]
          exact R2_some (Or.inl ⟨rfl, rfl, z3⟩)
        · dsimp only at z1 z2 z3 g1 g2 hs4 ⊢
          have ep4 : f_X12_put v4 (nI (65 + nW)) 1 = some (1, x_si v4 3 (65 + nW) (nI m)) := by
            unfold f_X12_put
            rw [if_neg one0, ck_in (by omega) (by omega), pa_si (by omega), z3]; rfl
          have r3 : v3.1 3 = v.1 3 := (f2.1 3 (by omega)).trans ((si_r (by omega)).trans (e3.trans e13))
          have r4 : v4.1 3 = up (v.1 3) (60 + nW) (nI x) := (g2.1 3 (by omega)).trans ((si_r (by omega)).trans (by rw [si_s, r3]))
          have r43 : x_ga (x_si v4 3 (65 + nW) (nI m)) 3 (3 : Int32) = nI nW := by
            rw [kl_3, ga_in (by omega), si_n (by omega), r4, up_ne (by omega), hv]
          have hD2 : D2.1 1 3 = nI nW := by rw [eD1]; exact hD
          have hD3 : (x_row D2 13 (up (D.1 13) nW (nI x))).1 1 3 = nI nW := by rw [row_off (by omega)]; exact hD2
          have pu : x_put D2 12 2 (r_put 5 (x_sub D2 12) (D2.1 1 3) (nI x)) = x_row D2 13 (up (D.1 13) nW (nI x)) := put_step (by omega) (by omega) hD2 (by rw [eD1])
          have pu2 : x_put (x_row D2 13 (up (D.1 13) nW (nI x))) 14 2 (r_put 5 (x_sub (x_row D2 13 (up (D.1 13) nW (nI x))) 14) ((x_row D2 13 (up (D.1 13) nW (nI x))).1 1 3) (nI m)) = x_row (x_row D2 13 (up (D.1 13) nW (nI x))) 15 (up (D.1 15) nW (nI m)) := put_step (by omega) (by omega) hD3 (by rw [row_off (by omega), eD1])
          rw [z1, z2, if_neg (nI_nm1 (by omega)), ep4, bo_some, if_neg one0, r43, show ∀ z, x_pa (x_si v4 3 (65 + nW) (nI m)) 3 (3 : Int32) z = x_si (x_si v4 3 (65 + nW) (nI m)) 3 3 z from fun z => pa_si (k := 3) (by omega), nI_1]
          simp only [lt_eq]
          rw [pu, pu2, show (x_row (x_row D2 13 (up (D.1 13) nW (nI x))) 15 (up (D.1 15) nW (nI m))).1 1 3 = nI nW from by rw [row_off (by omega)]; exact hD3, nI_1]
          refine R2_some (Or.inr ⟨rfl, rfl, nS, nF, nT, nW + 1, bB, _, p4, s4, t4, ?_, ⟨d.1.walker (x := x) (y := m) (by omega) hx ⟨m1, m2⟩ si_0 (fun j hj => ?_) (fun i w0 w1 w2 => ?_) ?_ ?_ si_0 ?_ ?_ (fun j w0 w1 w2 => ?_), ?_, ?_⟩, hs4.s3.s3⟩)
          · have u1 := h.1.2.1
            have u2 := hs1.1.2.1
            have u3 := hs2.1.2.1
            have u4 := hs3.1.2.1
            omega
          · show (x_si (x_row (x_row D2 13 (up (D.1 13) nW (nI x))) 15 (up (D.1 15) nW (nI m))) 1 3 (nI (nW + 1))).1 1 j = D.1 1 j
            rw [si_n hj, row_off (by omega), row_off (by omega), eD1]
          · show (x_si (x_row (x_row D2 13 (up (D.1 13) nW (nI x))) 15 (up (D.1 15) nW (nI m))) 1 3 (nI (nW + 1))).1 (i + 1) = D.1 (i + 1)
            rw [si_r (by omega), row_off (by omega), row_off (by omega), eD1]
          · refine (si_r (by omega)).trans ((row_off (by omega)).trans row_at)
          · refine (si_r (by omega)).trans row_at
          · rw [si_n (by omega), si_n (by omega), r4, up_eq]
          · rw [si_n (by omega), si_0]
          · rw [si_n w0, si_n w2, r4, up_ne w1]
          · show RN nS nT (nW + 1) (D2.2 16) (v4.2 8)
            rw [g2.2.2 8 (by omega)]
            show RN nS nT (nW + 1) (D2.2 16) (v3.2 8)
            rw [f2.2.2 8 (by omega)]; exact dn.2.2
          · show (x_si (x_row (x_row D2 13 (up (D.1 13) nW (nI x))) 15 (up (D.1 15) nW (nI m))) 1 3 (nI (nW + 1))).1 0 1 = (x_si (x_si v4 3 (65 + nW) (nI m)) 3 3 (nI (nW + 1))).1 0 23
            rw [congrFun (si_r (show 0 ≠ 1 by omega)) 1, row_off (by omega), row_off (by omega), congrFun (si_r (show 0 ≠ 3 by omega)) 23, congrFun (si_r (show 0 ≠ 3 by omega)) 23, eD1, g2.2.1 23 (by omega), si_n (by omega), congrFun (si_r (show 0 ≠ 3 by omega)) 23, f2.2.1 23 (by omega), si_n (by omega), e0 23 (by omega), fV.2.1 23 (by omega)]; exact d.2.2
theorem St.line (h : St n lim b p s t T0 v0 T v) (d : DR nS nF nT nW bB D v) : R2 (f_X6_readLine D T) (f_X12_readLine v) (LineP n lim b T0 v0) := by
  have hc := h.1.2.2.1
  have hle := wi_le t.2.2
  have W : ∀ k, k < 29 → f_X12_isWord v (nI k) = bI (decide (t.1 = 2) && decide (wi t.2.2 = pm k)) := fun k hk => r_isWord hc hk
  have w0 : f_X12_isWord v 0 = bI (decide (t.1 = 2) && decide (wi t.2.2 = 0)) := W 0 (by omega)
  have w2 : f_X12_isWord v 2 = bI (decide (t.1 = 2) && decide (wi t.2.2 = 2)) := W 2 (by omega)
  have w6 : f_X12_isWord v 6 = bI (decide (t.1 = 2) && decide (wi t.2.2 = 3)) := W 6 (by omega)
  have w7 : f_X12_isWord v 7 = bI (decide (t.1 = 2) && decide (wi t.2.2 = 4)) := W 7 (by omega)
  have w8 : f_X12_isWord v 8 = bI (decide (t.1 = 2) && decide (wi t.2.2 = 5)) := W 8 (by omega)
  have yes : ∀ k, t.1 = 2 → wi t.2.2 = k → ¬ bI (decide (t.1 = 2) && decide (wi t.2.2 = k)) = 0 := fun k e1 e2 => by
    rw [decide_eq_true e1, decide_eq_true e2]; decide
  have no : ∀ k, ¬ (t.1 = 2 ∧ wi t.2.2 = k) → bI (decide (t.1 = 2) && decide (wi t.2.2 = k)) = 0 := fun k e => by
    by_cases c1 : t.1 = 2
    · rw [decide_eq_true c1, decide_eq_false (fun q => e ⟨c1, q⟩)]; rfl
    · rw [decide_eq_false c1]; rfl
  have c8 : ∀ k, k < 29 → (T.1 0 8 = nI k ↔ t.1 = 2 ∧ wi t.2.2 = k) := fun k hk => tk_8 hc hk
  have up : ∀ (f : Option (Int32 × XM × XM)) (g : Option (Int32 × XM)), R2 f g (LineP n lim b T0 v0) → R2 (x_bo f (fun y2 => some (y2.1, y2.2.1, y2.2.2))) (x_bo g (fun y => some (y.1, y.2))) (LineP n lim b T0 v0) := fun f g hfg => by
    obtain ⟨r, q, e1, e2, e3⟩ := hfg
    rw [e1, e2]; exact R2_some e3
  have bad : R2 (x_lt (f_X8_refuse T (1 : Int32)) (fun y3 => some (y3.1, D, y3.2))) (x_lt (f_X12_bad v (1 : Int32)) (fun y6 => some (y6.1, y6.2))) (LineP n lim b T0 v0) := by
    obtain ⟨T', v', b1, b2, b3⟩ := h.bad 1 (Or.inr rfl)
    rw [show f_X8_refuse T 1 = (0, T') from b1, show f_X12_bad v 1 = (0, v') from b2]
    exact R2_some (Or.inl ⟨rfl, rfl, b3⟩)
  unfold f_X6_readLine f_X12_readLine
  rw [w0, w2, w6, w7, w8]
  rw [lt_eq (a := bI (decide (t.1 = 2) && decide (wi t.2.2 = 0)))]
  by_cases k0 : t.1 = 2 ∧ wi t.2.2 = 0
  · rw [if_pos (show T.1 0 8 = 0 from (c8 0 (by omega)).mpr k0), if_neg (yes 0 k0.1 k0.2)]
    exact up _ _ (h.lSpot k0.1 d)
  rw [if_neg (show ¬ T.1 0 8 = 0 from fun q => k0 ((c8 0 (by omega)).mp q)), if_pos (no 0 k0), lt_eq (a := bI (decide (t.1 = 2) && decide (wi t.2.2 = 2)))]
  by_cases k1 : t.1 = 2 ∧ wi t.2.2 = 1
  · rw [if_pos (show T.1 0 8 = 1 from (c8 1 (by omega)).mpr k1), if_pos (no 2 (by omega)), lt_eq (a := bI (decide (t.1 = 2) && decide (wi t.2.2 = 3))), if_pos (no 3 (by omega)), lt_eq (a := bI (decide (t.1 = 2) && decide (wi t.2.2 = 4))), if_pos (no 4 (by omega)), lt_eq (a := bI (decide (t.1 = 2) && decide (wi t.2.2 = 5))), if_pos (no 5 (by omega))]
    exact bad
  rw [if_neg (show ¬ T.1 0 8 = 1 from fun q => k1 ((c8 1 (by omega)).mp q))]
  by_cases k2 : t.1 = 2 ∧ wi t.2.2 = 2
  · rw [if_pos (show T.1 0 8 = 2 from (c8 2 (by omega)).mpr k2), if_neg (yes 2 k2.1 k2.2)]
    exact up _ _ (h.lFold k2.1 d)
  rw [if_neg (show ¬ T.1 0 8 = 2 from fun q => k2 ((c8 2 (by omega)).mp q)), if_pos (no 2 k2), lt_eq (a := bI (decide (t.1 = 2) && decide (wi t.2.2 = 3)))]
  by_cases k3 : t.1 = 2 ∧ wi t.2.2 = 3
  · rw [if_pos (show T.1 0 8 = 3 from (c8 3 (by omega)).mpr k3), if_neg (yes 3 k3.1 k3.2)]
    exact up _ _ (h.lThing k3.1 d)
  rw [if_neg (show ¬ T.1 0 8 = 3 from fun q => k3 ((c8 3 (by omega)).mp q)), if_pos (no 3 k3), lt_eq (a := bI (decide (t.1 = 2) && decide (wi t.2.2 = 4)))]
  by_cases k4 : t.1 = 2 ∧ wi t.2.2 = 4
  · rw [if_pos (show T.1 0 8 = 4 from (c8 4 (by omega)).mpr k4), if_neg (yes 4 k4.1 k4.2)]
    exact up _ _ (h.lWalker k4.1 d)
  rw [if_neg (show ¬ T.1 0 8 = 4 from fun q => k4 ((c8 4 (by omega)).mp q)), if_pos (no 4 k4), lt_eq (a := bI (decide (t.1 = 2) && decide (wi t.2.2 = 5)))]
  by_cases k5 : t.1 = 2 ∧ wi t.2.2 = 5
  · rw [if_pos (show T.1 0 8 = 5 from (c8 5 (by omega)).mpr k5), if_neg (yes 5 k5.1 k5.2)]
    exact up _ _ (h.lBreath k5.1 d)
  rw [if_neg (show ¬ T.1 0 8 = 5 from fun q => k5 ((c8 5 (by omega)).mp q)), if_pos (no 5 k5)]
  exact bad
end CH
