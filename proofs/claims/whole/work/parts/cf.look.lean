-- LINES of a VALLEY, read.
theorem pa_si {v : XM} {id k : Nat} {x : Int32} (h : k < 2 ^ 31) : x_pa v id (nI k) x = x_si v id k x := by unfold x_pa; rw [nI_clamp h]
theorem si_s {v : XM} {i k : Nat} {x : Int32} : (x_si v i k x).1 i = up (v.1 i) k x := by rw [si_row, row_at]
section CF
variable {n lim b p s a k nS nF nT nW bB : Nat} {t : Tok} {T v T' v' T'' v'' T0 v0 D D' : XM} {l : List Nat}
theorem St.s3 (h : St n lim b p s t T0 v0 T v) {j : Nat} {x : Int32} : St n lim b p s t T0 v0 T (x_si v 3 j x) := ⟨h.1.cong (si_r (by omega)) (fun j hj => congrFun (si_r (by omega)) j) rfl, (h.2.1).trans (congrFun (si_r (by omega)) 10).symm, h.2.2.1, h.2.2.2.s3⟩
theorem St.first (h : St n lim b p s t T0 v0 T v) (ht : t.1 = 2) {j M : Nat} (e : v.1 3 j = nI k) (hj : j < 70) (hk : k < 100) (hM : M < 100) : (k = M → ∃ T' v', f_X8_refuse T 4 = (0, T') ∧ f_X12_readFirst v (nI j) (nI M) = some (0, v') ∧ Bd T0 v0 T' v') ∧ (k ≠ M → f_X12_readFirst v (nI j) (nI M) = x_bo (f_X12_go v) (fun y1 => some ((1 : Int32), y1))) := by
  unfold f_X12_readFirst
  rw [ck_in hj (by omega), ga_in (by omega), e]
  constructor
  · rintro rfl
    obtain ⟨T', v', b1, b2, b3⟩ := h.bad 4 (Or.inl (by omega))
    rw [if_pos rfl, show f_X12_bad v 4 = (0, v') from b2]
    exact ⟨T', v', b1, rfl, b3⟩
  · intro q
    rw [if_neg (fun z => q (nI_iff (by omega) (by omega) z))]
theorem St.badAt (h : St n lim b p s t T0 v0 T v) (k : Nat) (ht : t.1 ≠ 1 ∨ k = 1) (hf : FL T0 T') : ∃ T'' v', f_X8_refuseAt T' (nI k) (T.1 0 5) = (0, T'') ∧ f_X12_bad v (nI k) = (0, v') ∧ Bd T0 v0 T'' v' := by
  obtain ⟨T1, v', b1, b2, b3, b4, b5, b6, b7⟩ := h.bad k ht
  have e : T1 = x_si (x_si T 0 10 (nI k)) 0 11 (T.1 0 5) := (congrArg Prod.snd b1).symm
  refine ⟨_, v', rfl, b2, (hf.si (by omega)).si (by omega), b4, ?_, ?_, b7⟩
  · rw [← b5, e]
    exact ((si_n (show 10 ≠ 11 by omega)).trans si_0).trans ((si_n (show 10 ≠ 11 by omega)).trans si_0).symm
  · rw [← b6, e, si_0, si_0]
theorem St.lSpot (h : St n lim b p s t T0 v0 T v) (ht : t.1 = 2) (d : DR nS nF nT nW bB D v) : R2 (f_X6_readSpot D T) (f_X12_readSpot v) (LineP n lim b T0 v0) := by
  have hb := d.1.1
  have hD0 : D.1 1 0 = nI nS := d.1.2.2.1.1
  have hv0 : v.1 3 0 = nI nS := d.1.2.1.1
  obtain ⟨g1, g2⟩ := h.first ht (j := 0) (M := 8) hv0 (by omega) (by omega) (by omega)
  unfold f_X6_readSpot f_X12_readSpot
  rw [hD0]
  by_cases c : nS = 8
  · obtain ⟨T', v', b1, b2, b3⟩ := g1 c
    rw [if_neg (show ¬ nI nS < 8 from nI_ge' (b := 8) (by omega) (by omega)), b1, show f_X12_readFirst v 0 8 = some (0, v') from b2, bo_some, if_pos rfl, lt_eq]
    exact R2_some (Or.inl ⟨rfl, rfl, b3⟩)
  · obtain ⟨T1, v1, a1, a2, p1, s1, t1, hs1, fT, fV⟩ := h.next
    have e13 : v1.1 3 = v.1 3 := fV.1 3 (by omega)
    have d1 : DR nS nF nT nW bB D v1 := d.fv e13 (fV.2.2 8 (by omega)) (fV.2.1 23 (by omega))
    rw [if_pos (show nI nS < 8 from nI_lt (b := 8) (by omega) (by omega)), show f_X12_readFirst v 0 8 = _ from g2 c, a1, a2, bo_some, bo_some, bo_some, if_neg one0, show x_ga v1 3 (0 : Int32) = nI nS from by rw [kl_0, ga_in (by omega), e13]; exact hv0, show (0 : Int32) + nI nS = nI nS from by rw [kl_0, nI_add, Nat.zero_add]]
    refine R2_bo (hs1.newName d1 (i := nS) (by omega)) ?_
    rintro ⟨r1, D2, T2⟩ ⟨q1, v2⟩ (⟨z1, z2, z3⟩ | ⟨l, ok, hn, z1, z2, eD1, eD2, e8, e3, e0, -, p2, s2, t2, hs2⟩)
    · dsimp only at z1 z2 z3 ⊢
      rw [z1, z2, if_pos rfl, if_pos rfl]
      exact R2_some (Or.inl ⟨rfl, rfl, z3⟩)
    · dsimp only at z1 z2 eD1 eD2 e8 e3 e0 hs2 ⊢
      have hpp : b ≤ p := by have := h.1.2.1; omega
      have hpp1 : p ≤ p1 := by have := hs1.1.2.1; omega
      have rn := d1.2.1.add (nS' := nS + 1) (nT' := nT) (nW' := nW) (i := nS) (by omega) (by unfold usd; omega) ok hn (fun j hj => by unfold usd; omega)
      have fin : ∀ (X : Int32) (D3 T3 v3 : XM) (b3 p3 s3 : Nat) (t3 : Tok), (∀ i, i ≠ 1 → D3.1 i = D.1 i) → (∀ j, j ≠ 5 → D3.1 1 j = D.1 1 j) → D3.1 1 5 = X → D3.1 0 = D.1 0 → D3.2 16 = D2.2 16 → v3.1 3 5 = X → (∀ j, j ≠ 5 → v3.1 3 j = v.1 3 j) → v3.2 8 = v2.2 8 → v3.1 0 23 = v.1 0 23 → b ≤ b3 → St n lim b3 p3 s3 t3 T0 v0 T3 v3 → R2 (f_X6_readSpot_74 D3 T3) (f_X12_readSpot_54 v3) (LineP n lim b T0 v0) := by
        intro X D3 T3 v3 b3 p3 s3 t3 y1 y2 y3 y4 y5 y6 y7 y8 y9 y10 hs3
        unfold f_X6_readSpot_74 f_X12_readSpot_54
        rw [y2 0 (by omega), hD0, kl_0, ga_in (by omega), y7 0 (by omega), hv0, nI_1, pa_si (by omega), lt_eq, lt_eq]
        refine R2_some (Or.inr ⟨rfl, rfl, nS + 1, nF, nT, nW, bB, b3, p3, s3, t3, y10, ⟨d.1.spot (by omega) ?_ ?_ (fun j j1 j2 => ?_) (fun i hi => ?_) ?_ (fun j j1 j2 => ?_), ?_, ?_⟩, hs3.s3⟩)
        · exact si_0
        · show (x_si D3 1 0 (nI (nS + 1))).1 1 5 = (x_si v3 3 0 (nI (nS + 1))).1 3 5
          rw [si_n (by omega), si_n (by omega), y3, y6]
        · show (x_si D3 1 0 (nI (nS + 1))).1 1 j = D.1 1 j
          rw [si_n (by omega), y2 j (by omega)]
        · show (x_si D3 1 0 (nI (nS + 1))).1 (i + 1) = D.1 (i + 1)
          rw [si_r (by omega), y1 _ (by omega)]
        · exact si_0
        · show (x_si v3 3 0 (nI (nS + 1))).1 3 j = v.1 3 j
          rw [si_n (by omega), y7 j (by omega)]
        · show RN (nS + 1) nT nW (D3.2 16) (v3.2 8)
          rw [y5, y8, eD2, e8]; exact rn
        · show (x_si D3 1 0 (nI (nS + 1))).1 0 1 = (x_si v3 3 0 (nI (nS + 1))).1 0 23
          rw [congrFun (si_r (show 0 ≠ 1 by omega)) 1, congrFun (si_r (show 0 ≠ 3 by omega)) 23, y4, y9]; exact d.2.2
      have hc2 := hs2.1.2.2.1
      have ew : f_X12_isWord v2 1 = bI (decide (t2.1 = 2) && decide (wi t2.2.2 = 1)) := r_isWord hc2 (k := 1) (by omega)
      have e23 : v2.1 0 23 = v.1 0 23 := (e0 23 (by omega)).trans (fV.2.1 23 (by omega))
      rw [z1, z2, if_neg one0, if_neg one0, ew]
      simp only [lt_eq]
      by_cases c2 : t2.1 = 2 ∧ wi t2.2.2 = 1
      · rw [if_pos (show T2.1 0 8 = 1 from (tk_8 hc2 (k := 1) (by omega)).mpr c2), decide_eq_true c2.1, decide_eq_true c2.2, if_neg (show ¬ bI (true && true) = 0 by decide)]
        have ex : x_pa v2 3 5 (x_ga v2 3 (5 : Int32) ||| (1 : Int32) <<< (x_ga v2 3 (0 : Int32) &&& 31)) = x_si v2 3 5 (v.1 3 5 ||| (1 : Int32) <<< (nI nS &&& 31)) := by
          rw [kl_5, kl_0, ga_in (by omega), ga_in (by omega), e3, e13, hv0]; rfl
        have ex2 : x_si D2 1 5 (D2.1 1 5 ||| (1 : Int32) <<< (D2.1 1 0 &&& 31)) = x_si D2 1 5 (v.1 3 5 ||| (1 : Int32) <<< (nI nS &&& 31)) := by
          rw [eD1, hD0, show D.1 1 5 = v.1 3 5 from d.1.2.2.1.2.2.2.2.2]
        rw [ex, ex2]
        obtain ⟨T3, v3, a3, a4, p3, s3, t3, hs3, fT3, fV3⟩ := (hs2.s3 (j := 5) (x := v.1 3 5 ||| (1 : Int32) <<< (nI nS &&& 31))).next
        rw [a3, a4, bo_some, bo_some]
        have e33 : v3.1 3 = up (v2.1 3) 5 (v.1 3 5 ||| (1 : Int32) <<< (nI nS &&& 31)) := (fV3.1 3 (by omega)).trans si_s
        refine fin (v.1 3 5 ||| (1 : Int32) <<< (nI nS &&& 31)) _ T3 v3 _ p3 s3 t3 (fun i hi => ?_) (fun j hj => ?_) si_0 ?_ rfl ?_ (fun j hj => ?_) (fV3.2.2 8 (by omega)) ?_ ?_ hs3
        · rw [si_r hi, eD1]
        · rw [si_n hj, eD1]
        · rw [si_r (by omega), eD1]
        · rw [e33, up_eq]
        · rw [e33, up_ne hj, e3, e13]
        · rw [fV3.2.1 23 (by omega), congrFun (si_r (show 0 ≠ 3 by omega)) 23]; exact e23
        · have := hs2.1.2.1; omega
      · rw [if_neg (show ¬ T2.1 0 8 = 1 from fun q => c2 ((tk_8 hc2 (k := 1) (by omega)).mp q)), if_pos (show bI (decide (t2.1 = 2) && decide (wi t2.2.2 = 1)) = 0 from by
          by_cases c1 : t2.1 = 2
          · rw [decide_eq_true c1, decide_eq_false (fun q => c2 ⟨c1, q⟩)]; rfl
          · rw [decide_eq_false c1]; rfl)]
        refine fin (v.1 3 5) D2 T2 v2 _ p2 s2 t2 (fun i hi => by rw [eD1]) (fun j hj => by rw [eD1]) (by rw [eD1]; exact d.1.2.2.1.2.2.2.2.2) (by rw [eD1]) rfl (by rw [e3, e13]) (fun j hj => by rw [e3, e13]) rfl e23 (by omega) hs2
theorem St.lBreath (h : St n lim b p s t T0 v0 T v) (ht : t.1 = 2) (d : DR nS nF nT nW bB D v) : R2 (f_X6_readBreath D T) (f_X12_readBreath v) (LineP n lim b T0 v0) := by
  have hb := d.1.1
  unfold f_X6_readBreath f_X12_readBreath
  rw [d.2.2]
  by_cases c : v.1 0 23 = 0
  · rw [if_pos c, if_pos c, lt_eq, lt_eq]
    have h' : St n lim b p s t T0 v0 T (x_si v 0 23 1) := ⟨h.1.cong (si_r (by omega)) (fun j hj => si_n (by omega)) rfl, (h.2.1).trans (si_n (by omega)).symm, h.2.2.1, h.2.2.2.si (by omega)⟩
    obtain ⟨T1, v1, a1, a2, p1, s1, t1, hs1, fT, fV⟩ := h'.next
    rw [a1, a2, bo_some, bo_some]
    refine R2_bo (hs1.num (x := 2) (y := 40) (by omega) (by omega)) ?_
    rintro ⟨r1, T2⟩ ⟨q1, v2⟩ (⟨z1, z2, z3⟩ | ⟨m, m1, m2, z1, z2, z3, -, f1, f2, p2, s2, t2, hs2⟩)
    · dsimp only at z1 z2 z3 ⊢
      unfold f_X12_put
      rw [z1, z2, if_pos rfl, if_pos rfl, bo_some]
      exact R2_some (Or.inl ⟨rfl, rfl, z3⟩)
    · dsimp only at z1 z2 z3 f1 f2 hs2 ⊢
      unfold f_X12_put
      rw [z1, z2, z3, if_neg (nI_nm1 (by omega)), if_neg one0, kl_4, ck_in (by omega) (by omega), pa_si (by omega), lt_eq, lt_eq, bo_some]
      have e3 : v2.1 3 = v.1 3 := (f2.1 3 (by omega)).trans ((si_r (by omega)).trans ((fV.1 3 (by omega)).trans (si_r (by omega))))
      refine R2_some (Or.inr ⟨rfl, rfl, nS, nF, nT, nW, m, _, p2, s2, t2, ?_, ⟨d.1.breath ⟨m1, m2⟩ ?_ (fun j hj => ?_) (fun i hi => ?_) ?_ (fun j hj => ?_), ?_, ?_⟩, hs2.s3⟩)
      · have h1 := h.1.2.1
        have h2 := hs1.1.2.1
        omega
      · exact si_0
      · show (x_si (x_si D 0 1 1) 1 4 (nI m)).1 1 j = D.1 1 j
        rw [si_n hj, si_r (by omega)]
      · show (x_si (x_si D 0 1 1) 1 4 (nI m)).1 (i + 1) = D.1 (i + 1)
        rw [si_r (by omega), si_r (by omega)]
      · exact si_0
      · show (x_si v2 3 4 (nI m)).1 3 j = v.1 3 j
        rw [si_n hj, e3]
      · show RN nS nT nW (D.2 16) (v2.2 8)
        rw [f2.2.2 8 (by omega)]
        show RN nS nT nW (D.2 16) (v1.2 8)
        rw [fV.2.2 8 (by omega)]; exact d.2.1
      · show (x_si (x_si D 0 1 1) 1 4 (nI m)).1 0 1 = (x_si v2 3 4 (nI m)).1 0 23
        rw [congrFun (si_r (show 0 ≠ 1 by omega)) 1, congrFun (si_r (show 0 ≠ 3 by omega)) 23, si_0, f2.2.1 23 (by omega), si_n (by omega), fV.2.1 23 (by omega), si_0]
  · obtain ⟨T', v', b1, b2, b3⟩ := h.bad 3 (Or.inl (by omega))
    rw [if_neg c, if_neg c, show f_X8_refuse T 3 = (0, T') from b1, show f_X12_bad v 3 = (0, v') from b2]
    exact R2_some (Or.inl ⟨rfl, rfl, b3⟩)
end CF
