-- a VALLEY taken over.
section CI
variable {nS nF nT nW bB nS' nF' nT' nW' bB' : Nat} {w v w' v' u d M W : XM}
theorem RelN.mk2 (h : RelN nS nF nT nW bB w v) (h2 : ∀ i, i = 4 ∨ i = 62 ∨ i = 103 → w'.2 i = w.2 i) (hc : ∀ i, (46 ≤ i ∧ i < 143) ∨ 265 ≤ i → ¬ scrW i → w'.1 i = w.1 i) (hv2 : v'.2 9 = v.2 9) (hv : ∀ i, i = 4 ∨ i = 10 ∨ i = 12 ∨ i = 15 ∨ i = 16 ∨ i = 18 → v'.1 i = v.1 i) (hf : ∀ j, vF j → j ≠ 2 → j ≠ 10 → j ≠ 24 → v'.1 0 j = v.1 0 j) (hW : RWorld nS' nF' nT' nW' bB' (fun i => w'.1 (i + 5)) (w'.2 21) (v'.1 2) (v'.2 7)) (hH : RHist nS' nF' nW' bB' (v'.1 2) w' v') (hT : RTape w' v') : RelN nS' nF' nT' nW' bB' w' v' := by
  obtain ⟨-, -, a7, a7', -, a9, a10, a11, a12⟩ := h
  refine ⟨hW, hH, a7.congr (by omega) (fun i hi => hc _ (by omega) (by unfold scrW; omega)) (h2 62 (by omega)) ⟨hv 10 (by omega), hv 4 (by omega), hv2⟩, a7'.congr (by omega) (fun i hi => hc _ (by omega) (by unfold scrW; omega)) (h2 103 (by omega)) ⟨hv 10 (by omega), hv 4 (by omega), hv2⟩, hT, a9.congr (h2 4 (by omega)), a10.congr (hc 282 (by omega) (by unfold scrW; omega)) ⟨hf 41 (by unfold vF; omega) (by omega) (by omega) (by omega), hv 18 (by omega)⟩, a11.congr (fun i hi => hc i (by omega) (by unfold scrW; omega)) ⟨hf 27 (by unfold vF; omega) (by omega) (by omega) (by omega), hf 31 (by unfold vF; omega) (by omega) (by omega) (by omega), hf 32 (by unfold vF; omega) (by omega) (by omega) (by omega), hf 33 (by unfold vF; omega) (by omega) (by omega) (by omega), hf 34 (by unfold vF; omega) (by omega) (by omega) (by omega)⟩ ⟨hv 12 (by omega), hv 15 (by omega)⟩, a12.congr ⟨by rw [hc 315 (by omega) (by unfold scrW; omega)], hc 317 (by omega) (by unfold scrW; omega)⟩ ⟨hf 36 (by unfold vF; omega) (by omega) (by omega) (by omega), hv 16 (by omega)⟩⟩
/-- the same VALLEY, STATE and SENTENCE -/
theorem RelN.txt (h : RelN nS nF nT nW bB w v) (h2 : ∀ i, i = 4 ∨ i = 21 ∨ i = 62 ∨ i = 103 → w'.2 i = w.2 i) (hc : ∀ i, i ≠ 1 → i ≠ 3 → (i = 44 ∨ ¬ scrW i) → w'.1 i = w.1 i) (hv2 : v'.2 7 = v.2 7 ∧ v'.2 9 = v.2 9) (hv : ∀ i, i = 2 ∨ i = 4 ∨ i = 5 ∨ i = 10 ∨ i = 12 ∨ i = 15 ∨ i = 16 ∨ i = 18 → v'.1 i = v.1 i) (hf : ∀ j, vF j → j ≠ 2 → j ≠ 10 → v'.1 0 j = v.1 0 j) (hT : RTape w' v') : RelN nS nF nT nW bB w' v' := by
  have hb := h.1.1.1
  have a1 := h.1
  have a6 := h.2.1
  exact h.mk2 (fun i hi => h2 i (by omega)) (fun i hi hs => hc i (by omega) (by omega) (Or.inr hs)) hv2.2 (fun i hi => hv i (by omega)) (fun j q1 q2 q3 _ => hf j q1 q2 q3) (a1.congr (fun i p q => hc _ (by omega) (by omega) (by unfold scrW; omega)) (h2 21 (by omega)) (fun i _ => by rw [hv2.1]) (fun j _ => by rw [hv 2 (by omega)])) (a6.congr ⟨by omega, by omega⟩ (fun j _ => by rw [hv 2 (by omega)]) (fun i p q => hc i (by omega) (by omega) (by unfold scrW; omega)) ⟨hv 5 (by omega), hf 24 (by unfold vF; omega) (by omega) (by omega)⟩) hT
theorem c_becomeV (V d : XM) : wp (f_X9_become V d) (fun U => (∀ j, j < 6 → U.1 0 j = d.1 0 j) ∧ (∀ j, j < 12 → U.1 2 j = d.1 2 j ∧ U.1 4 j = d.1 4 j ∧ U.1 6 j = d.1 6 j ∧ U.1 8 j = d.1 8 j) ∧ (∀ j, j < 6 → U.1 10 j = d.1 10 j) ∧ (∀ j, j < 5 → U.1 12 j = d.1 12 j ∧ U.1 14 j = d.1 14 j) ∧ ∀ i, i < 19 → U.2 15 i = d.2 15 i) := by
  unfold f_X9_become
  rw [lt_eq, lt_eq, lt_eq, lt_eq, lt_eq, lt_eq]
  generalize hm : x_si (x_si (x_si (x_si (x_si (x_si V 0 0 (d.1 0 0)) 0 1 (d.1 0 1)) 0 2 (d.1 0 2)) 0 3 (d.1 0 3)) 0 4 (d.1 0 4)) 0 5 (d.1 0 5) = m
  have hm0 : ∀ j, j < 6 → m.1 0 j = d.1 0 j := fun j hj => by
    subst hm
    by_cases c5 : j = 5
    · subst c5; exact si_0
    · by_cases c4 : j = 4
      · subst c4; exact (si_n c5).trans si_0
      · by_cases c3 : j = 3
        · subst c3; exact (si_n c5).trans ((si_n c4).trans si_0)
        · by_cases c2 : j = 2
          · subst c2; exact (si_n c5).trans ((si_n c4).trans ((si_n c3).trans si_0))
          · by_cases c1 : j = 1
            · subst c1; exact (si_n c5).trans ((si_n c4).trans ((si_n c3).trans ((si_n c2).trans si_0)))
            · obtain rfl : j = 0 := by omega
              exact (si_n c5).trans ((si_n c4).trans ((si_n c3).trans ((si_n c2).trans ((si_n c1).trans si_0))))
  clear hm
  rw [lt_eq, lt_eq, put_bec]
  generalize hM1 : x_row m (1 + 1) (bec 12 (m.1 (1 + 1)) (d.1 (1 + 1))) = M1
  rw [lt_eq, lt_eq, put_bec]
  generalize hM2 : x_row M1 (1 + 3) (bec 12 (M1.1 (1 + 3)) (d.1 (1 + 3))) = M2
  rw [lt_eq, lt_eq, put_bec]
  generalize hM3 : x_row M2 (1 + 5) (bec 12 (M2.1 (1 + 5)) (d.1 (1 + 5))) = M3
  rw [lt_eq, lt_eq, put_bec]
  generalize hM4 : x_row M3 (1 + 7) (bec 12 (M3.1 (1 + 7)) (d.1 (1 + 7))) = M4
  rw [lt_eq, lt_eq, put_bec]
  generalize hM5 : x_row M4 (1 + 9) (bec 6 (M4.1 (1 + 9)) (d.1 (1 + 9))) = M5
  rw [lt_eq, lt_eq, put_bec]
  generalize hM6 : x_row M5 (1 + 11) (bec 5 (M5.1 (1 + 11)) (d.1 (1 + 11))) = M6
  rw [lt_eq, lt_eq, put_bec]
  generalize hM7 : x_row M6 (1 + 13) (bec 5 (M6.1 (1 + 13)) (d.1 (1 + 13))) = M7
  have a1 : ∀ j, j < 12 → M1.1 2 j = d.1 2 j := fun j hj => by rw [← hM1, row_at, bec_in hj]
  have n1 : ∀ i, i ≠ 2 → M1.1 i = m.1 i := fun i hi => by rw [← hM1, row_off hi]
  have a2 : ∀ j, j < 12 → M2.1 4 j = d.1 4 j := fun j hj => by rw [← hM2, row_at, bec_in hj]
  have n2 : ∀ i, i ≠ 4 → M2.1 i = M1.1 i := fun i hi => by rw [← hM2, row_off hi]
  have a3 : ∀ j, j < 12 → M3.1 6 j = d.1 6 j := fun j hj => by rw [← hM3, row_at, bec_in hj]
  have n3 : ∀ i, i ≠ 6 → M3.1 i = M2.1 i := fun i hi => by rw [← hM3, row_off hi]
  have a4 : ∀ j, j < 12 → M4.1 8 j = d.1 8 j := fun j hj => by rw [← hM4, row_at, bec_in hj]
  have n4 : ∀ i, i ≠ 8 → M4.1 i = M3.1 i := fun i hi => by rw [← hM4, row_off hi]
  have a5 : ∀ j, j < 6 → M5.1 10 j = d.1 10 j := fun j hj => by rw [← hM5, row_at, bec_in hj]
  have n5 : ∀ i, i ≠ 10 → M5.1 i = M4.1 i := fun i hi => by rw [← hM5, row_off hi]
  have a6 : ∀ j, j < 5 → M6.1 12 j = d.1 12 j := fun j hj => by rw [← hM6, row_at, bec_in hj]
  have n6 : ∀ i, i ≠ 12 → M6.1 i = M5.1 i := fun i hi => by rw [← hM6, row_off hi]
  have a7 : ∀ j, j < 5 → M7.1 14 j = d.1 14 j := fun j hj => by rw [← hM7, row_at, bec_in hj]
  have n7 : ∀ i, i ≠ 14 → M7.1 i = M6.1 i := fun i hi => by rw [← hM7, row_off hi]
  clear hM1 hM2 hM3 hM4 hM5 hM6 hM7
  have h1 : (∀ j, j < 6 → M7.1 0 j = d.1 0 j) ∧ (∀ j, j < 12 → M7.1 2 j = d.1 2 j ∧ M7.1 4 j = d.1 4 j ∧ M7.1 6 j = d.1 6 j ∧ M7.1 8 j = d.1 8 j) ∧ (∀ j, j < 6 → M7.1 10 j = d.1 10 j) ∧ (∀ j, j < 5 → M7.1 12 j = d.1 12 j ∧ M7.1 14 j = d.1 14 j) := by
    refine ⟨fun j hj => ?_, fun j hj => ⟨?_, ?_, ?_, ?_⟩, fun j hj => ?_, fun j hj => ⟨?_, ?_⟩⟩
    · rw [n7 0 (by omega), n6 0 (by omega), n5 0 (by omega), n4 0 (by omega), n3 0 (by omega), n2 0 (by omega), n1 0 (by omega)]; exact hm0 j hj
    · rw [n7 2 (by omega), n6 2 (by omega), n5 2 (by omega), n4 2 (by omega), n3 2 (by omega), n2 2 (by omega)]; exact a1 j hj
    · rw [n7 4 (by omega), n6 4 (by omega), n5 4 (by omega), n4 4 (by omega), n3 4 (by omega)]; exact a2 j hj
    · rw [n7 6 (by omega), n6 6 (by omega), n5 6 (by omega), n4 6 (by omega)]; exact a3 j hj
    · rw [n7 8 (by omega), n6 8 (by omega), n5 8 (by omega)]; exact a4 j hj
    · rw [n7 10 (by omega), n6 10 (by omega)]; exact a5 j hj
    · rw [n7 12 (by omega)]; exact a6 j hj
    · exact a7 j hj
  generalize M7 = G at h1 ⊢
  refine lp_fora (σ := XM) (n := 19) (fun (K : XM → Int32 → Option (XM)) a c => K a c) (fun i a => a.1 = G.1 ∧ ∀ j, j < i → a.2 15 j = d.2 15 j) _ ?_ ?_ x_NN G (by decide) ⟨rfl, fun k hk => absurd hk (Nat.not_lt_zero _)⟩
  · rintro K i a hi ⟨g1, g2⟩ ih
    show wp (f_X9_become_127 d K a (nI i)) _
    have hn : f_X9_nameAt d (nI i) = some (d.2 15 i) := by
      unfold f_X9_nameAt
      rw [if_neg (nI_pos (by omega)), if_neg (show ¬ (19 : Int32) ≤ nI i from nI_ge (b := 19) (by omega) (by omega)), ck_in hi (by omega), show x_gl d 15 (nI i) = d.2 15 i from by unfold x_gl; rw [nI_clamp (by omega)]]
    unfold f_X9_become_127
    rw [if_neg (show ¬ (19 : Int32) ≤ nI i from nI_ge (b := 19) (by omega) (by omega)), hn, bo_some, ck_in hi (by omega), lt_eq, nI_1, show x_pl a 15 (nI i) (d.2 15 i) = x_sl a 15 i (d.2 15 i) from by unfold x_pl; rw [nI_clamp (by omega)]]
    refine ih _ ⟨g1, fun j hj => ?_⟩
    by_cases c : j = i
    · subst c; exact sl_0
    · show (if 15 = 15 ∧ j = i then _ else a.2 15 j) = _
      rw [if_neg (fun q => c q.2)]; exact g2 j (by omega)
  · rintro K a ⟨g1, g2⟩
    show wp (f_X9_become_127 d K a (nI 19)) _
    unfold f_X9_become_127
    rw [if_pos (show (19 : Int32) ≤ nI 19 from nI_le (a := 19) (b := 19) (by omega) (by omega)), wp_some, g1]
    exact ⟨h1.1, h1.2.1, h1.2.2.1, h1.2.2.2, g2⟩
theorem c_begin (S V : XM) : ((f_X5_begin S V).1 0 0 = 0 ∧ (f_X5_begin S V).1 0 1 = -1 ∧ (f_X5_begin S V).1 0 2 = 0) ∧ (∀ j, j < 5 → (f_X5_begin S V).1 2 j = V.1 12 j ∧ (f_X5_begin S V).1 4 j = -1 ∧ (f_X5_begin S V).1 6 j = 0 ∧ (f_X5_begin S V).1 8 j = 0 ∧ (f_X5_begin S V).1 10 j = 0) ∧ (∀ j, j < 12 → (f_X5_begin S V).1 12 j = V.1 6 j ∧ (f_X5_begin S V).1 14 j = 0) := by
  simp only [f_X5_begin, lt_eq, put_bec, put_fill, Nat.reduceAdd, si_row]
  refine ⟨⟨?_, ?_, ?_⟩, fun j hj => ⟨?_, ?_, ?_, ?_, ?_⟩, fun j hj => ⟨?_, ?_⟩⟩
  · simp (disch := omega) only [row_off, row_at]; rw [up_ne (by omega), up_ne (by omega), up_eq]
  · simp (disch := omega) only [row_off, row_at]; rw [up_ne (by omega), up_eq]
  · simp (disch := omega) only [row_off, row_at]; rw [up_eq]
  all_goals simp (disch := omega) only [row_off, row_at, bec_in]
theorem c_found (u d : XM) : wp (f_X10_found u d) (fun U => (∀ j, j < 6 → U.1 1 j = d.1 0 j) ∧ (∀ j, j < 12 → U.1 3 j = d.1 2 j ∧ U.1 5 j = d.1 4 j ∧ U.1 7 j = d.1 6 j ∧ U.1 9 j = d.1 8 j) ∧ (∀ j, j < 6 → U.1 11 j = d.1 10 j) ∧ (∀ j, j < 5 → U.1 13 j = d.1 12 j ∧ U.1 15 j = d.1 14 j) ∧ (∀ i, i < 19 → U.2 16 i = d.2 15 i) ∧ (U.1 17 0 = 0 ∧ U.1 17 1 = -1 ∧ U.1 17 2 = 0) ∧ (∀ j, j < 5 → U.1 19 j = d.1 12 j ∧ U.1 21 j = -1 ∧ U.1 23 j = 0 ∧ U.1 25 j = 0 ∧ U.1 27 j = 0) ∧ (∀ j, j < 12 → U.1 29 j = d.1 6 j ∧ U.1 31 j = 0) ∧ U.1 32 0 = 0) := by
  obtain ⟨V, e, h1, h2, h3, h4, h5⟩ := c_becomeV (x_sub u 1) d
  unfold f_X10_found
  rw [e, bo_some]
  simp only [lt_eq]
  rw [wp_some]
  have b := c_begin (x_sub (x_put u 1 16 V) 17) (x_sub (x_put u 1 16 V) 1)
  generalize f_X5_begin (x_sub (x_put u 1 16 V) 17) (x_sub (x_put u 1 16 V) 1) = B at b ⊢
  generalize hS : f_X4_forget (x_sub (x_put (x_put u 1 16 V) 17 15 B) 32) = S
  have hS0 : S.1 0 0 = 0 := by
    subst hS
    unfold f_X4_forget
    simp only [lt_eq]
    rw [si_n (by omega), si_0]
  have eV : ∀ i, 1 ≤ i → i < 17 → (x_put (x_put (x_put u 1 16 V) 17 15 B) 32 9 S).1 i = V.1 (i - 1) := fun i p q => by
    rw [put_out (by omega), put_out (by omega), put_inn (by omega)]
  have eB : ∀ i, 17 ≤ i → i < 32 → (x_put (x_put (x_put u 1 16 V) 17 15 B) 32 9 S).1 i = B.1 (i - 17) := fun i p q => by
    rw [put_out (by omega), put_inn (by omega)]
  have e12 : (x_sub (x_put u 1 16 V) 1).1 12 = V.1 12 := put_inn (v := u) (u := V) (o := 1) (n := 16) (i := 13) (by omega)
  have e6 : (x_sub (x_put u 1 16 V) 1).1 6 = V.1 6 := put_inn (v := u) (u := V) (o := 1) (n := 16) (i := 7) (by omega)
  rw [e12, e6] at b
  refine ⟨fun j hj => ?_, fun j hj => ?_, fun j hj => ?_, fun j hj => ?_, fun i hi => ?_, ?_, fun j hj => ?_, fun j hj => ?_, ?_⟩
  · rw [eV 1 (by omega) (by omega)]; exact h1 j hj
  · rw [eV 3 (by omega) (by omega), eV 5 (by omega) (by omega), eV 7 (by omega) (by omega), eV 9 (by omega) (by omega)]; exact h2 j hj
  · rw [eV 11 (by omega) (by omega)]; exact h3 j hj
  · rw [eV 13 (by omega) (by omega), eV 15 (by omega) (by omega)]; exact h4 j hj
  · refine Eq.trans ?_ (h5 i hi)
    show (if 32 ≤ 16 ∧ 16 < 32 + 9 then S.2 (16 - 32) else if 17 ≤ 16 ∧ 16 < 17 + 15 then B.2 (16 - 17) else if 1 ≤ 16 ∧ 16 < 1 + 16 then V.2 (16 - 1) else u.2 16) i = V.2 15 i
    rw [if_neg (by omega), if_neg (by omega), if_pos (by omega)]
  · rw [eB 17 (by omega) (by omega)]; exact b.1
  · rw [eB 19 (by omega) (by omega), eB 21 (by omega) (by omega), eB 23 (by omega) (by omega), eB 25 (by omega) (by omega), eB 27 (by omega) (by omega), ← (h4 j hj).1]; exact b.2.1 j hj
  · rw [eB 29 (by omega) (by omega), eB 31 (by omega) (by omega), ← (h2 j hj).2.2.1]; exact b.2.2 j hj
  · rw [put_inn (by omega)]; exact hS0
/-- the reference's state at a VALLEY's start -/
def so0 (g : Nat → Int32) (j : Nat) : Int32 := if j = 71 then -1 else if 74 ≤ j ∧ j < 79 then g (j - 14) else if 79 ≤ j ∧ j < 84 then -1 else 0
theorem r_startSo (v : XM) : wp (f_X12_startSo v) (fun M => Fr [2] v M ∧ (∀ j, j < 70 → M.1 2 j = v.1 2 j) ∧ ∀ j, 70 ≤ j → j < 353 → M.1 2 j = so0 (v.1 2) j) := by
  unfold f_X12_startSo
  refine lp_from (σ := XM) (n := 353) (i0 := 70) (fun (K : XM → Int32 → Option (XM)) a c => K a c) (fun i a => 70 ≤ i ∧ Fr [2] v a ∧ (∀ j, j < 70 → a.1 2 j = v.1 2 j) ∧ ∀ j, 70 ≤ j → j < i → a.1 2 j = 0) _ ?_ ?_ (by omega) x_NN v (by decide) ⟨Nat.le_refl _, Fr.rf, fun _ _ => rfl, fun j p q => absurd q (by omega)⟩
  · rintro K i a hi ⟨g0, g1, g2, g3⟩ ih
    show wp (f_X12_startSo_3 K a (nI i)) _
    unfold f_X12_startSo_3
    rw [if_neg (show ¬ (353 : Int32) ≤ nI i from nI_ge (b := 353) (by omega) (by omega)), ck_in hi (by omega), lt_eq, pa_in (by omega), nI_1]
    refine ih _ ⟨by omega, g1.row (by simp), fun j hj => ?_, fun j p q => ?_⟩
    · rw [row_at, up_ne (by omega)]; exact g2 j hj
    · rw [row_at]
      by_cases c : j = i
      · subst c; rw [up_eq]
      · rw [up_ne c]; exact g3 j p (by omega)
  · rintro K a ⟨g0, g1, g2, g3⟩
    show wp (f_X12_startSo_3 K a (nI 353)) _
    unfold f_X12_startSo_3
    rw [if_pos (show (353 : Int32) ≤ nI 353 from nI_le (a := 353) (b := 353) (by omega) (by omega)), lt_eq, show x_pa a 2 71 (-1) = x_row a 2 (up (a.1 2) 71 (-1)) from pa_in (k := 71) (by omega)]
    refine lp_fora (σ := XM) (n := 5) (fun (K : XM → Int32 → Option (XM)) a c => K a c) (fun i b => Fr [2] v b ∧ (∀ j, j < 70 → b.1 2 j = v.1 2 j) ∧ ∀ j, 70 ≤ j → j < 353 → b.1 2 j = if j = 71 then -1 else if 74 ≤ j ∧ j < 74 + i then v.1 2 (j - 14) else if 79 ≤ j ∧ j < 79 + i then -1 else 0) _ ?_ ?_ x_NN _ (by decide) ⟨g1.row (by simp), fun j hj => by rw [row_at, up_ne (by omega)]; exact g2 j hj, fun j p q => ?_⟩
    · rintro K' i b hi ⟨k1, k2, k3⟩ ih
      show wp (f_X12_startSo_33 K' b (nI i)) _
      unfold f_X12_startSo_33
      rw [if_neg (show ¬ (5 : Int32) ≤ nI i from nI_ge (b := 5) (by omega) (by omega)), kl_60, kl_74, kl_79, nI_add, nI_add, nI_add, ck_in (by omega) (by omega), ck_in (by omega) (by omega), lt_eq, ck_in (by omega) (by omega), lt_eq, pa_in (by omega), pa_in (by omega), ga_in (by omega), nI_1, row_row, row_at]
      refine ih _ ⟨k1.row (by simp), fun j hj => ?_, fun j p q => ?_⟩
      · rw [row_at, up_ne (by omega), up_ne (by omega)]; exact k2 j hj
      · rw [row_at]
        by_cases c1 : j = 79 + i
        · rw [c1, up_eq, if_neg (by omega), if_neg (by omega), if_pos (by omega)]
        · rw [up_ne c1]
          by_cases c2 : j = 74 + i
          · rw [c2, up_eq, if_neg (by omega), if_pos (by omega), k2 _ (by omega), show 74 + i - 14 = 60 + i by omega]
          · rw [up_ne c2, k3 j p q]
            by_cases c3 : j = 71
            · rw [if_pos c3, if_pos c3]
            · rw [if_neg c3, if_neg c3]
              by_cases c4 : 74 ≤ j ∧ j < 74 + i
              · rw [if_pos c4, if_pos (show 74 ≤ j ∧ j < 74 + (i + 1) by omega)]
              · rw [if_neg c4, if_neg (show ¬ (74 ≤ j ∧ j < 74 + (i + 1)) by omega)]
                by_cases c5 : 79 ≤ j ∧ j < 79 + i
                · rw [if_pos c5, if_pos (show 79 ≤ j ∧ j < 79 + (i + 1) by omega)]
                · rw [if_neg c5, if_neg (show ¬ (79 ≤ j ∧ j < 79 + (i + 1)) by omega)]
    · rintro K' b ⟨k1, k2, k3⟩
      show wp (f_X12_startSo_33 K' b (nI 5)) _
      unfold f_X12_startSo_33
      rw [if_pos (show (5 : Int32) ≤ nI 5 from nI_le (a := 5) (b := 5) (by omega) (by omega)), wp_some]
      exact ⟨k1, k2, k3⟩
    · rw [row_at]
      by_cases c : j = 71
      · subst c; rw [up_eq, if_pos rfl]
      · rw [up_ne c, if_neg c, if_neg (by omega), if_neg (by omega)]; exact g3 j p q
end CI
