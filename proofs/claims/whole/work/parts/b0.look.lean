-- meet.
/-- the class's and the reference's best so far -/
def LM (c d : Nat) : Prop := (c = d ∧ c ≤ 63) ∨ (c = 65536 ∧ d = 100000)
theorem LM_of {d : Nat} (h : d ≤ 6307 ∨ d = 100000) : LM (cH d) (hN d) := by
  unfold LM cH hN
  split <;> omega
section ME
variable {nS nF nT nW bB : Nat} {u w v m : XM}
theorem b_meet (h : RelN nS nF nT nW bB w v) (x y : Int32) : R2 (f_X11_meet w x y) (f_X12_meet v x y) Both := by
  have h1 := h.th (x := 0)
  have hb := h.1.1.1
  unfold f_X11_meet f_X12_meet
  simp only [lt_eq]
  generalize x_si v 0 0 0 = v1 at h1 ⊢
  have r := h1.rw
  rcases h_still h1 x with ⟨i, hi, rfl, e1, e2⟩ | ⟨e1, e2⟩
  · rw [e1, e2, if_neg one0, bo_some, if_neg one0]
    rcases h_still h1 y with ⟨j, hj, rfl, e3, e4⟩ | ⟨e3, e4⟩
    · rw [e3, e4, if_neg one0, bo_some, if_neg one0]
      obtain ⟨q1, q2, q3, q4, q5, -, -⟩ := wkN r hi
      obtain ⟨t1, t2, t3, t4, t5, -, -⟩ := wkN r hj
      generalize hp : paN v1 i = p at q3 q4 q5
      generalize hs : atN v1 i = s at q1 q2
      generalize hp' : paN v1 j = p' at t3 t4 t5
      generalize hs' : atN v1 j = s' at t1 t2
      obtain ⟨a1, e5, C, rfl, hC⟩ := c_spread (v0 := x_sub (x_sub w 300) 0) (w0 := x_sub (x_sub w 300) 1) r q3 q4 q1 (far_D r q3 q4 q1).2
      obtain ⟨a2, e6, C', rfl, hC'⟩ := c_spread (v0 := x_sub (x_row (x_sub w 300) (1 + 1) C) 0) (w0 := x_sub (x_row (x_sub w 300) (1 + 1) C) 3) r t3 t4 t1 (far_D r t3 t4 t1).2
      have e7 : f_X2_findMeeting (x_sub w 300) (x_sub w 5) (nI i) (nI j) = x_lp (φ := XM → Int32 → Int32 → Option (Int32 × XM)) (fun _ _ _ => none) (f_X2_findMeeting_69 (x_sub w 5)) x_NN (x_row (x_row (x_sub w 300) 2 C) 4 C') (nI 65536) 0 := by
        unfold f_X2_findMeeting
        simp only [lt_eq]
        rw [rg_in (by omega) (by omega), rg_in (by omega) (by omega), rg_in (by omega) (by omega), rg_in (by omega) (by omega), show (x_sub (x_sub w 5) 18).1 1 i = nI s from (r.at_ hi).trans q2, show (x_sub (x_sub w 5) 14).1 1 i = nI p from (r.pace hi).trans q5, e5, bo_some, put_row (by omega), show (x_sub (x_sub w 5) 18).1 1 j = nI s' from (r.at_ hj).trans t2, show (x_sub (x_sub w 5) 14).1 1 j = nI p' from (r.pace hj).trans t5, e6, bo_some, put_row (by omega)]
        rfl
      rw [e7]
      have key : R2 (x_lp (φ := XM → Int32 → Int32 → Option (Int32 × XM)) (fun _ _ _ => none) (f_X2_findMeeting_69 (x_sub w 5)) x_NN (x_row (x_row (x_sub w 300) 2 C) 4 C') (nI 65536) 0) (x_lp (φ := XM → Int32 → Int32 → Int32 → Int32 → Option (Int32 × XM)) (fun _ _ _ _ _ => none) (f_X12_meet_30) x_NN v1 (nI i) (nI j) (nI 100000) 0) (fun a b => a.1 = b.1 ∧ Rel (x_put w 300 15 a.2) b.2) := by
        refine lp2_ind (σ := XM × XM × Nat × Nat × Nat) (fun (K : XM → Int32 → Int32 → Option (Int32 × XM)) z => K z.1 (nI z.2.2.1) (nI z.2.2.2.2)) (fun (K : XM → Int32 → Int32 → Int32 → Int32 → Option (Int32 × XM)) z => K z.2.1 (nI i) (nI j) (nI z.2.2.2.1) (nI z.2.2.2.2)) (fun n z => z.2.2.2.2 + n = nS ∧ LM z.2.2.1 z.2.2.2.1 ∧ Fr [0, 2, 4] (x_sub w 300) z.1 ∧ z.1.1 2 = C ∧ z.1.1 4 = C' ∧ Fr [0, 11] v1 z.2.1 ∧ (∀ j, j ≠ 9 → z.1.1 0 j = (x_sub w 300).1 0 j) ∧ (∀ j, j ≠ 32 → z.2.1.1 0 j = v1.1 0 j) ∧ z.1.1 0 9 = z.2.1.1 0 32) _ ?_ x_NN x_NN nS (x_row (x_row (x_sub w 300) 2 C) 4 C', v1, 65536, 100000, 0) (by show nS < 1000000; omega) (by show nS < 1000000; omega) ⟨by show 0 + nS = nS; omega, Or.inr ⟨rfl, rfl⟩, (Fr.rf.row (by simp)).row (by simp), rfl, rfl, Fr.rf, fun _ _ => rfl, fun _ _ => rfl, h1.road.2.2.1.1⟩
        rintro n K K' ⟨M, m, c, d, l⟩ ⟨hn, hl, g1, g2, g3, g4, g5, g6, g7⟩ ih
        dsimp only at hn hl g1 g2 g3 g4 g5 g6 g7
        show R2 (f_X2_findMeeting_69 (x_sub w 5) K M (nI c) (nI l)) (f_X12_meet_30 K' m (nI i) (nI j) (nI d) (nI l)) _
        have em : m.1 2 = v1.1 2 := g4.2 2 (by simp)
        have rm : RW nS nF nT nW bB (x_sub w 5) m := r.of em
        have hcd : c ≤ 65536 ∧ d ≤ 100000 := by unfold LM at hl; omega
        unfold f_X2_findMeeting_69 f_X12_meet_30
        rw [show (x_sub w 5).1 1 0 = nI nS from r.u0, show x_ga m 2 (0 : Int32) = nI nS from by rw [kl_0, ga_in (by omega)]; exact rm.v0]
        by_cases cl : nS ≤ l
        · rw [if_pos (nI_le cl (by omega)), if_pos (nI_le cl (by omega))]
          have hR : RelN nS nF nT nW bB (x_put w 300 15 M) m := by
            obtain ⟨r1, r2, r3, r4⟩ := h1.road
            have e300 : (x_put w 300 15 M).1 300 = M.1 0 := put_inn (by omega)
            have eo : ∀ q, q < 15 → q ≠ 0 → q ≠ 2 → q ≠ 4 → (x_put w 300 15 M).1 (300 + q) = w.1 (300 + q) := fun q z1 z2 z3 z4 => by
              rw [put_inn (by omega), show 300 + q - 300 = q by omega, g1.2 q (by simp; omega)]
              show w.1 (q + 300) = _
              rw [Nat.add_comm]
            refine h1.rd (put_2 g1.1) (fun i a b c c' d e => ?_) ⟨by rw [g4.1], by rw [g4.1]⟩ ⟨g4.2 1 (by simp), g4.2 2 (by simp), g4.2 4 (by simp), g4.2 5 (by simp), g4.2 10 (by simp), g4.2 16 (by simp), g4.2 18 (by simp)⟩ (fun j hj a b c d e => g6 j c) ⟨?_, ?_, ?_, ?_⟩
            · by_cases q : 300 ≤ i ∧ i < 300 + 15
              · have z1 : i ≠ 302 := fun z => by subst z; unfold scrW at b; omega
                have z2 : i ≠ 304 := fun z => by subst z; unfold scrW at b; omega
                have := eo (i - 300) (by omega) (by omega) (by omega) (by omega)
                rwa [show 300 + (i - 300) = i by omega] at this
              · exact put_out q
            · rw [e300, g5 6 (by omega), g6 27 (by omega), g4.2 12 (by simp), eo 12 (by omega) (by omega) (by omega) (by omega)]; exact r1
            · rw [e300, g5 8 (by omega), g6 31 (by omega), g4.2 15 (by simp), eo 14 (by omega) (by omega) (by omega) (by omega)]; exact r2
            · rw [e300, g5 10 (by omega), g5 11 (by omega), g6 33 (by omega), g6 34 (by omega)]; exact ⟨g7, r3.2⟩
            · rw [eo 8 (by omega) (by omega) (by omega) (by omega)]; exact r4
          rcases hl with ⟨z1, z2⟩ | ⟨z1, z2⟩
          · rw [if_neg (fun q => by rw [kl_65536, nI_leI (by omega) (by omega)] at q; omega), if_neg (fun q => by rw [kl_100000] at q; have := nI_iff (by omega) (by omega) q; omega)]
            exact R2_some ⟨congrArg nI z1, hR.rel⟩
          · rw [if_pos (by rw [z1]; decide), if_pos (by rw [z2]; rfl)]
            exact R2_some ⟨rfl, hR.rel⟩
        · have hl' : l < nS := by omega
          rw [if_neg (nI_ge hl' (by omega)), if_neg (nI_ge hl' (by omega)), lt_eq, lt_eq, lt_eq, c_hoursTo (C := C) (by omega) (show (x_sub M 1).1 1 l = _ from (congrFun g2 l).trans (hC l hl')) (fun q => ((far_D r q3 q4 q1).2.st (gE_EP r q3 q4) hb.1 hl' q).1), show f_X2_hoursTo (x_sub M 3) (nI l) = _ from c_hoursTo (m := x_sub M 2) (C := C') (by omega) (show (x_sub M 3).1 1 l = _ from (congrFun g3 l).trans (hC' l hl')) (fun q => ((far_D r t3 t4 t1).2.st (gE_EP r t3 t4) hb.1 hl' q).1)]
          obtain ⟨⟨b1, f1, G1, rfl, k1⟩, -⟩ := far_D rm q3 q4 hl'
          obtain ⟨⟨b2, f2, G2, rfl, k2⟩, -⟩ := far_D (rm.of (m := x_row m 11 G1) rfl) t3 t4 hl'
          rw [row_row] at f2
          have d1 : farO m l p s = farO v1 s p l := (far_congr r em q3 q4 hl' q1).trans (far_back r q3 q4 hl' q1)
          have em1 : (x_row m 11 G1).1 2 = v1.1 2 := em
          have d2 : farO (x_row m 11 G1) l p' s' = farO v1 s' p' l := (far_congr r em1 t3 t4 hl' t1).trans (far_back r t3 t4 hl' t1)
          have l1 := far_le r q3 q4 q1 hl'
          have l2 := far_le r t3 t4 t1 hl'
          rw [kl_65, nI_add, nI_add, ck_in (by omega) (by omega), ga_in (by omega), em, q5, f1, bo_some, kl_74, nI_add, nI_add, ck_in (by omega) (by omega), ga_in (by omega), show (x_row m 11 G1).1 2 (74 + i) = nI s from (congrFun em _).trans q2, r_hoursFrom (d := farO v1 s p l) (by omega) (by rw [k1 s q1, d1]) (by omega), bo_some, ck_in (by omega) (by omega), ga_in (by omega), show (x_row m 11 G1).1 2 (65 + j) = nI p' from (congrFun em _).trans t5, f2, bo_some, ck_in (by omega) (by omega), ga_in (by omega), show (x_row m 11 G2).1 2 (74 + j) = nI s' from (congrFun em _).trans t2, r_hoursFrom (d := farO v1 s' p' l) (by omega) (by rw [k2 s' t1, d2]) (by omega), bo_some]
          have m1 := LM_of l1
          have m2 := LM_of l2
          rw [show (if farO v1 s p l < 100000 then farO v1 s p l / 100 else 65536) = cH (farO v1 s p l) from rfl, show (if farO v1 s' p' l < 100000 then farO v1 s' p' l / 100 else 65536) = cH (farO v1 s' p' l) from rfl]
          generalize cH (farO v1 s p l) = A at m1 ⊢
          generalize cH (farO v1 s' p' l) = B at m2 ⊢
          generalize hN (farO v1 s p l) = A' at m1 ⊢
          generalize hN (farO v1 s' p' l) = B' at m2 ⊢
          have hA : A ≤ 65536 ∧ A' ≤ 100000 := by unfold LM at m1; omega
          have hB : B ≤ 65536 ∧ B' ≤ 100000 := by unfold LM at m2; omega
          have x1 : (if nI A < nI B then nI B else nI A) = nI (if A < B then B else A) := by
            by_cases z : A < B
            · rw [if_pos z, if_pos (nI_lt z (by omega))]
            · rw [if_neg z, if_neg (fun q => z (by rw [nI_ltI (by omega) (by omega)] at q; exact q))]
          have x2 : (if nI A' ≤ nI B' then f_X12_meet_115 K' (x_row m 11 G2) (nI i) (nI j) (nI d) (nI l) (nI B') else f_X12_meet_115 K' (x_row m 11 G2) (nI i) (nI j) (nI d) (nI l) (nI A')) = f_X12_meet_115 K' (x_row m 11 G2) (nI i) (nI j) (nI d) (nI l) (nI (if A' ≤ B' then B' else A')) := by
            by_cases z : A' ≤ B'
            · rw [if_pos z, if_pos (nI_le z (by omega))]
            · rw [if_neg z, if_neg (fun q => z (by rw [nI_leI (by omega) (by omega)] at q; exact q))]
          have m3 : LM (if A < B then B else A) (if A' ≤ B' then B' else A') := by
            unfold LM at m1 m2 ⊢
            split <;> split <;> omega
          rw [x1, x2, lt_eq]
          generalize (if A < B then B else A) = E at m3 ⊢
          generalize (if A' ≤ B' then B' else A') = E' at m3 ⊢
          have hE : E ≤ 65536 ∧ E' ≤ 100000 := by unfold LM at m3; omega
          unfold f_X12_meet_115 f_X12_meet_135 f_X2_findMeeting_121
          by_cases z : c ≤ E
          · have z2 : ¬ E' < d := by unfold LM at hl m3; omega
            rw [if_pos (nI_le z (by omega)), if_neg (fun q => z2 (by rw [nI_ltI (by omega) (by omega)] at q; exact q)), nI_1]
            exact ih (n - 1) (M, x_row m 11 G2, c, d, l + 1) (by omega) ⟨by show l + 1 + (n - 1) = nS; omega, hl, g1, g2, g3, g4.row (by simp), g5, g6, g7⟩
          · have z2 : E' < d := by unfold LM at hl m3; omega
            rw [if_neg (fun q => z (by rw [nI_leI (by omega) (by omega)] at q; exact q)), if_pos (nI_lt z2 (by omega)), nI_1, lt_eq, si_row, si_row]
            refine ih (n - 1) (x_row M 0 (up (M.1 0) 9 (nI l)), x_row (x_row m 11 G2) 0 (up ((x_row m 11 G2).1 0) 32 (nI l)), E, E', l + 1) (by omega) ⟨by show l + 1 + (n - 1) = nS; omega, m3, g1.row (by simp), g2, g3, (g4.row (by simp)).row (by simp), fun j hj => ?_, fun j hj => ?_, ?_⟩
            · rw [row_at, up_ne hj]; exact g5 j hj
            · rw [row_at, up_ne hj]; exact g6 j hj
            · rw [row_at, row_at, up_eq, up_eq]
      obtain ⟨a, b, k1, k2, k3, k4⟩ := key
      rw [kl_100000, k1, k2, bo_some]
      exact R2_some ⟨k3, k4⟩
    · rw [e3, e4, if_pos rfl, bo_some, if_pos rfl]
      exact R2_some ⟨rfl, h1.rel⟩
  · rw [e1, e2, if_pos rfl, bo_some, if_pos rfl]
    exact R2_some ⟨rfl, h1.rel⟩
end ME
