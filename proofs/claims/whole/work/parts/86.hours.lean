-- Hours, and hours that are drawn: both sides step by step.
/-- but for what deeds and hours change (and the seed) all is as it was -/
def SoU (u u' : XM) : Prop := Fr [0, 17, 19, 21, 23, 25, 27, 29, 31] u u'
def SoV (v v' : XM) : Prop := v'.2 = v.2 ∧ (∀ i, i ≠ 2 → i ≠ 0 → v'.1 i = v.1 i) ∧ (∀ j, j ≠ 37 → v'.1 0 j = v.1 0 j) ∧ ∀ j, j < 70 ∨ 111 ≤ j → v'.1 2 j = v.1 2 j
theorem SoU.rf {u : XM} : SoU u u := Fr.rf
theorem SoU.tr {u v w : XM} (h : SoU u v) (g : SoU v w) : SoU u w := Fr.tr h g
theorem SoU.of {u u' : XM} (h : Fr [17, 19, 21, 23, 25, 27, 29, 31] u u') : SoU u u' := h.mono (fun i hi => List.mem_cons_of_mem _ hi)
theorem SoV.rf {v : XM} : SoV v v := ⟨rfl, fun _ _ _ => rfl, fun _ _ => rfl, fun _ _ => rfl⟩
theorem SoV.tr {u v w : XM} (h : SoV u v) (g : SoV v w) : SoV u w := ⟨g.1.trans h.1, fun i a b => (g.2.1 i a b).trans (h.2.1 i a b), fun j a => (g.2.2.1 j a).trans (h.2.2.1 j a), fun j a => (g.2.2.2 j a).trans (h.2.2.2 j a)⟩
theorem SoV.row {v : XM} {N : Nat → Int32} (h : ∀ j, j < 70 ∨ 111 ≤ j → N j = v.1 2 j) : SoV v (x_row v 2 N) := ⟨rfl, fun i a _ => row_off a, fun j _ => by rw [row_off (by decide)], fun j hj => by rw [row_at]; exact h j hj⟩
section HR
variable {nS nF nT nW bB : Nat} {u v u' v' : XM}
theorem RS.congr {hd hd' so so' : Nat → Int32} {cs cs' : Nat → Nat → Int32} (h : RS nS nF nW bB hd cs so) (hc : ∀ i, i < 15 → cs' i = cs i) (hh : ∀ j, j < 70 → hd' j = hd j) (hs : ∀ j, j < 41 → so' j = so j) (hF : nF ≤ 12) (hW : nW ≤ 5) : RS nS nF nW bB hd' cs' so' := by
  obtain ⟨h1, h2, h3, h4, h5, h6, h7⟩ := h
  refine ⟨?_, ?_, ?_, ?_, ?_, ?_, ?_⟩
  · rw [hs 0 (by omega)]; exact h1
  · rw [hc 0 (by omega), hs 0 (by omega), hs 1 (by omega), hs 3 (by omega)]; exact h2
  · intro w hw
    rw [hc 2 (by omega), hc 4 (by omega), hc 6 (by omega), hc 8 (by omega), hc 10 (by omega), hs _ (by omega), hs _ (by omega), hs _ (by omega), hs _ (by omega), hs _ (by omega)]; exact h3 w hw
  · intro w hw
    rw [hs _ (by omega), hs _ (by omega), hs _ (by omega), hs _ (by omega)]; exact h4 w hw
  · intro w a b
    rw [hs _ (by omega), hs _ (by omega)]; exact h5 w a b
  · intro f hf
    have := h6 f hf
    unfold pd at this ⊢
    rw [hc 12 (by omega), hc 14 (by omega), hs _ (by omega), hs _ (by omega), hh _ (by omega)]; exact this
  · intro f a b
    rw [hs _ (by omega)]; exact h7 f a b
theorem RW.cong (h : RW nS nF nT nW bB u v) (hu : ∀ i, 1 ≤ i → i ≤ 31 → u'.1 i = u.1 i) (hv : ∀ j, j < 111 → v'.1 2 j = v.1 2 j) : RW nS nF nT nW bB u' v' := by
  have hb := h.b
  exact ⟨h.1.congr (fun i hi => hu (i + 1) (by omega) (by omega)) (fun j hj => hv j (by omega)), h.2.congr (fun i hi => hu (i + 17) (by omega) (by omega)) (fun j hj => hv j (by omega)) (fun j hj => hv (70 + j) (by omega)) (by omega) (by omega)⟩
theorem nI_m1 {n : Nat} (h : 1 ≤ n) : nI n + (-1) = nI (n - 1) ∧ nI n - 1 = nI (n - 1) := by
  obtain ⟨m, rfl⟩ : ∃ m, n = m + 1 := ⟨n - 1, by omega⟩
  exact ⟨pk_m1 m, nI_pred m⟩
theorem step_goes (h : RW nS nF nT nW bB u v) {w : Nat} (hw : w < nW) : ∃ u' v', (∀ K, f_X10_passHour_2 K u (nI w) = K u' (nI (w + 1))) ∧ f_X12_goesOn v (nI w) = some v' ∧ RW nS nF nT nW bB u' v' ∧ SoU u u' ∧ SoV v v' ∧ v'.1 2 70 = v.1 2 70 ∧ v'.1 0 = v.1 0 ∧ u'.1 0 = u.1 0 := by
  have hb := h.b
  obtain ⟨s, l, t, q1, q2, q3, q4, q5, q6, q7⟩ := h.wlk hw
  cases hg : goB v w with
  | false =>
    refine ⟨u, v, fun K => ?_, ?_, h, SoU.rf, SoV.rf, rfl, rfl, rfl⟩
    · unfold f_X10_passHour_2 f_X10_passHour_84
      rw [h.u3, if_neg (nI_ge hw (by omega)), lt_eq, c_isGoing h hw, hg, if_pos bIf, nI_1]
    · unfold f_X12_goesOn
      rw [r_isGoing (by omega), bo_some, hg, if_pos bIf]
  | true =>
    have hal : ¬ v.1 2 (79 + w) = -1 := by
      unfold goB at hg
      intro q
      rw [q] at hg
      exact absurd hg (by decide)
    have hl : 1 ≤ l := by
      rcases Nat.eq_zero_or_pos l with z | z
      · exact absurd (q7.mp z) hal
      · exact z
    have e25 : u.1 25 w = nI t := (h.tired hw).trans q6
    have e23 : u.1 23 w = nI l := (h.left hw).trans q5
    have p1 : x_put u 24 2 (r_add 5 (x_sub u 24) (nI w) 1) = x_row u 25 (up (u.1 25) w (nI (t + 1))) := by
      rw [put_radd (by omega) (by omega)]
      show x_row u 25 (up (u.1 25) w (u.1 25 w + 1)) = _
      rw [e25, nI_1]
    have p2 : x_put (x_row u 25 (up (u.1 25) w (nI (t + 1)))) 22 2 (r_add 5 (x_sub (x_row u 25 (up (u.1 25) w (nI (t + 1)))) 22) (nI w) (-1)) = x_row (x_row u 25 (up (u.1 25) w (nI (t + 1)))) 23 (up (u.1 23) w (nI (l - 1))) := by
      rw [put_radd (by omega) (by omega)]
      show x_row _ 23 (up ((x_row u 25 (up (u.1 25) w (nI (t + 1)))).1 23) w ((x_row u 25 (up (u.1 25) w (nI (t + 1)))).1 23 w + -1)) = _
      rw [row_off (by omega), e23, (nI_m1 hl).1]
    by_cases c : l - 1 = 0
    · refine ⟨x_si (x_row (x_row (x_row u 25 (up (u.1 25) w (nI (t + 1)))) 23 (up (u.1 23) w (nI (l - 1)))) 21 (up (u.1 21) w (-1))) 17 2 (u.1 17 2 + 1), x_row v 2 (up (up (up (up (v.1 2) (89 + w) (nI (t + 1))) (84 + w) (nI (l - 1))) (79 + w) (-1)) 73 (v.1 2 73 + 1)), fun K => ?_, ?_, ?_, ?_, ?_, ?_, ?_, ?_⟩
      · unfold f_X10_passHour_2 f_X10_passHour_84
        rw [h.u3, if_neg (nI_ge hw (by omega)), lt_eq, c_isGoing h hw, hg, if_neg (show ¬ bI true = 0 by decide)]
        simp only [lt_eq, p1, p2]
        rw [rg_in (by omega) (by omega)]
        have e : (x_sub (x_row (x_row u 25 (up (u.1 25) w (nI (t + 1)))) 23 (up (u.1 23) w (nI (l - 1)))) 22).1 1 w = nI (l - 1) := by
          show (x_row (x_row u 25 (up (u.1 25) w (nI (t + 1)))) 23 (up (u.1 23) w (nI (l - 1)))).1 23 w = _
          rw [row_at, up_eq]
        rw [e, c, if_pos (show nI 0 = 0 from rfl), put_rput (by omega) (by omega), nI_1]
        rfl
      · unfold f_X12_goesOn
        rw [r_isGoing (by omega), bo_some, hg, if_neg (show ¬ bI true = 0 by decide)]
        simp only [lt_eq, kl_89, kl_84, kl_79, kl_73, nI_add]
        simp (disch := omega) only [ck_in, pa_in, ga_in, row_at, row_row, up_ne, q6, q5]
        rw [nI_1, (nI_m1 hl).2, up_eq, if_pos (by rw [c]; decide)]
      · refine h.step (fun i hi => ?_) (fun j hj => ?_) ?_ ?_ (fun w' hw' => ?_) (fun w' h1 h2 => ?_) (fun f' hf' => ?_) (fun f' h1 h2 => ?_)
        · simp (disch := omega) only [si_row, row_off]
        · simp (disch := omega) only [row_at, up_ne]
        · simp (disch := omega) only [row_at, up_ne]; exact h.hourN
        · simp (disch := omega) only [si_row, row_at, row_off, up_eq, up_ne]; rw [h.gone]; exact ⟨h.hour, h.mood, rfl⟩
        · by_cases c2 : w' = w
          · subst c2
            refine ⟨?_, s, l - 1, t + 1, q1, by omega, by omega, ?_, ?_, ?_, ?_⟩
            · simp (disch := omega) only [si_row, row_at, row_off, up_eq, up_ne]
              exact ⟨h.at_ hw', trivial, trivial, trivial, h.known hw'⟩
            · simp (disch := omega) only [row_at, up_eq, up_ne]; exact q4
            · simp (disch := omega) only [row_at, up_eq, up_ne]
            · simp (disch := omega) only [row_at, up_eq, up_ne]
            · simp (disch := omega) only [row_at, up_eq, up_ne, c, true_iff]
          · refine (h.wc hw').congr ?_ ?_ <;> simp (disch := omega) only [si_row, row_at, row_off, up_eq, up_ne, and_self]
        · have ho := h.out h1 h2
          simp (disch := omega) only [row_at, up_ne]; exact ho
        · refine (h.fc hf').congr ?_ ?_ <;> simp (disch := omega) only [si_row, row_at, row_off, up_eq, up_ne, and_self]
        · simp (disch := omega) only [row_at, up_ne]; exact h.slpO h1 h2
      · exact SoU.of ((((Fr.rf.row (by decide)).row (by decide)).row (by decide)).si (by decide))
      · exact SoV.row (fun j hj => by simp (disch := omega) only [up_ne])
      · simp (disch := omega) only [row_at, up_ne]
      · rfl
      · simp (disch := omega) only [si_row, row_off]
    · refine ⟨x_row (x_row u 25 (up (u.1 25) w (nI (t + 1)))) 23 (up (u.1 23) w (nI (l - 1))), x_row v 2 (up (up (v.1 2) (89 + w) (nI (t + 1))) (84 + w) (nI (l - 1))), fun K => ?_, ?_, ?_, ?_, ?_, ?_, ?_, ?_⟩
      · unfold f_X10_passHour_2 f_X10_passHour_84
        rw [h.u3, if_neg (nI_ge hw (by omega)), lt_eq, c_isGoing h hw, hg, if_neg (show ¬ bI true = 0 by decide)]
        simp only [lt_eq, p1, p2]
        rw [rg_in (by omega) (by omega)]
        have e : (x_sub (x_row (x_row u 25 (up (u.1 25) w (nI (t + 1)))) 23 (up (u.1 23) w (nI (l - 1)))) 22).1 1 w = nI (l - 1) := by
          show (x_row (x_row u 25 (up (u.1 25) w (nI (t + 1)))) 23 (up (u.1 23) w (nI (l - 1)))).1 23 w = _
          rw [row_at, up_eq]
        rw [e, if_neg (nI_ne0 (by omega) (by omega)), nI_1]
      · unfold f_X12_goesOn
        rw [r_isGoing (by omega), bo_some, hg, if_neg (show ¬ bI true = 0 by decide)]
        simp only [lt_eq, kl_89, kl_84, kl_79, kl_73, nI_add]
        simp (disch := omega) only [ck_in, pa_in, ga_in, row_at, row_row, up_ne, q6, q5]
        rw [nI_1, (nI_m1 hl).2, up_eq, if_neg (nI_nle (by omega) (by omega))]
      · refine h.step (fun i hi => ?_) (fun j hj => ?_) ?_ ?_ (fun w' hw' => ?_) (fun w' h1 h2 => ?_) (fun f' hf' => ?_) (fun f' h1 h2 => ?_)
        · simp (disch := omega) only [row_off]
        · simp (disch := omega) only [row_at, up_ne]
        · simp (disch := omega) only [row_at, up_ne]; exact h.hourN
        · simp (disch := omega) only [row_at, row_off, up_eq, up_ne]; exact ⟨h.hour, h.mood, h.gone⟩
        · by_cases c2 : w' = w
          · subst c2
            refine ⟨?_, s, l - 1, t + 1, q1, by omega, by omega, ?_, ?_, ?_, ?_⟩
            · simp (disch := omega) only [row_at, row_off, up_eq, up_ne]
              exact ⟨h.at_ hw', h.along hw', trivial, trivial, h.known hw'⟩
            · simp (disch := omega) only [row_at, up_eq, up_ne]; exact q4
            · simp (disch := omega) only [row_at, up_eq, up_ne]
            · simp (disch := omega) only [row_at, up_eq, up_ne]
            · simp (disch := omega) only [row_at, up_eq, up_ne]
              exact ⟨fun z => absurd z c, fun z => absurd z hal⟩
          · refine (h.wc hw').congr ?_ ?_ <;> simp (disch := omega) only [row_at, row_off, up_eq, up_ne, and_self]
        · have ho := h.out h1 h2
          simp (disch := omega) only [row_at, up_ne]; exact ho
        · refine (h.fc hf').congr ?_ ?_ <;> simp (disch := omega) only [row_at, row_off, up_eq, up_ne, and_self]
        · simp (disch := omega) only [row_at, up_ne]; exact h.slpO h1 h2
      · exact SoU.of ((Fr.rf.row (by decide)).row (by decide))
      · exact SoV.row (fun j hj => by simp (disch := omega) only [up_ne])
      · simp (disch := omega) only [row_at, up_ne]
      · rfl
      · simp (disch := omega) only [row_off]
end HR
