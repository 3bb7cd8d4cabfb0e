-- An hour, hours: both sides.
def dc (x : Int32) : Int32 := if x ≤ 0 then x else x - 1
section HS
variable {nS nF nT nW bB : Nat} {u v u' v' : XM}
theorem add_m1 (x : Int32) : x + (-1) = x - 1 := (Int32.sub_eq_add_neg x 1).symm
theorem c_foldsLoop (hF : u.1 1 1 = nI nF) (hb : nF ≤ 12) : wp (x_lp (φ := XM → Int32 → Option XM) (fun _ _ => none) f_X10_passHour_92 x_NN u 0) (fun r => ∃ g, r = x_si (x_row u 31 g) 17 0 (u.1 17 0 + 1) ∧ ∀ f, g f = if f < nF then dc (u.1 31 f) else u.1 31 f) := by
  refine lp_for (n := nF) (fun i a => ∃ g, a = x_row u 31 g ∧ ∀ f, g f = if f < i then dc (u.1 31 f) else u.1 31 f) _ (fun K i a hi hP ih => ?_) (fun K a hP => ?_) x_NN u (by unfold x_NN; omega) ⟨u.1 31, row_self.symm, fun f => by rw [if_neg (by omega)]⟩
  · obtain ⟨g, rfl, hg⟩ := hP
    have e : r_get 12 (x_sub (x_row u 31 g) 30) (nI i) = u.1 31 i := by
      rw [rg_in (by omega) (by omega)]
      show (x_row u 31 g).1 31 i = _
      rw [row_at, hg, if_neg (by omega)]
    unfold f_X10_passHour_92 f_X10_passHour_129
    rw [show (x_row u 31 g).1 1 1 = nI nF from hF, if_neg (nI_ge hi (by omega)), lt_eq, e, nI_1]
    by_cases c : u.1 31 i ≤ 0
    · rw [if_pos c]
      refine ih _ ⟨g, rfl, fun f => ?_⟩
      rw [hg]
      by_cases c2 : f = i
      · subst c2; rw [if_neg (by omega), if_pos (by omega)]; unfold dc; rw [if_pos c]
      · by_cases c3 : f < i
        · rw [if_pos c3, if_pos (by omega)]
        · rw [if_neg c3, if_neg (by omega)]
    · rw [if_neg c]
      simp only [lt_eq]
      rw [put_radd (by omega) (by omega)]
      refine ih _ ⟨up g i (u.1 31 i - 1), ?_, fun f => ?_⟩
      · show x_row (x_row u 31 g) 31 (up ((x_row u 31 g).1 31) i ((x_row u 31 g).1 31 i + -1)) = _
        rw [row_row, row_at, hg, if_neg (by omega), add_m1]
      · by_cases c2 : f = i
        · subst c2; rw [up_eq, if_pos (by omega)]; unfold dc; rw [if_neg c]
        · rw [up_ne c2, hg]
          by_cases c3 : f < i
          · rw [if_pos c3, if_pos (by omega)]
          · rw [if_neg c3, if_neg (by omega)]
  · obtain ⟨g, rfl, hg⟩ := hP
    unfold f_X10_passHour_92
    rw [show (x_row u 31 g).1 1 1 = nI nF from hF, if_pos (nI_le (by omega) (by omega)), lt_eq, wp_some]
    exact ⟨g, rfl, hg⟩
theorem r_foldsLoop : wp (x_lp (φ := XM → Int32 → Option XM) (fun _ _ => none) f_X12_oneHour_25 x_NN v 0) (fun r => ∃ N, r = x_row v 2 N ∧ ∀ j, N j = if j = 70 then v.1 2 70 + 1 else if 99 ≤ j ∧ j < 111 then dc (v.1 2 j) else v.1 2 j) := by
  refine lp_for (n := 12) (fun i a => ∃ N, a = x_row v 2 N ∧ ∀ j, N j = if 99 ≤ j ∧ j < 99 + i then dc (v.1 2 j) else v.1 2 j) _ (fun K i a hi hP ih => ?_) (fun K a hP => ?_) x_NN v (by unfold x_NN; omega) ⟨v.1 2, row_self.symm, fun f => by rw [if_neg (by omega)]⟩
  · obtain ⟨N, rfl, hN⟩ := hP
    have e : x_ga (x_row v 2 N) 2 (nI (99 + i)) = v.1 2 (99 + i) := by
      rw [ga_in (by omega), row_at, hN, if_neg (by omega)]
    unfold f_X12_oneHour_25 f_X12_oneHour_56
    rw [kl_12, if_neg (nI_ge hi (by omega)), kl_99, nI_add, ck_in (by omega) (by omega), e, nI_1, ck_in (by omega) (by omega), lt_eq, ck_in (by omega) (by omega), lt_eq]
    by_cases c : v.1 2 (99 + i) ≤ 0
    · rw [if_pos c]
      refine ih _ ⟨N, rfl, fun f => ?_⟩
      rw [hN]
      by_cases c2 : f = 99 + i
      · subst c2; rw [if_neg (by omega), if_pos (by omega)]; unfold dc; rw [if_pos c]
      · by_cases c3 : 99 ≤ f ∧ f < 99 + i
        · rw [if_pos c3, if_pos (by omega)]
        · rw [if_neg c3, if_neg (by omega)]
    · rw [if_neg c, pa_in (by omega), row_row, row_at]
      refine ih _ ⟨up N (99 + i) (v.1 2 (99 + i) - 1), rfl, fun f => ?_⟩
      by_cases c2 : f = 99 + i
      · subst c2; rw [up_eq, if_pos (by omega)]; unfold dc; rw [if_neg c]
      · rw [up_ne c2, hN]
        by_cases c3 : 99 ≤ f ∧ f < 99 + i
        · rw [if_pos c3, if_pos (by omega)]
        · rw [if_neg c3, if_neg (by omega)]
  · obtain ⟨N, rfl, hN⟩ := hP
    unfold f_X12_oneHour_25
    rw [kl_12, if_pos (nI_le (by omega) (by omega)), lt_eq, kl_70, pa_in (by omega), ga_in (by omega), row_row, row_at, wp_some]
    refine ⟨_, rfl, fun j => ?_⟩
    by_cases c : j = 70
    · subst c; rw [up_eq, if_pos rfl, hN, if_neg (by omega)]
    · rw [up_ne c, if_neg c, hN]
/-- an hour has gone on both sides -/
def HourQ (nS nF nT nW bB : Nat) (u v u' v' : XM) : Prop := RW nS nF nT nW bB u' v' ∧ SoU u u' ∧ SoV v v' ∧ v'.1 2 70 = v.1 2 70 + 1 ∧ v'.1 0 = v.1 0 ∧ u'.1 0 = u.1 0
theorem dcN {n : Nat} (h : n ≤ 30) : ∃ m, m ≤ 30 ∧ dc (nI n) = nI m := by
  unfold dc
  by_cases c : nI n ≤ 0
  · rw [if_pos c]; exact ⟨n, h, rfl⟩
  · rw [if_neg c]
    have : 1 ≤ n := by
      rcases Nat.eq_zero_or_pos n with z | z
      · subst z; exact absurd (by decide) c
      · exact z
    exact ⟨n - 1, by omega, (nI_m1 this).2⟩
theorem both_folds (h : RW nS nF nT nW bB u v) (hh : ∃ n, n < 400 ∧ v.1 2 70 = nI n) : R2 (x_lp (φ := XM → Int32 → Option XM) (fun _ _ => none) f_X10_passHour_92 x_NN u 0) (x_lp (φ := XM → Int32 → Option XM) (fun _ _ => none) f_X12_oneHour_25 x_NN v 0) (HourQ nS nF nT nW bB u v) := by
  have hb := h.b
  obtain ⟨n, hn, hn2⟩ := hh
  obtain ⟨r, e1, g, rfl, hg⟩ := c_foldsLoop h.u1 (by omega)
  obtain ⟨s, e2, N, rfl, hN⟩ := r_foldsLoop (v := v)
  refine ⟨_, _, e1, e2, ?_, ?_, ?_, ?_, ?_, ?_⟩
  · refine h.step (fun i hi => ?_) (fun j hj => ?_) ?_ ?_ (fun w' hw' => ?_) (fun w' h1 h2 => ?_) (fun f' hf' => ?_) (fun f' h1 h2 => ?_)
    · simp (disch := omega) only [si_row, row_off]
    · rw [row_at, hN, if_neg (by omega), if_neg (by omega)]
    · rw [row_at, hN, if_pos rfl, hn2, nI_1]; exact ⟨n + 1, by omega, rfl⟩
    · simp (disch := omega) only [si_row, row_at, row_off, up_eq, up_ne]
      rw [hN, hN, hN, if_pos rfl, if_neg (by omega), if_neg (by omega), if_neg (by omega), if_neg (by omega), h.hour]
      exact ⟨rfl, h.mood, h.gone⟩
    · refine (h.wc hw').congr ?_ ?_
      · simp (disch := omega) only [si_row, row_off, and_self]
      · simp (disch := omega) only [row_at, hN, if_neg, and_self]
    · have ho := h.out h1 h2
      rw [row_at, hN, hN, if_neg (by omega), if_neg (by omega), if_neg (by omega), if_neg (by omega)]; exact ho
    · obtain ⟨a1, a2, m, a3, a4⟩ := h.fc hf'
      refine ⟨?_, ?_, ?_⟩
      · unfold pdO at a1 ⊢
        simp (disch := omega) only [si_row, row_at, row_off]
        rw [show N 72 = v.1 2 72 by rw [hN, if_neg (by omega), if_neg (by omega)], show N (30 + f') = v.1 2 (30 + f') by rw [hN, if_neg (by omega), if_neg (by omega)]]; exact a1
      · simp (disch := omega) only [si_row, row_at, row_off]
        rw [hN, if_neg (by omega), if_pos (by omega), hg, if_pos hf', a2]
      · rw [row_at, hN, if_neg (by omega), if_pos (by omega), a4]; exact dcN a3
    · rw [row_at, hN, if_neg (by omega), if_pos (by omega), h.slpO h1 h2]; decide
  · exact SoU.of ((Fr.rf.row (by decide)).si (by decide))
  · exact SoV.row (fun j hj => by rw [hN, if_neg (by omega), if_neg (by omega)])
  · rw [row_at, hN, if_pos rfl]
  · rw [row_off (by omega)]
  · simp (disch := omega) only [si_row, row_off]
theorem passHour (h : RW nS nF nT nW bB u v) (hh : ∃ n, n < 400 ∧ v.1 2 70 = nI n) : R2 (f_X10_passHour u) (f_X12_oneHour v) (HourQ nS nF nT nW bB u v) := by
  have hb := h.b
  unfold f_X10_passHour f_X12_oneHour
  refine lp2_ind (fun (K : XM → Int32 → Option XM) (s : XM × XM × Int32) => K s.1 s.2.2) (fun (K : XM → Int32 → Option XM) (s : XM × XM × Int32) => K s.2.1 s.2.2) (fun m s => ∃ i, i + m = nW ∧ s.2.2 = nI i ∧ RW nS nF nT nW bB s.1 s.2.1 ∧ SoU u s.1 ∧ SoV v s.2.1 ∧ s.2.1.1 2 70 = v.1 2 70 ∧ s.2.1.1 0 = v.1 0 ∧ s.1.1 0 = u.1 0) (HourQ nS nF nT nW bB u v) (fun m K K' s hP ih => ?_) x_NN x_NN nW (u, v, 0) (by unfold x_NN; omega) (by unfold x_NN; omega) ⟨0, by omega, rfl, h, SoU.rf, SoV.rf, rfl, rfl, rfl⟩
  obtain ⟨a, b, c⟩ := s
  obtain ⟨i, h1, h2, h3, h4, h5, h6, h7, h8⟩ := hP
  have h2 : c = nI i := h2
  subst h2
  dsimp only at h3 h4 h5 h6 h7 h8 ⊢
  match m, h1 with
  | 0, h1 =>
    obtain rfl : i = nW := by omega
    have e1 : f_X10_passHour_2 K a (nI i) = x_lp (φ := XM → Int32 → Option XM) (fun _ _ => none) f_X10_passHour_92 x_NN a 0 := by
      unfold f_X10_passHour_2
      rw [h3.u3, if_pos (nI_le (by omega) (by omega))]
    have e2 : f_X12_oneHour_2 K' b (nI i) = x_lp (φ := XM → Int32 → Option XM) (fun _ _ => none) f_X12_oneHour_25 x_NN b 0 := by
      unfold f_X12_oneHour_2
      rw [show x_ga b 2 (3 : Int32) = nI i from by rw [kl_3, ga_in (by omega)]; exact h3.v3, if_pos (nI_le (by omega) (by omega))]
    rw [e1, e2]
    refine R2_mono (both_folds h3 (by rw [h6]; exact hh)) (fun r s q => ?_)
    obtain ⟨q1, q2, q3, q4, q5, q6⟩ := q
    exact ⟨q1, h4.tr q2, h5.tr q3, by rw [q4, h6], q5.trans h7, q6.trans h8⟩
  | m + 1, h1 =>
    obtain ⟨u1, v1, k1, k2, k3, k4, k5, k6, k7, k8⟩ := step_goes h3 (show i < nW by omega)
    rw [k1 K]
    have e2 : f_X12_oneHour_2 K' b (nI i) = K' v1 (nI (i + 1)) := by
      unfold f_X12_oneHour_2
      rw [show x_ga b 2 (3 : Int32) = nI nW from by rw [kl_3, ga_in (by omega)]; exact h3.v3, if_neg (nI_ge (by omega) (by omega)), k2, bo_some, nI_1]
    rw [e2]
    exact ih m (u1, v1, nI (i + 1)) (by omega) ⟨i + 1, by omega, rfl, k3, h4.tr k4, h5.tr k5, k6.trans h6, k7.trans h7, k8.trans h8⟩
/-- how many of N hours go by -/
def goN (N h : Nat) : Nat := if N ≤ 400 - h then N else 400 - h
theorem passHours (h : RW nS nF nT nW bB u v) {N hh : Nat} (hN : N ≤ 60) (h4 : hh ≤ 400) (hh2 : v.1 2 70 = nI hh) : R2 (f_X10_passHours u (nI N)) (f_X12_passHours v (nI N)) (fun r s => r.1 = nI (goN N hh) ∧ s.1 = nI (goN N hh) ∧ RW nS nF nT nW bB r.2 s.2 ∧ SoU u r.2 ∧ SoV v s.2 ∧ s.2.1 0 = v.1 0 ∧ r.2.1 0 = u.1 0) := by
  have hb := h.b
  have hk : f_X12_least (nI N) ((400 : Int32) - x_ga v 2 (70 : Int32)) = nI (goN N hh) := by
    unfold f_X12_least goN
    rw [kl_70, ga_in (by omega), hh2, kl_400, pk_sub (by omega)]
    by_cases c : N ≤ 400 - hh
    · rw [if_pos c]
      by_cases c2 : N = 400 - hh
      · rw [if_pos (by rw [nI_leI (by omega) (by omega)]; omega), c2]
      · rw [if_neg (by rw [nI_leI (by omega) (by omega)]; omega)]
    · rw [if_neg c, if_pos (by rw [nI_leI (by omega) (by omega)]; omega)]
  have hg : goN N hh ≤ 60 ∧ goN N hh ≤ N ∧ goN N hh ≤ 400 - hh ∧ (goN N hh = N ∨ goN N hh = 400 - hh) := by unfold goN; split <;> omega
  unfold f_X10_passHours f_X12_passHours
  rw [lt_eq, hk]
  refine lp2_ind (fun (K : XM → Int32 → Int32 → Option (Int32 × XM)) (s : XM × XM × Int32) => K s.1 (nI N) s.2.2) (fun (K : XM → Int32 → Int32 → Option (Int32 × XM)) (s : XM × XM × Int32) => K s.2.1 (nI (goN N hh)) s.2.2) (fun m s => ∃ i, i + m = goN N hh ∧ s.2.2 = nI i ∧ RW nS nF nT nW bB s.1 s.2.1 ∧ SoU u s.1 ∧ SoV v s.2.1 ∧ s.2.1.1 2 70 = nI (hh + i) ∧ s.2.1.1 0 = v.1 0 ∧ s.1.1 0 = u.1 0) _ (fun m K K' s hP ih => ?_) x_NN x_NN (goN N hh) (u, v, 0) (by unfold x_NN; omega) (by unfold x_NN; omega) ⟨0, by omega, rfl, h, SoU.rf, SoV.rf, hh2, rfl, rfl⟩
  obtain ⟨a, b, c⟩ := s
  obtain ⟨i, h1, h2, h3, h5, h6, h7, h8, h9⟩ := hP
  have h2 : c = nI i := h2
  subst h2
  dsimp only at h3 h5 h6 h7 h8 h9 ⊢
  have hour : a.1 17 0 = nI (hh + i) := h3.hour.trans h7
  match m, h1 with
  | 0, h1 =>
    have hi : i = goN N hh := by omega
    have e1 : f_X10_passHours_2 K a (nI N) (nI i) = some (nI i, a) := by
      unfold f_X10_passHours_2
      by_cases c : N ≤ i
      · rw [if_pos (by rw [nI_leI (by omega) (by omega)]; exact c)]
      · rw [if_neg (by rw [nI_leI (by omega) (by omega)]; exact c), hour, kl_400, if_pos (by rw [nI_leI (by omega) (by omega)]; omega)]
    have e2 : f_X12_passHours_18 K' b (nI (goN N hh)) (nI i) = some (nI (goN N hh), b) := by
      unfold f_X12_passHours_18
      rw [if_pos (by rw [nI_leI (by omega) (by omega)]; omega)]
    rw [e1, e2]
    exact R2_some ⟨by rw [hi], rfl, h3, h5, h6, h8, h9⟩
  | m + 1, h1 =>
    have e1 : f_X10_passHours_2 K a (nI N) (nI i) = x_bo (f_X10_passHour a) (fun y1 => K y1 (nI N) (nI (i + 1))) := by
      unfold f_X10_passHours_2
      rw [if_neg (by rw [nI_leI (by omega) (by omega)]; omega), hour, kl_400, if_neg (by rw [nI_leI (by omega) (by omega)]; omega), nI_1]
    have e2 : f_X12_passHours_18 K' b (nI (goN N hh)) (nI i) = x_bo (f_X12_oneHour b) (fun y1 => K' y1 (nI (goN N hh)) (nI (i + 1))) := by
      unfold f_X12_passHours_18
      rw [if_neg (by rw [nI_leI (by omega) (by omega)]; omega), nI_1]
    rw [e1, e2]
    refine R2_bo (passHour h3 ⟨hh + i, by omega, h7⟩) (fun r s q => ?_)
    obtain ⟨q1, q2, q3, q4, q5, q6⟩ := q
    exact ih m (r, s, nI (i + 1)) (by omega) ⟨i + 1, by omega, rfl, q1, h5.tr q2, h6.tr q3, by show s.1 2 70 = _; rw [q4, h7, nI_1]; rfl, q5.trans h8, q6.trans h9⟩
end HS
