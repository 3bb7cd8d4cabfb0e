-- drawHours: both sides.
section DH
variable {nS nF nT nW bB : Nat} {u v u' v' : XM}
/-- behind drawn hours -/
def DHQ (nS nF nT nW bB : Nat) (u v : XM) (k : Nat) (r s : Int32 × XM) : Prop := r.1 = nI k ∧ s.1 = nI k ∧ RW nS nF nT nW bB r.2 s.2 ∧ SoU u r.2 ∧ SoV v s.2
theorem HourQ.dq (h : HourQ nS nF nT nW bB u v u' v') (hs : u.1 0 4 = v.1 0 37) : RW nS nF nT nW bB u' v' ∧ SoU u u' ∧ SoV v v' ∧ u'.1 0 4 = v'.1 0 37 := ⟨h.1, h.2.1, h.2.2.1, by rw [h.2.2.2.2.1, h.2.2.2.2.2]; exact hs⟩
theorem draw_inner {N hh i : Nat} {Q : Int32 × XM → Int32 × XM → Prop} {K : XM → Int32 → Int32 → Option (Int32 × XM)} {K' : XM → Int32 → Int32 → Option (Int32 × XM)} {a b : XM} (hN : N ≤ 60) (hi : i < 60) (h : RW nS nF nT nW bB a b) (hs : a.1 0 4 = b.1 0 37) (hhr : ∃ n, n < 400 ∧ b.1 2 70 = nI n) (M : Int32)
    (ih : ∀ a' b', RW nS nF nT nW bB a' b' → SoU a a' → SoV b b' → a'.1 0 4 = b'.1 0 37 → b'.1 2 70 = b.1 2 70 + 1 → R2 (K a' (nI N) (nI (i + 1))) (K' b' M (nI (i + 1))) Q) :
    R2 (x_lp (φ := XM → Int32 → Int32 → Int32 → Option (Int32 × XM)) (fun _ _ _ _ => none) (f_X10_drawHours_28 K) x_NN a (nI N) (nI i) 0) (x_lp (φ := XM → Int32 → Int32 → Int32 → Option (Int32 × XM)) (fun _ _ _ _ => none) (f_X12_drawHours_33 K') x_NN b M (nI i) 0) Q := by
  have hb := h.b
  obtain ⟨hn, hn1, hn2⟩ := hhr
  refine lp2_ind (fun (L : XM → Int32 → Int32 → Int32 → Option (Int32 × XM)) (s : XM × XM × Int32) => L s.1 (nI N) (nI i) s.2.2) (fun (L : XM → Int32 → Int32 → Int32 → Option (Int32 × XM)) (s : XM × XM × Int32) => L s.2.1 M (nI i) s.2.2) (fun m s => ∃ j, j + m = nW ∧ s.2.2 = nI j ∧ DQ nS nF nT nW bB a b s.1 s.2.1) Q (fun m L L' s hP ihL => ?_) x_NN x_NN nW (a, b, 0) (by unfold x_NN; omega) (by unfold x_NN; omega) ⟨0, by omega, rfl, h, SoU.rf, SoV.rf, hs, rfl⟩
  obtain ⟨x, y, c⟩ := s
  obtain ⟨j, g1, g2, g3⟩ := hP
  have g2 : c = nI j := g2
  subst g2
  dsimp only at g3 ⊢
  have hx := g3.1
  match m, g1 with
  | 0, g1 =>
    have hj : nW = j := by omega
    obtain ⟨d, u1, v1, hd, e1, e2, hq, hv1, hu1⟩ := both_draw hx g3.2.2.2.1 (n := 20) (by omega) (by omega)
    have hq := g3.tr hq
    have f1 : f_X10_drawHours_28 K L x (nI N) (nI i) (nI j) = if (3 : Int32) ≤ nI d then f_X10_drawHours_82 K u1 (nI N) (nI i) else f_X10_drawHours_82 K (f_X10_lift u1 (nI d)).2 (nI N) (nI i) := by
      unfold f_X10_drawHours_28
      rw [hx.u3, if_pos (nI_le (by omega) (by omega)), kl_20, e1, bo_some]
      dsimp only
      rw [lt_eq]
    have f2 : f_X12_drawHours_33 K' L' y M (nI i) (nI j) = if (3 : Int32) ≤ nI d then f_X12_drawHours_88 K' v1 M (nI i) else f_X12_drawHours_88 K' (x_pa v1 2 71 (nI d)) M (nI i) := by
      unfold f_X12_drawHours_33
      rw [show x_ga y 2 (3 : Int32) = nI nW from by rw [kl_3, ga_in (by omega)]; exact hx.v3, if_pos (nI_le (by omega) (by omega)), kl_20, e2, bo_some]
      dsimp only
      rw [lt_eq]
    rw [f1, f2]
    have fin : ∀ u2 v2, RW nS nF nT nW bB u2 v2 → SoU a u2 → SoV b v2 → u2.1 0 4 = v2.1 0 37 → v2.1 2 70 = b.1 2 70 → R2 (f_X10_drawHours_82 K u2 (nI N) (nI i)) (f_X12_drawHours_88 K' v2 M (nI i)) Q := by
      intro u2 v2 k1 k2 k3 k4 k5
      unfold f_X10_drawHours_82 f_X12_drawHours_88
      refine R2_bo (passHour k1 ⟨hn, hn1, k5.trans hn2⟩) (fun r s q => ?_)
      obtain ⟨q1, q2, q3, q4⟩ := q.dq k4
      rw [nI_1]
      exact ih r s q1 (k2.tr q2) (k3.tr q3) q4 (by rw [q.2.2.2.1, k5])
    by_cases c3 : (3 : Int32) ≤ nI d
    · rw [if_pos c3, if_pos c3]
      exact fin u1 v1 hq.1 hq.2.1 hq.2.2.1 hq.2.2.2.1 hq.2.2.2.2
    · rw [if_neg c3, if_neg c3]
      obtain ⟨N', k1, k2, k3, k4, k5, k6⟩ := lift_both hq.1 (k := nI d)
      rw [k2]
      refine fin _ _ k1 (hq.2.1.tr k3) (hq.2.2.1.tr k4) ?_ ?_
      · rw [k6, row_off (by omega)]; exact hq.2.2.2.1
      · rw [row_at, k5]; exact hq.2.2.2.2
  | m + 1, g1 =>
    have hj : j < nW := by omega
    have f1 : f_X10_drawHours_28 K L x (nI N) (nI i) (nI j) = if goB y j = true then L x (nI N) (nI i) (nI (j + 1)) else x_bo (f_X10_drawDeed x (nI j)) (fun y5 => L y5 (nI N) (nI i) (nI (j + 1))) := by
      unfold f_X10_drawHours_28 f_X10_drawHours_55
      rw [hx.u3, if_neg (nI_ge hj (by omega)), lt_eq, c_isGoing hx hj, nI_1]
      cases hgg : goB y j with
      | true => rw [if_neg (show ¬ bI true = 0 by decide), if_pos (show true = true from rfl)]
      | false => rw [if_pos bIf, if_neg ft]
    have f2 : f_X12_drawHours_33 K' L' y M (nI i) (nI j) = if goB y j = true then L' y M (nI i) (nI (j + 1)) else x_bo (f_X12_drawsFor y (nI j)) (fun y5 => L' y5 M (nI i) (nI (j + 1))) := by
      unfold f_X12_drawHours_33 f_X12_drawHours_59
      rw [show x_ga y 2 (3 : Int32) = nI nW from by rw [kl_3, ga_in (by omega)]; exact hx.v3, if_neg (nI_ge hj (by omega)), r_isGoing (by omega), bo_some, nI_1]
      cases hgg : goB y j with
      | true => rw [if_neg (show ¬ bI true = 0 by decide), if_pos (show true = true from rfl)]
      | false => rw [if_pos bIf, if_neg ft]
    rw [f1, f2]
    cases hg : goB y j with
    | true =>
      rw [if_pos rfl, if_pos rfl]
      exact ihL m (x, y, nI (j + 1)) (by omega) ⟨j + 1, by omega, rfl, g3⟩
    | false =>
      rw [if_neg ft, if_neg ft]
      refine R2_bo (drawDeed hx g3.2.2.2.1 hj) (fun r s q => ?_)
      exact ihL m (r, s, nI (j + 1)) (by omega) ⟨j + 1, by omega, rfl, g3.tr q⟩
theorem drawHours (h : RW nS nF nT nW bB u v) {N hh : Nat} (hN : N ≤ 60) (h4 : hh ≤ 400) (hh2 : v.1 2 70 = nI hh) (x : Int32) : R2 (f_X10_drawHours u (nI N) x) (f_X12_drawHours v (nI N) x) (DHQ nS nF nT nW bB u v (goN N hh)) := by
  have hb := h.b
  have h0 : RW nS nF nT nW bB (x_si u 0 4 x) (x_si v 0 37 x) := h.cong (fun i a b => by rw [si_row, row_off (by omega)]) (fun j _ => by rw [si_row, row_off (by omega)])
  have h70 : (x_si v 0 37 x).1 2 70 = nI hh := by rw [si_row, row_off (by omega)]; exact hh2
  have hS0 : SoU u (x_si u 0 4 x) := Fr.rf.si (by decide)
  have hV0 : SoV v (x_si v 0 37 x) := ⟨rfl, fun i _ a => by rw [si_row, row_off a], fun j a => by rw [si_row, row_at, up_ne a], fun j _ => by rw [si_row, row_off (by omega)]⟩
  have hs0 : (x_si u 0 4 x).1 0 4 = (x_si v 0 37 x).1 0 37 := by rw [si_row, si_row, row_at, row_at, up_eq, up_eq]
  have hk : f_X12_least (nI N) ((400 : Int32) - x_ga (x_si v 0 37 x) 2 (70 : Int32)) = nI (goN N hh) := by
    unfold f_X12_least goN
    rw [kl_70, ga_in (by omega), h70, kl_400, pk_sub (by omega)]
    by_cases c : N ≤ 400 - hh
    · rw [if_pos c]
      by_cases c2 : N = 400 - hh
      · rw [if_pos (by rw [nI_leI (by omega) (by omega)]; omega), c2]
      · rw [if_neg (by rw [nI_leI (by omega) (by omega)]; omega)]
    · rw [if_neg c, if_pos (by rw [nI_leI (by omega) (by omega)]; omega)]
  have hg : goN N hh ≤ 60 ∧ goN N hh ≤ N ∧ goN N hh ≤ 400 - hh ∧ (goN N hh = N ∨ goN N hh = 400 - hh) := by unfold goN; split <;> omega
  unfold f_X10_drawHours f_X12_drawHours
  rw [lt_eq, lt_eq, lt_eq, hk]
  generalize x_si u 0 4 x = u0 at *
  generalize x_si v 0 37 x = v0 at *
  refine lp2_ind (fun (K : XM → Int32 → Int32 → Option (Int32 × XM)) (s : XM × XM × Int32) => K s.1 (nI N) s.2.2) (fun (K : XM → Int32 → Int32 → Option (Int32 × XM)) (s : XM × XM × Int32) => K s.2.1 (nI (goN N hh)) s.2.2) (fun m s => ∃ i, i + m = goN N hh ∧ s.2.2 = nI i ∧ RW nS nF nT nW bB s.1 s.2.1 ∧ SoU u s.1 ∧ SoV v s.2.1 ∧ s.2.1.1 2 70 = nI (hh + i) ∧ s.1.1 0 4 = s.2.1.1 0 37) _ (fun m K K' s hP ih => ?_) x_NN x_NN (goN N hh) (u0, v0, 0) (by unfold x_NN; omega) (by unfold x_NN; omega) ⟨0, by omega, rfl, h0, hS0, hV0, h70, hs0⟩
  obtain ⟨a, b, c⟩ := s
  obtain ⟨i, h1, h2, h3, h5, h6, h7, h8⟩ := hP
  have h2 : c = nI i := h2
  subst h2
  dsimp only at h3 h5 h6 h7 h8 ⊢
  have hour : a.1 17 0 = nI (hh + i) := h3.hour.trans h7
  match m, h1 with
  | 0, h1 =>
    have hi : i = goN N hh := by omega
    have e1 : f_X10_drawHours_7 K a (nI N) (nI i) = some (nI i, a) := by
      unfold f_X10_drawHours_7
      by_cases c : N ≤ i
      · rw [if_pos (by rw [nI_leI (by omega) (by omega)]; exact c)]
      · rw [if_neg (by rw [nI_leI (by omega) (by omega)]; exact c), hour, kl_400, if_pos (by rw [nI_leI (by omega) (by omega)]; omega)]
    have e2 : f_X12_drawHours_24 K' b (nI (goN N hh)) (nI i) = some (nI (goN N hh), b) := by
      unfold f_X12_drawHours_24
      rw [if_pos (by rw [nI_leI (by omega) (by omega)]; omega)]
    rw [e1, e2]
    exact R2_some ⟨by rw [hi], rfl, h3, h5, h6⟩
  | m + 1, h1 =>
    have e1 : f_X10_drawHours_7 K a (nI N) (nI i) = x_lp (φ := XM → Int32 → Int32 → Int32 → Option (Int32 × XM)) (fun _ _ _ _ => none) (f_X10_drawHours_28 K) x_NN a (nI N) (nI i) 0 := by
      unfold f_X10_drawHours_7
      rw [if_neg (by rw [nI_leI (by omega) (by omega)]; omega), hour, kl_400, if_neg (by rw [nI_leI (by omega) (by omega)]; omega)]
    have e2 : f_X12_drawHours_24 K' b (nI (goN N hh)) (nI i) = x_lp (φ := XM → Int32 → Int32 → Int32 → Option (Int32 × XM)) (fun _ _ _ _ => none) (f_X12_drawHours_33 K') x_NN b (nI (goN N hh)) (nI i) 0 := by
      unfold f_X12_drawHours_24
      rw [if_neg (by rw [nI_leI (by omega) (by omega)]; omega)]
    rw [e1, e2]
    refine draw_inner (hh := hh) hN (by omega) h3 h8 ⟨hh + i, by omega, h7⟩ _ (fun a' b' q1 q2 q3 q4 q5 => ?_)
    exact ih m (a', b', nI (i + 1)) (by omega) ⟨i + 1, by omega, rfl, q1, h5.tr q2, h6.tr q3, by show b'.1 2 70 = _; rw [q5, h7, nI_1]; rfl, q4⟩
end DH
