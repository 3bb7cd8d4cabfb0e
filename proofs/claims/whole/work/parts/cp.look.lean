-- a BOOK lived.
section CPP
variable {n lim b p s a k e i nS nF nT nW bB : Nat} {u u' v v' B D' w : XM}
/-- LINE i lived -/
theorem live_line (h : RW nS nF nT nW bB u v) (hi : i < 40) (hl : BL nT nW B v i) : ∃ (r : Int32) (u' v' : XM), f_X0_liveLine B u (nI i) = some (r, u') ∧ f_X12_goBy v (nI (3 * i)) = some (r, v') ∧ RW nS nF nT nW bB u' v' ∧ SoU u u' ∧ SoV v v' ∧ (¬ r = 0 → u' = u ∧ v' = v) := by
  have hb := h.b
  obtain ⟨e, x, y, e8, B2, L0, L1, L2, ⟨x3, y3⟩, h4, h5⟩ := hl
  have cB2 : r_get 40 (x_sub B 1) (nI i) = nI (9 + e) := (rg_in hi (by omega)).trans B2
  have cB6 : r_get 40 (x_sub B 5) (nI i) = B.1 6 i := rg_in hi (by omega)
  have cB4 : r_get 40 (x_sub B 3) (nI i) = B.1 4 i := rg_in hi (by omega)
  have cB8 : r_get 40 (x_sub B 7) (nI i) = B.1 8 i := rg_in hi (by omega)
  have d9 : nI (9 + e) - (9 : Int32) = nI e := by rw [kl_9, pk_sub (by omega), show 9 + e - 9 = e by omega]
  have a1 : nI (3 * i) + 1 = nI (3 * i + 1) := nI_1 _
  have a2 : nI (3 * i) + 2 = nI (3 * i + 2) := by rw [kl_2, nI_add]
  have ten : nI e * (10 : Int32) = (10 : Int32) * nI e := Int32.mul_comm _ _
  -- by a Deed
  have deed : ∀ (d wh wt lg X Y : Int32), Deed nS nF nT nW bB u v d wh wt lg (nI e) X Y → ∃ (r : Int32) (u' v' : XM), x_bo (f_X10_perform u d wh wt lg) (fun y3 => if y3.1 = 0 then some ((0 : Int32), y3.2) else some ((10 : Int32) * nI e + y3.1, y3.2)) = some (r, u') ∧ f_X12_goBy_97 v (nI e) X Y = some (r, v') ∧ RW nS nF nT nW bB u' v' ∧ SoU u u' ∧ SoV v v' ∧ (¬ r = 0 → u' = u ∧ v' = v) := by
    intro d wh wt lg X Y hD
    obtain ⟨r, u', g1, g2, g3, g4, g5⟩ := hD
    unfold f_X12_goBy_97
    rw [g1, g2, bo_some, bo_some]
    by_cases c : r = 0
    · obtain ⟨N, k1, k2, k3⟩ := g5 c v rfl
      rw [if_pos c, if_pos c, k1, bo_some]
      exact ⟨0, u', x_row v 2 N, rfl, rfl, k2, SoU.of g3, SoV.row (fun j hj => k3 j (by omega)), fun q => absurd rfl q⟩
    · rw [if_neg c, if_neg c]
      have := g4 c
      subst this
      exact ⟨_, u', v, rfl, rfl, h, SoU.rf, SoV.rf, fun _ => ⟨rfl, rfl⟩⟩
  have nofold : ∃ (r : Int32) (u' v' : XM), some ((10 : Int32) * nI e + (9 : Int32), u) = some (r, u') ∧ f_X12_goBy_89 v (nI e) = some (r, v') ∧ RW nS nF nT nW bB u' v' ∧ SoU u u' ∧ SoV v v' ∧ (¬ r = 0 → u' = u ∧ v' = v) := ⟨_, u, v, rfl, rfl, h, SoU.rf, SoV.rf, fun _ => ⟨rfl, rfl⟩⟩
  unfold f_X0_liveLine f_X12_goBy
  rw [cB2, cB6, a1, a2, ck_in (by omega) (by omega), ck_in (by omega) (by omega)]
  simp only [lt_eq]
  rw [ck_in (by omega) (by omega), ga_in (by omega), ga_in (by omega), ga_in (by omega), L0, L1, L2, d9, ten]
  have l112 : ∀ X : Int32, f_X0_liveLine_112 B u (nI i) (nI (9 + e)) X ((10 : Int32) * nI e) = x_bo (f_X10_perform u (nI (9 + e)) (B.1 4 i) X (B.1 8 i)) (fun y3 => if y3.1 = 0 then some ((0 : Int32), y3.2) else some ((10 : Int32) * nI e + y3.1, y3.2)) := fun X => by
    unfold f_X0_liveLine_112
    rw [cB4, cB8]; rfl
  have hee : e = 0 ∨ e = 1 ∨ e = 2 ∨ e = 3 ∨ e = 4 ∨ e = 5 ∨ e = 6 ∨ e = 7 := by omega
  rcases hee with rfl | rfl | rfl | rfl | rfl | rfl | rfl | rfl
  · obtain ⟨w1, w2, w3, w4, -⟩ := h4 (by omega)
    rw [if_neg (show ¬ nI (9 + 0) = 16 by decide), if_pos (show nI (9 + 0) = 9 from rfl), if_neg (show ¬ nI 0 = 7 by decide), if_pos (show nI 0 = 0 from rfl), w3]
    unfold f_X0_liveLine_82 f_X0_liveLine_87
    rw [if_neg one0]
    rcases h_Fold h (nI y) with ⟨f, hf, ef, e1, e2⟩ | ⟨-, e1, e2⟩
    · rw [e1, e2, lt_eq, if_neg one0, if_neg one0, l112, w2, w4]
      unfold f_X12_goBy_71
      rw [if_neg (show ¬ nI 0 = 4 by decide), if_neg (show ¬ nI 0 = 5 by decide), ef]
      exact deed _ _ _ _ _ _ (d_walk h w1 hf)
    · rw [e1, e2, lt_eq, if_pos rfl, if_pos rfl]; exact nofold
  · obtain ⟨w1, w2, w3, w4, w5, -⟩ := h4 (by omega)
    rw [if_neg (show ¬ nI (9 + 1) = 16 by decide), if_neg (show ¬ nI (9 + 1) = 9 by decide), if_neg (show ¬ nI (9 + 1) = 13 by decide), if_neg (show ¬ nI (9 + 1) = 14 by decide), if_neg (show ¬ nI 1 = 7 by decide), if_neg (show ¬ nI 1 = 0 by decide), w3]
    unfold f_X0_liveLine_87 f_X12_goBy_71
    rw [if_pos rfl, if_neg (show ¬ nI 1 = 4 by decide), if_neg (show ¬ nI 1 = 5 by decide), l112, w2, w4]
    exact deed _ _ _ _ _ _ (d_learn h w1 (w5 rfl))
  · obtain ⟨w1, w2, w3, w4, -, w5, -⟩ := h4 (by omega)
    rw [if_neg (show ¬ nI (9 + 2) = 16 by decide), if_neg (show ¬ nI (9 + 2) = 9 by decide), if_neg (show ¬ nI (9 + 2) = 13 by decide), if_neg (show ¬ nI (9 + 2) = 14 by decide), if_neg (show ¬ nI 2 = 7 by decide), if_neg (show ¬ nI 2 = 0 by decide), w3]
    unfold f_X0_liveLine_87 f_X12_goBy_71
    rw [if_pos rfl, if_neg (show ¬ nI 2 = 4 by decide), if_neg (show ¬ nI 2 = 5 by decide), l112, w2, w4]
    exact deed _ _ _ _ _ _ (d_tell h w1 (w5 rfl))
  · obtain ⟨w1, w2, w3, w4, -, -, w5⟩ := h4 (by omega)
    have y0 := w5 rfl
    subst y0
    rw [if_neg (show ¬ nI (9 + 3) = 16 by decide), if_neg (show ¬ nI (9 + 3) = 9 by decide), if_neg (show ¬ nI (9 + 3) = 13 by decide), if_neg (show ¬ nI (9 + 3) = 14 by decide), if_neg (show ¬ nI 3 = 7 by decide), if_neg (show ¬ nI 3 = 0 by decide), w3]
    unfold f_X0_liveLine_87 f_X12_goBy_71
    rw [if_pos rfl, if_neg (show ¬ nI 3 = 4 by decide), if_neg (show ¬ nI 3 = 5 by decide), l112, w2, w4]
    exact deed _ _ _ _ _ _ (d_rest h w1)
  · obtain ⟨w1, w2, w3, w4, -⟩ := h5 (by omega)
    have y0 := w4 (by omega)
    subst y0
    rw [if_neg (show ¬ nI (9 + 4) = 16 by decide), if_neg (show ¬ nI (9 + 4) = 9 by decide), if_pos (show nI (9 + 4) = 13 from rfl), if_neg (show ¬ nI 4 = 7 by decide), if_neg (show ¬ nI 4 = 0 by decide), w2]
    unfold f_X0_liveLine_82 f_X0_liveLine_87 f_X12_goBy_71 f_X12_goBy_81
    rw [if_neg one0, if_pos (show nI 4 = 4 from rfl)]
    rcases h_Fold h (nI x) with ⟨f, hf, ef, e1, e2⟩ | ⟨-, e1, e2⟩
    · rw [e1, e2, lt_eq, lt_eq, if_neg one0, if_neg one0, l112, w1, w3, ef]
      exact deed _ _ _ _ _ _ (d_cream h hf)
    · rw [e1, e2, lt_eq, lt_eq, if_pos rfl, if_pos rfl]; exact nofold
  · obtain ⟨w1, w2, w3, -, w4, -⟩ := h5 (by omega)
    have y0 := w4 rfl
    rw [if_neg (show ¬ nI (9 + 5) = 16 by decide), if_neg (show ¬ nI (9 + 5) = 9 by decide), if_neg (show ¬ nI (9 + 5) = 13 by decide), if_pos (show nI (9 + 5) = 14 from rfl), if_neg (show ¬ nI 5 = 7 by decide), if_neg (show ¬ nI 5 = 0 by decide), w2]
    unfold f_X0_liveLine_82 f_X0_liveLine_87 f_X12_goBy_71 f_X12_goBy_81
    rw [if_neg one0, if_neg (show ¬ nI 5 = 4 by decide), if_pos (show nI 5 = 5 from rfl)]
    rcases h_Fold h (nI x) with ⟨f, hf, ef, e1, e2⟩ | ⟨-, e1, e2⟩
    · rw [e1, e2, lt_eq, lt_eq, if_neg one0, if_neg one0, l112, w1, w3, ef]
      exact deed _ _ _ _ _ _ (d_slip h hf y0.2)
    · rw [e1, e2, lt_eq, lt_eq, if_pos rfl, if_pos rfl]; exact nofold
  · obtain ⟨w1, w2, w3, w4, -⟩ := h5 (by omega)
    have y0 := w4 (by omega)
    subst y0
    rw [if_neg (show ¬ nI (9 + 6) = 16 by decide), if_neg (show ¬ nI (9 + 6) = 9 by decide), if_neg (show ¬ nI (9 + 6) = 13 by decide), if_neg (show ¬ nI (9 + 6) = 14 by decide), if_neg (show ¬ nI 6 = 7 by decide), if_neg (show ¬ nI 6 = 0 by decide), w2]
    unfold f_X0_liveLine_87 f_X12_goBy_71
    rw [if_pos rfl, if_neg (show ¬ nI 6 = 4 by decide), if_neg (show ¬ nI 6 = 5 by decide), l112, w1, w3]
    exact deed _ _ _ _ _ _ (d_mood h)
  · obtain ⟨w1, w2, w3, w4, -, -, w5⟩ := h5 (by omega)
    have y0 := w5 rfl
    obtain ⟨hh, hh4, ehh⟩ := h.hourN
    rw [if_pos (show nI (9 + 7) = 16 from rfl), if_pos (show nI 7 = 7 from rfl), w2, h.hour, kl_70, ga_in (by omega), ehh, nI_add]
    by_cases c : nI (hh + x) ≤ 400
    · rw [if_pos c, if_pos c]
      obtain ⟨⟨r, u'⟩, ⟨q, v'⟩, g1, g2, g3, g4, g5, g6, g7, -⟩ := passHours h (N := x) (by omega) hh4 ehh
      rw [g1, g2, bo_some, bo_some]
      exact ⟨0, u', v', rfl, rfl, g5, g6, g7, fun z => absurd rfl z⟩
    · rw [if_neg c, if_neg c]
      exact ⟨_, u, v, rfl, rfl, h, SoU.rf, SoV.rf, fun _ => ⟨rfl, rfl⟩⟩
end CPP
