-- Hours that are drawn: both sides.
theorem wb32 (x : Int32) : ∃ n, n < 2 ^ 32 ∧ x = nI n := ⟨x.toBitVec.toNat, x.toBitVec.isLt, Int32.toBitVec_inj.mp (by show _ = BitVec.ofNat 32 _; simp)⟩
def drw (x : Int32) : Int32 := x * 1103515245 + 12345
def dru (y : Int32) : Int32 := ((y : Int32).toUInt32 >>> (((8 : Int32) : Int32).toUInt32 &&& Int32.toUInt32 31)).toInt32
theorem dr_lt (y : Int32) {n : Nat} (h1 : 1 ≤ n) (h2 : n < 2 ^ 31) : ∃ d, d < n ∧ dru y - dru y / nI n * nI n = nI d := by
  obtain ⟨k, hk, rfl⟩ := wb32 y
  unfold dru
  rw [pk_ushrN hk 8 8 (by decide), pk_rem (by omega) (by omega) h2]
  exact ⟨_, Nat.mod_lt _ (by omega), rfl⟩
section DR
variable {nS nF nT nW bB : Nat} {u v u' v' : XM}
theorem c_draw {n : Nat} (h1 : 1 ≤ n) (h2 : n < 2 ^ 31) : f_X10_draw u (nI n) = some (dru (drw (u.1 0 4)) - dru (drw (u.1 0 4)) / nI n * nI n, x_si u 0 4 (drw (u.1 0 4))) := by
  unfold f_X10_draw
  rw [lt_eq, lt_eq, if_pos (by rw [kl_1, nI_leI (by omega) h2]; exact h1), lt_eq, nz_of (nI_ne0 (by omega) h2)]
  rfl
theorem r_draw {n : Nat} (h1 : 1 ≤ n) (h2 : n < 2 ^ 31) : f_X12_draw v (nI n) = some (dru (drw (v.1 0 37)) - dru (drw (v.1 0 37)) / nI n * nI n, x_si v 0 37 (drw (v.1 0 37))) := by
  unfold f_X12_draw
  rw [lt_eq, lt_eq, lt_eq, nz_of (nI_ne0 (by omega) h2)]
  rfl
/-- a step of drawing -/
def DQ (nS nF nT nW bB : Nat) (u v u' v' : XM) : Prop := RW nS nF nT nW bB u' v' ∧ SoU u u' ∧ SoV v v' ∧ u'.1 0 4 = v'.1 0 37 ∧ v'.1 2 70 = v.1 2 70
theorem DQ.tr {u1 v1 : XM} (h : DQ nS nF nT nW bB u v u1 v1) (g : DQ nS nF nT nW bB u1 v1 u' v') : DQ nS nF nT nW bB u v u' v' := ⟨g.1, h.2.1.tr g.2.1, h.2.2.1.tr g.2.2.1, g.2.2.2.1, g.2.2.2.2.trans h.2.2.2.2⟩
theorem both_draw (h : RW nS nF nT nW bB u v) (hs : u.1 0 4 = v.1 0 37) {n : Nat} (h1 : 1 ≤ n) (h2 : n < 2 ^ 31) : ∃ (d : Nat) (u' v' : XM), d < n ∧ f_X10_draw u (nI n) = some (nI d, u') ∧ f_X12_draw v (nI n) = some (nI d, v') ∧ DQ nS nF nT nW bB u v u' v' ∧ v'.1 2 = v.1 2 ∧ (∀ i, 1 ≤ i → u'.1 i = u.1 i) := by
  obtain ⟨d, hd, e⟩ := dr_lt (drw (u.1 0 4)) h1 h2
  refine ⟨d, x_si u 0 4 (drw (u.1 0 4)), x_si v 0 37 (drw (v.1 0 37)), hd, ?_, ?_, ?_, ?_, ?_⟩
  · rw [c_draw h1 h2, e]
  · rw [r_draw h1 h2, ← hs, e]
  · refine ⟨h.cong (fun i a b => ?_) (fun j _ => ?_), Fr.rf.si (by decide), ⟨rfl, fun i _ a => ?_, fun j a => ?_, fun j _ => ?_⟩, ?_, ?_⟩
    · rw [si_row, row_off (by omega)]
    · rw [si_row, row_off (by omega)]
    · rw [si_row, row_off a]
    · rw [si_row, row_at, up_ne a]
    · rw [si_row, row_off (by omega)]
    · rw [si_row, si_row, row_at, row_at, up_eq, up_eq, hs]
    · rw [si_row, row_off (by omega)]
  · rw [si_row, row_off (by omega)]
  · intro i hi
    rw [si_row, row_off (by omega)]
/-- a deed if it can be -/
theorem deed_if {d w x n d' a b : Int32} (h : RW nS nF nT nW bB u v) (hD : Deed nS nF nT nW bB u v d w x n d' a b) : ∃ (r : Int32) (u' v' : XM), f_X10_perform u d w x n = some (r, u') ∧ f_X12_doIf v d' a b = some v' ∧ RW nS nF nT nW bB u' v' ∧ SoU u u' ∧ SoV v v' ∧ v'.1 2 70 = v.1 2 70 ∧ u'.1 0 = u.1 0 ∧ v'.1 0 = v.1 0 := by
  obtain ⟨r, u', h1, h2, h3, h4, h5⟩ := hD
  have e : f_X12_doIf v d' a b = if r = 0 then f_X12_live v d' a b else some v := by
    unfold f_X12_doIf
    rw [h2, bo_some, bo_id]
  by_cases c : r = 0
  · obtain ⟨N, g1, g2, g3⟩ := h5 c v rfl
    refine ⟨r, u', _, h1, by rw [e, if_pos c]; exact g1, g2, SoU.of h3, SoV.row (fun j hj => g3 j (by omega)), ?_, h3.2 0 (by decide), row_off (by decide)⟩
    rw [row_at, g3 70 (by omega)]
  · rw [h4 c] at h1
    exact ⟨r, u, v, h1, by rw [e, if_neg c], h, SoU.rf, SoV.rf, rfl, rfl, rfl⟩
theorem pf9 {x y z : Int32} : f_X10_perform u 9 x y z = f_X10_setOut u x y := by unfold f_X10_perform; rw [if_pos rfl, bo_pair]
theorem pf10 {x y z : Int32} : f_X10_perform u 10 x y z = some (f_X10_pickUp u x y) := by unfold f_X10_perform; rw [if_neg (by decide), if_pos rfl]; rfl
theorem pf12 {x y z : Int32} : f_X10_perform u 12 x y z = some (f_X10_sleep u x) := by unfold f_X10_perform; rw [if_neg (by decide), if_neg (by decide), if_neg (by decide), if_pos rfl]; rfl
theorem DQ.deed {u1 v1 : XM} (h : DQ nS nF nT nW bB u v u1 v1) (h3 : RW nS nF nT nW bB u' v') (h4 : SoU u1 u') (h5 : SoV v1 v') (h6 : v'.1 2 70 = v1.1 2 70) (h7 : u'.1 0 = u1.1 0) (h8 : v'.1 0 = v1.1 0) : DQ nS nF nT nW bB u v u' v' := h.tr ⟨h3, h4, h5, by rw [h7, h8]; exact h.2.2.2.1, h6⟩
theorem drawDeed (h : RW nS nF nT nW bB u v) (hs : u.1 0 4 = v.1 0 37) {w : Nat} (hw : w < nW) : R2 (f_X10_drawDeed u (nI w)) (f_X12_drawsFor v (nI w)) (DQ nS nF nT nW bB u v) := by
  have hb := h.b
  obtain ⟨d, u1, v1, hd, e1, e2, hq, hv1, hu1⟩ := both_draw h hs (n := 4) (by omega) (by omega)
  have h1 := hq.1
  have gF : x_ga v1 2 (1 : Int32) = nI nF := by rw [kl_1, ga_in (by omega)]; exact h1.v1
  have gT : x_ga v1 2 (2 : Int32) = nI nT := by rw [kl_2, ga_in (by omega)]; exact h1.v2
  unfold f_X10_drawDeed f_X12_drawsFor
  rw [kl_4, e1, e2, bo_some, bo_some]
  dsimp only
  -- the rest behind a walk or a thing
  have r36 : ∀ x : XM, d < 2 → f_X12_drawsFor_36 x (nI w) (nI d) = some x := by
    intro x hx
    unfold f_X12_drawsFor_36 f_X12_drawsFor_66
    rw [if_neg (by rw [kl_2, nI_eq (by omega) (by omega)]; omega), if_neg (by rw [kl_3, nI_eq (by omega) (by omega)]; omega)]
  have go : d < 2 → R2 (if u1.1 1 1 ≤ 0 then some u1 else x_bo (f_X10_draw u1 (u1.1 1 1)) (fun y3 => x_bo (f_X10_setOut y3.2 (nI w) y3.1) (fun y4 => some y4.2))) (if (2 : Int32) ≤ nI d then f_X12_drawsFor_36 v1 (nI w) (nI d) else if x_ga v1 2 (1 : Int32) ≤ 0 then f_X12_drawsFor_36 v1 (nI w) (nI d) else x_bo (f_X12_draw v1 (x_ga v1 2 (1 : Int32))) (fun y5 => x_bo (f_X12_doIf y5.2 0 (nI w) y5.1) (fun y6 => f_X12_drawsFor_36 y6 (nI w) (nI d)))) (DQ nS nF nT nW bB u v) := by
    intro hx
    rw [h1.u1, gF, if_neg (show ¬ (2 : Int32) ≤ nI d by rw [kl_2, nI_leI (by omega) (by omega)]; omega)]
    by_cases c : nI nF ≤ 0
    · rw [if_pos c, if_pos c, r36 v1 hx]
      exact R2_some hq
    · have hF : 1 ≤ nF := by
        rcases Nat.eq_zero_or_pos nF with z | z
        · subst z; exact absurd (by decide) c
        · exact z
      obtain ⟨f, u2, v2, hf, e3, e4, hq2, hv2, hu2⟩ := both_draw h1 hq.2.2.2.1 (n := nF) hF (by omega)
      obtain ⟨r, u3, v3, g1, g2, g3, g4, g5, g6, g7, g8⟩ := deed_if hq2.1 (d_walk hq2.1 hw hf)
      rw [pf9] at g1
      rw [if_neg c, if_neg c, e3, e4, bo_some, bo_some]
      dsimp only
      rw [g1, g2, bo_some, bo_some, r36 v3 hx]
      exact R2_some ((hq.tr hq2).deed g3 g4 g5 g6 g7 g8)
  rcases (show d = 0 ∨ d = 1 ∨ d = 2 ∨ d = 3 by omega) with rfl | rfl | rfl | rfl
  · rw [if_pos (show nI 0 = 0 from rfl)]
    exact go (by omega)
  · rw [if_neg (show ¬ nI 1 = 0 by decide), if_pos (show nI 1 = 1 from rfl)]
    exact go (by omega)
  · rw [if_neg (show ¬ nI 2 = 0 by decide), if_neg (show ¬ nI 2 = 1 by decide), if_pos (show nI 2 = 2 from rfl), if_pos (show (2 : Int32) ≤ nI 2 by decide), h1.u2]
    unfold f_X12_drawsFor_36
    rw [if_pos (show nI 2 = 2 from rfl), gT]
    have r66 : ∀ x : XM, f_X12_drawsFor_66 x (nI w) (nI 2) = some x := by
      intro x
      unfold f_X12_drawsFor_66
      rw [if_neg (by decide)]
    by_cases c : nI nT ≤ 0
    · rw [if_pos c, if_pos c, r66]
      exact R2_some hq
    · have hT : 1 ≤ nT := by
        rcases Nat.eq_zero_or_pos nT with z | z
        · subst z; exact absurd (by decide) c
        · exact z
      obtain ⟨f, u2, v2, hf, e3, e4, hq2, hv2, hu2⟩ := both_draw h1 hq.2.2.2.1 (n := nT) hT (by omega)
      obtain ⟨r, u3, v3, g1, g2, g3, g4, g5, g6, g7, g8⟩ := deed_if hq2.1 (d_learn hq2.1 hw hf)
      rw [pf10] at g1
      have g1 := Option.some.inj g1
      rw [if_neg c, if_neg c, e3, e4, bo_some, bo_some]
      dsimp only
      rw [lt_eq, g1, g2, bo_some, r66]
      exact R2_some ((hq.tr hq2).deed g3 g4 g5 g6 g7 g8)
  · rw [if_neg (show ¬ nI 3 = 0 by decide), if_neg (show ¬ nI 3 = 1 by decide), if_neg (show ¬ nI 3 = 2 by decide), if_pos (show (2 : Int32) ≤ nI 3 by decide)]
    unfold f_X12_drawsFor_36 f_X12_drawsFor_66
    rw [if_neg (show ¬ nI 3 = 2 by decide), if_pos (show nI 3 = 3 from rfl)]
    obtain ⟨r, u3, v3, g1, g2, g3, g4, g5, g6, g7, g8⟩ := deed_if h1 (d_rest h1 hw)
    rw [pf12] at g1
    have g1 := Option.some.inj g1
    rw [lt_eq, g1, g2, bo_some]
    exact R2_some (hq.deed g3 g4 g5 g6 g7 g8)
theorem lift_both (h : RW nS nF nT nW bB u v) {k : Int32} : ∃ N, RW nS nF nT nW bB (f_X10_lift u k).2 (x_row v 2 N) ∧ x_pa v 2 71 k = x_row v 2 N ∧ SoU u (f_X10_lift u k).2 ∧ SoV v (x_row v 2 N) ∧ N 70 = v.1 2 70 ∧ (f_X10_lift u k).2.1 0 = u.1 0 := by
  have e : x_pa v 2 71 k = x_row v 2 (up (v.1 2) 71 k) := by rw [kl_71, pa_in (by omega)]
  have hN : ∀ j, j < 70 ∨ 111 ≤ j → up (v.1 2) 71 k j = v.1 2 j := fun j hj => up_ne (by omega)
  by_cases c : v.1 2 71 = k
  · have e2 : up (v.1 2) 71 k = v.1 2 := by
      funext j
      by_cases z : j = 71
      · subst z; rw [up_eq, c]
      · rw [up_ne z]
    refine ⟨v.1 2, ?_, by rw [e, e2], ?_, SoV.row (fun _ _ => rfl), rfl, ?_⟩
    · rw [row_self]
      unfold f_X10_lift; rw [h.mood, if_pos c]; exact h
    · unfold f_X10_lift; rw [h.mood, if_pos c]; exact SoU.rf
    · unfold f_X10_lift; rw [h.mood, if_pos c]
  · obtain ⟨r, u', h1, h2, h3, h4, h5⟩ := d_mood h (k := k) (y := 0)
    have hr : r = 0 := by
      unfold f_X12_why at h2
      rw [if_neg (by decide), if_neg (by decide), if_neg (by decide), if_neg (by decide), if_neg (by decide), if_neg (by decide), show x_ga v 2 (71 : Int32) = v.1 2 71 from by rw [kl_71, ga_in (by omega)], if_neg c] at h2
      exact (Option.some.inj h2).symm
    have h1' : f_X10_lift u k = (r, u') := by
      unfold f_X10_perform at h1
      rw [if_neg (by decide), if_neg (by decide), if_neg (by decide), if_neg (by decide), if_neg (by decide), if_neg (by decide), if_pos rfl] at h1
      exact Option.some.inj h1
    obtain ⟨N, g1, g2, g3⟩ := h5 hr v rfl
    have hN2 : up (v.1 2) 71 k = N := by
      unfold f_X12_live at g1
      rw [if_neg (by decide), if_neg (by decide), if_neg (by decide), if_neg (by decide), if_neg (by decide), if_neg (by decide), lt_eq, e] at g1
      have := congrArg (fun q : XM => q.1 2) (Option.some.inj g1)
      simpa only [row_at] using this
    subst hN2
    rw [h1']
    exact ⟨_, g2, e, SoU.of h3, SoV.row hN, up_ne (by omega), h3.2 0 (by decide)⟩
end DR
