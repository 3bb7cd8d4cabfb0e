-- gather, the call.
section GC
variable {nS nF nT nW bB : Nat} {u w v m : XM}
theorem b_gather (h : RelN nS nF nT nW bB w v) (x : Int32) : R2 (f_X11_gather w x) (f_X12_gather v x) Both := by
  have h1 := h.th (x := 0)
  have hb := h.1.1.1
  have h64 := p2_64 hb.2.2.1
  unfold f_X11_gather f_X12_gather
  simp only [lt_eq]
  generalize x_si v 0 0 0 = v1 at h1 ⊢
  have r := h1.rw
  rcases h_still h1 x with ⟨j, hj, rfl, e1, e2⟩ | ⟨e1, e2⟩
  · rw [e1, e2, if_neg one0, bo_some, if_neg one0]
    obtain ⟨q1, q2, q3, q4, q5, q6, q7⟩ := wkN r hj
    generalize hp : paN v1 j = p at q3 q4 q5
    generalize hs : atN v1 j = s at q1 q2
    obtain ⟨y12, e3, c1, c2⟩ := c_spreadAll (W := x_sub w 300) r q3 q4
    obtain ⟨y9, e4, d1, d2⟩ := r_layApart r q3 q4
    have ed : y9.1 2 = v1.1 2 := d1.2 2 (by simp)
    obtain ⟨y10, e5, d3, d4⟩ := r_layMore r q3 q4 ed d2
    have ed2 : y10.1 2 = v1.1 2 := (d3.2 2 (by simp)).trans ed
    obtain ⟨tm, htm, etm⟩ : ∃ tm, tm < 2 ^ nT ∧ (((1 : Int32) <<< (nI nT &&& 31)) - (1 : Int32)) &&& ((v1.1 2 (94 + j)) ^^^ (-1 : Int32)) = nI tm := by
      rw [i_andc]
      exact pk_andE _ nT (ones_n nT (by omega))
    have hP1 : PT v1 nS nT p tm 1 y12 := by
      have z : ∀ s, s < 8 → y12.1 8 s = 0 := fun s hs => by rw [c1.2 8 (by simp)]; exact h1.road.2.2.2 s hs
      refine ⟨c2, z, fun k hk _ s hs => ?_⟩
      obtain rfl : k = 0 := by omega
      rw [TC_0, show 8 * 0 + s = s by omega]
      exact z s (by omega)
    obtain ⟨y13, e6, f1, f2⟩ := c_plan r hP1 htm
    have lT := T_LK r q3 q4 (show tm < 64 by omega) q1
    have lC := TC_le r (p := p) (s := s) htm
    have lP := pc_le tm
    have lR := TR_le r (p := p) (s := s) (show tm < 64 by omega)
    have e7 : f_X2_findOrder (x_sub w 300) (x_sub w 5) (nI j) = if nI (TC_ v1 nT p tm s) < 65536 then x_lp (φ := XM → Int32 → Int32 → Int32 → Option (Int32 × XM)) (fun _ _ _ _ => none) (f_X2_findOrder_93 (x_sub w 5)) x_NN (x_si y13 0 8 0) (nI tm) (nI s) (nI (TC_ v1 nT p tm s)) else some ((-1 : Int32), y13) := by
      unfold f_X2_findOrder
      simp only [lt_eq]
      rw [rg_in (by omega) (by omega), rg_in (by omega) (by omega), rg_in (by omega) (by omega), show (x_sub w 5).1 1 2 = nI nT from r.u2, show (x_sub (x_sub w 5) 26).1 1 j = v1.1 2 (94 + j) from r.known hj, etm, show (x_sub (x_sub w 5) 18).1 1 j = nI s from (r.at_ hj).trans q2, show (x_sub (x_sub w 5) 14).1 1 j = nI p from (r.pace hj).trans q5, e3, bo_some, e6, bo_some, kl_8, pk_mul, nI_add, rg_in (by omega) (by omega), show (x_sub y13 7).1 1 (tm * 8 + s) = nI (TC_ v1 nT p tm s) from by rw [Nat.mul_comm]; exact f2.2.2 tm (by omega) subI_rf s q1]
    rw [e7, kl_65, nI_add, ck_in (by omega) (by omega), ga_in (by omega), q5, e4, bo_some, e5, bo_some, kl_94, nI_add, ck_in (by omega) (by omega), kl_74, nI_add, ck_in (by omega) (by omega), kl_2, ga_in (by omega), ga_in (by omega), ga_in (by omega), ed2, show v1.1 2 2 = nI nT from r.v2, etm, q2, kl_8, pk_mul, nI_add, ck_in (by omega) (by omega), ga_in (by omega), d4 tm htm s q1]
    have fM : Fr [0, 2, 6, 8, 14] (x_sub w 300) y13 := (c1.mono (fun i hi => by simp at hi ⊢; omega)).tr (f1.mono (fun i hi => by simp at hi ⊢; omega))
    have fm : Fr [0, 11, 13, 14, 15] v1 y10 := (d1.mono (fun i hi => by simp at hi ⊢; omega)).tr (d3.mono (fun i hi => by simp at hi ⊢; omega))
    have f0M : y13.1 0 = (x_sub w 300).1 0 := (f1.2 0 (by simp)).trans (c1.2 0 (by simp))
    have f0m : y10.1 0 = v1.1 0 := (d3.2 0 (by simp)).trans (d1.2 0 (by simp))
    by_cases c : TC_ v1 nT p tm s < 65536
    · rw [if_pos (show nI (TC_ v1 nT p tm s) < 65536 from nI_lt (b := 65536) c (by omega)), show TR_ v1 nT p tm s = TC_ v1 nT p tm s by unfold LK at lT; omega, if_pos (show nI (TC_ v1 nT p tm s) < 100000 from nI_lt (b := 100000) (by omega) (by omega))]
      generalize nI (TC_ v1 nT p tm s) = hh
      have key : R2 (x_lp (φ := XM → Int32 → Int32 → Int32 → Option (Int32 × XM)) (fun _ _ _ _ => none) (f_X2_findOrder_93 (x_sub w 5)) x_NN (x_si y13 0 8 0) (nI tm) (nI s) hh) (x_lp (φ := XM → Int32 → Int32 → Int32 → Option (Int32 × XM)) (fun _ _ _ _ => none) (f_X12_gather_93) x_NN (x_si y10 0 31 0) (nI tm) (nI s) hh) (fun a b => a.1 = b.1 ∧ Rel (x_put w 300 15 a.2) b.2) := by
        refine lp2_ind (σ := XM × XM × Nat × Nat × Nat) (fun (K : XM → Int32 → Int32 → Int32 → Option (Int32 × XM)) z => K z.1 (nI z.2.2.1) (nI z.2.2.2.1) hh) (fun (K : XM → Int32 → Int32 → Int32 → Option (Int32 × XM)) z => K z.2.1 (nI z.2.2.1) (nI z.2.2.2.1) hh) (fun n z => n = pcN z.2.2.1 ∧ GInv (x_sub w 300) v1 nS nT p 0 z.1 z.2.1 z.2.2.1 z.2.2.2.1 z.2.2.2.2 ∧ z.2.2.1 ≤ tm ∧ subI z.2.2.1 tm ∧ z.2.2.2.1 < nS ∧ z.2.2.2.2 + pcN z.2.2.1 ≤ 6 ∧ TC_ v1 nT p z.2.2.1 z.2.2.2.1 < 65536 ∧ PT v1 nS nT p tm (tm + 1) z.1 ∧ (∀ g s, g < nS → s < nS → z.2.1.1 13 (8 * s + g) = nI (hN (farO v1 g p s))) ∧ ∀ k, k < 2 ^ nT → ∀ s, s < nS → z.2.1.1 14 (8 * k + s) = nI (TR_ v1 nT p k s)) _ ?_ x_NN x_NN (pcN tm) (x_si y13 0 8 0, x_si y10 0 31 0, tm, s, 0) (by have := pc_le tm; show pcN tm < 1000000; omega) (by have := pc_le tm; show pcN tm < 1000000; omega) ⟨rfl, ?_⟩
        · rintro n K K' ⟨M, m, k, s, cn⟩ ⟨hn, hI, g1, g2, g3, g4, g5, g6, g7, g8⟩ ih
          have hI2 := hI
          obtain ⟨i1, i2, i3, i4, i5, i6, i7, i8⟩ := hI2
          dsimp only at i1 i2 i3 i4 i5 i6 i7 i8 hn hI g1 g2 g3 g4 g5 g6 g7 g8
          show R2 (f_X2_findOrder_93 (x_sub w 5) K M (nI k) (nI s) hh) (f_X12_gather_93 K' m (nI k) (nI s) hh) _
          have em : m.1 2 = v1.1 2 := i4.2 2 (by simp)
          unfold f_X2_findOrder_93 f_X12_gather_93
          rw [i3]
          by_cases c0 : k = 0
          · subst c0
            rw [if_pos (show nI 0 = 0 from rfl), if_pos (show nI 0 = 0 from rfl), ite_self]
            exact R2_some ⟨rfl, (gather_end h1 hI (by omega)).rel⟩
          · have hpc := pc_pos k (by omega) c0
            obtain ⟨t1, t2, t3, t4⟩ := first_at r (p := p) (s := s) (show k < 2 ^ nT by omega) c0
            have hcf := c_firstOf (M := M) r g6 (show k < 2 ^ nT by omega) (by omega) g2 g3
            generalize (fi (fun t => bt (nI k) t) (fC v1 nT p k s) nT).1 = f0 at t1 t2 t3 t4 hcf
            have b1 := m_bit k (by omega) f0 (by omega) t2
            have b2 := p2_pos f0
            have b3 := pc_m k (by omega) f0 (by omega) t2
            have b4 := ysN_s r t1
            have hTC : TC_ v1 nT p (k - 2 ^ f0) (ysN v1 f0) ≤ TC_ v1 nT p k s := by rw [← t3]; unfold fC; omega
            rw [if_neg (show ¬ (6 : Int32) ≤ nI cn from nI_ge (b := 6) (by omega) (by omega)), if_neg (show ¬ nI k = 0 from nI_ne0 (by omega) (by omega)), if_neg (show ¬ nI k = 0 from nI_ne0 (by omega) (by omega)), hcf, bo_some, r_firstT (cn := cn) r q3 q4 em g7 g8 (by omega) c0 g3 g5 i6 (by omega) t1 t2 t3 t4]
            rw [lt_eq, lt_eq, put_rput (by omega) (by omega), lt_eq, si_row, row_off (by omega), i3, nI_1, lt_eq, b1.2, lt_eq, rg_in (by omega) (by omega), show (x_sub (x_sub w 5) 10).1 1 f0 = nI (ysN v1 f0) from (r.thg t1).trans b4.2]
            refine ih (pcN (k - 2 ^ f0)) (x_row (x_row M (1 + 13) (up (M.1 (1 + 13)) cn (nI f0))) 0 (up (M.1 0) 8 (nI (cn + 1))), x_row (x_row m 15 (up (m.1 15) cn (nI f0))) 0 (up (m.1 0) 31 (nI (cn + 1))), k - 2 ^ f0, ysN v1 f0, cn + 1) (by omega) ⟨rfl, ⟨(i1.row (by simp)).row (by simp), fun j hj => ?_, ?_, (i4.row (by simp)).row (by simp), fun j hj => ?_, ?_, fun i hi => ?_, i8⟩, (show k - 2 ^ f0 ≤ tm by omega), subI_m (by omega) (by omega) t2 g2, b4.1, (show cn + 1 + pcN (k - 2 ^ f0) ≤ 6 by omega), (show TC_ v1 nT p (k - 2 ^ f0) (ysN v1 f0) < 65536 by omega), g6, g7, g8⟩
            · rw [row_at, up_ne hj]; exact i2 j hj
            · rw [row_at, up_eq]
            · rw [row_at, up_ne hj]; exact i5 j hj
            · rw [row_at, up_eq]
            · have hi : i < cn + 1 := hi
              show up (M.1 14) cn (nI f0) i = up (m.1 15) cn (nI f0) i
              by_cases ci : i = cn
              · subst ci; rw [up_eq, up_eq]
              · rw [up_ne ci, up_ne ci]; exact i7 i (by omega)
        · rw [si_row, si_row]
          have d2' : ∀ g s, g < nS → s < nS → y10.1 13 (8 * s + g) = nI (hN (farO v1 g p s)) := fun g s hg hs => by rw [d3.2 13 (by simp)]; exact d2 g s hg hs
          refine ⟨⟨fM.row (by simp), fun j hj => ?_, ?_, fm.row (by simp), fun j hj => ?_, ?_, fun i hi => absurd hi (Nat.not_lt_zero _), f2.2.1⟩, Nat.le_refl _, subI_rf, q1, (by have := pc_le tm; show 0 + pcN tm ≤ 6; omega), c, f2, d2', d4⟩
          · rw [row_at, up_ne hj, f0M]
          · rw [row_at, up_eq]; rfl
          · rw [row_at, up_ne hj, f0m]
          · rw [row_at, up_eq]; rfl
      obtain ⟨a, b, k1, k2, k3, k4⟩ := key
      rw [k1, k2, bo_some]
      exact R2_some ⟨k3, k4⟩
    · rw [if_neg (fun q => c (by rw [kl_65536, nI_ltI (by omega) (by omega)] at q; exact q)), if_neg (fun q => by rw [kl_100000, nI_ltI (by omega) (by omega)] at q; unfold LK at lT; omega), bo_some]
      refine R2_some ⟨rfl, ?_⟩
      obtain ⟨n0, n1, n2, n3, n4⟩ := h1.road.2.1
      have hI : GInv (x_sub w 300) v1 nS nT p 0 y13 y10 tm s n0 := ⟨fM, fun j _ => by rw [f0M], by rw [f0M]; exact n2, fm, fun j _ => by rw [f0m], by rw [f0m]; exact n3, fun i hi => ?_, f2.2.1⟩
      · exact (gather_end h1 hI n1).rel
      · rw [f1.2 14 (by simp), c1.2 14 (by simp), d3.2 15 (by simp), d1.2 15 (by simp)]; exact n4 i hi
  · rw [e1, e2, if_pos rfl, bo_some, if_pos rfl]
    exact R2_some ⟨rfl, h1.rel⟩
end GC
