-- where somebody set out, the call.
theorem sub_off {v : XM} {o i : Nat} {g : Nat → Int32} (h : i < o) : x_sub (x_row v i g) o = x_sub v o := by
  refine Prod.ext ?_ rfl
  funext j
  show (if j + o = i then g else v.1 (j + o)) = v.1 (j + o)
  rw [if_neg (by omega)]
theorem row_put {v M : XM} {o n i : Nat} {g : Nat → Int32} (h : i < o) : x_row (x_put v o n M) i g = x_put (x_row v i g) o n M := by
  refine Prod.ext ?_ rfl
  funext j
  show (if j = i then g else (if o ≤ j ∧ j < o + n then M.1 (j - o) else v.1 j)) = if o ≤ j ∧ j < o + n then M.1 (j - o) else (if j = i then g else v.1 j)
  by_cases c : o ≤ j ∧ j < o + n
  · rw [if_pos c, if_pos c, if_neg (by omega)]
  · rw [if_neg c, if_neg c]
section CN
variable {nS nF nT nW bB : Nat} {u w v m M W T : XM}
theorem c_find (h : RW nS nF nT nW bB u v) (ht : RTape w v) (t2 : ∀ j, j < 940 → T.1 2 j = v.1 1 j) {n2 : Nat} (hn : 2 * n2 ≤ 940) (h1n : 1 ≤ n2) : wp (x_lp (φ := XM → Int32 → Int32 → Option (Int32 × XM)) (fun _ _ _ => none) (f_X2_findOrigins_32 u T) x_NN W (nI n2) (0 : Int32)) (fun r => (¬ (∀ i, i < n2 → byN v (2 * i) < nS) ∧ r = (-1, W)) ∨ ((∀ i, i < n2 → byN v (2 * i) < nS) ∧ Fr [0, 2, 6] W r.2 ∧ (∀ j, j ≠ 11 → r.2.1 0 j = W.1 0 j) ∧ r.1 = bs (ogB v n2) nS ∧ ((bs (ogB v n2) nS = 0 ∧ r.2.1 0 11 = W.1 0 11) ∨ (¬ bs (ogB v n2) nS = 0 ∧ ∃ b, b < nS ∧ r.2.1 0 11 = nI b ∧ Lf v nS (bs (ogB v n2) nS) nS b)))) := by
  have hb := h.b
  refine lp_fora (σ := Unit) (n := n2) (fun (K : XM → Int32 → Int32 → Option (Int32 × XM)) _ c => K W (nI n2) c) (fun i _ => ∀ k, k < i → byN v (2 * k) < nS) _ ?_ ?_ x_NN () (by show n2 < 1000000; omega) (fun k hk => absurd hk (Nat.not_lt_zero _))
  · rintro K i _ hi hp ih
    show wp (f_X2_findOrigins_32 u T K W (nI n2) (nI i)) _
    obtain ⟨a1, a2⟩ := byN_s ht (show 2 * i < 940 by omega)
    unfold f_X2_findOrigins_32 f_X8_at
    simp only [lt_eq]
    rw [if_neg (nI_ge hi (by omega)), kl_2, pk_mul, rg_in (by omega) (by omega), show (x_sub T 1).1 1 (2 * i) = _ from (t2 _ (by omega)).trans a1, (sp_both h a2).1]
    by_cases c : byN v (2 * i) < nS
    · rw [decide_eq_true c, if_neg (show ¬ bI true = 0 by decide), nI_1]
      refine ih () (fun k hk => ?_)
      by_cases ck : k = i
      · rw [ck]; exact c
      · exact hp k (by omega)
    · rw [decide_eq_false c, if_pos bIf, wp_some]
      exact Or.inl ⟨fun q => c (q i hi), rfl⟩
  · rintro K _ hp
    show wp (f_X2_findOrigins_32 u T K W (nI n2) (nI n2)) _
    obtain ⟨M0, e0, f0, f6⟩ := c_spreadAll (W := W) (p := 1) h (by omega) (by omega)
    have h0 : 0 < nS := by have := hp 0 (by omega); omega
    unfold f_X2_findOrigins_32
    rw [if_pos (nI_le (Nat.le_refl _) (by omega)), kl_1, e0, bo_some]
    refine lp_fora (σ := Int32) (n := nS) (fun (K : XM → Int32 → Int32 → Int32 → Option (Int32 × XM)) a c => K M0 (nI n2) a c) (fun i a => a = bs (ogB v n2) i) _ ?_ ?_ x_NN 0 (by show nS < 1000000; omega) rfl
    · rintro K' i _ hi rfl ih
      show wp (f_X2_findOrigins_76 u T K' M0 (nI n2) _ (nI i)) _
      have hu : bs (ogB v n2) (i + 1) = if ogB v n2 i = true then bs (ogB v n2) i ||| ((1 : Int32) <<< (nI i &&& 31)) else bs (ogB v n2) i := rfl
      unfold f_X2_findOrigins_76 f_X2_findOrigins_108
      rw [show u.1 1 0 = nI nS from h.u0, if_neg (nI_ge hi (by omega)), c_isO h ht t2 f6 hn hp hi, bo_some, nI_1]
      cases c : ogB v n2 i with
      | false =>
        rw [if_pos bIf]
        exact ih _ (by rw [hu, c, if_neg ft])
      | true =>
        rw [if_neg (show ¬ bI true = 0 by decide), lt_eq]
        exact ih _ (by rw [hu, c, if_pos rfl])
    · rintro K' _ rfl
      show wp (f_X2_findOrigins_76 u T K' M0 (nI n2) _ (nI nS)) _
      unfold f_X2_findOrigins_76
      rw [show u.1 1 0 = nI nS from h.u0, if_pos (nI_le (Nat.le_refl _) (by omega))]
      by_cases c : bs (ogB v n2) nS = 0
      · rw [if_pos c, wp_some]
        exact Or.inr ⟨hp, f0.mono (fun i hi => by simp at hi ⊢; omega), fun j _ => by rw [f0.2 0 (by simp)], rfl, Or.inl ⟨c, by rw [f0.2 0 (by simp)]⟩⟩
      · obtain ⟨_, e1, b, b1, rfl, b3⟩ := c_best (X := bs (ogB v n2) nS) h f6 h0
        rw [if_neg c, e1, bo_some, lt_eq, wp_some]
        exact Or.inr ⟨hp, (f0.mono (fun i hi => by simp at hi ⊢; omega)).si (by simp), fun j hj => by rw [si_row, row_at, up_ne hj, f0.2 0 (by simp)], rfl, Or.inr ⟨c, b, b1, by rw [si_row, row_at, up_eq], b3⟩⟩
theorem r_find (h : RW nS nF nT nW bB u v) (ht : RTape w v) {n2 : Nat} (hn : 2 * n2 ≤ 940) (h1n : 1 ≤ n2) : wp (x_lp (φ := XM → Int32 → Int32 → Option (Int32 × XM)) (fun _ _ _ => none) (f_X12_came_32) x_NN v (nI (2 * n2)) (0 : Int32)) (fun r => (¬ (∀ i, i < n2 → byN v (2 * i) < nS) ∧ r = (-1, v)) ∨ ((∀ i, i < n2 → byN v (2 * i) < nS) ∧ Fr [0, 11, 13] v r.2 ∧ (∀ j, j ≠ 34 → r.2.1 0 j = v.1 0 j) ∧ r.1 = bs (ogB v n2) nS ∧ ((bs (ogB v n2) nS = 0 ∧ r.2.1 0 34 = v.1 0 34) ∨ (¬ bs (ogB v n2) nS = 0 ∧ ∃ b, b < nS ∧ r.2.1 0 34 = nI b ∧ Lf v nS (bs (ogB v n2) nS) nS b)))) := by
  have hb := h.b
  refine lp_ind (σ := Int32) (fun (K : XM → Int32 → Int32 → Option (Int32 × XM)) s => K v (nI (2 * n2)) s) (fun i s => ∃ j, j + i = n2 ∧ s = nI (2 * j) ∧ ∀ k, k < j → byN v (2 * k) < nS) _ ?_ x_NN n2 0 (by show n2 < 1000000; omega) ⟨0, by omega, rfl, fun k hk => absurd hk (Nat.not_lt_zero _)⟩
  rintro i K _ ⟨j, hj, rfl, hp⟩ ih
  show wp (f_X12_came_32 K v (nI (2 * n2)) (nI (2 * j))) _
  unfold f_X12_came_32
  by_cases cj : j = n2
  · subst cj
    obtain ⟨m, f2, k1, k2⟩ := r_layApart h (p := 1) (by omega) (by omega)
    have em : m.1 2 = v.1 2 := k1.2 2 (by simp)
    have em1 : m.1 1 = v.1 1 := k1.2 1 (by simp)
    have h0 : 0 < nS := by have := hp 0 (by omega); omega
    rw [if_pos (nI_le (Nat.le_refl _) (by omega)), show f_X12_layApart v 1 = some m from f2, bo_some]
    refine lp_fora (σ := Int32) (n := nS) (fun (K : XM → Int32 → Int32 → Int32 → Option (Int32 × XM)) a c => K m (nI (2 * j)) a c) (fun i a => a = bs (ogB v j) i) _ ?_ ?_ x_NN 0 (by show nS < 1000000; omega) rfl
    · rintro K' i _ hi rfl ih'
      show wp (f_X12_came_67 K' m (nI (2 * j)) _ (nI i)) _
      have hu : bs (ogB v j) (i + 1) = if ogB v j i = true then bs (ogB v j) i ||| ((1 : Int32) <<< (nI i &&& 31)) else bs (ogB v j) i := rfl
      unfold f_X12_came_67 f_X12_came_92
      rw [show x_ga m 2 (0 : Int32) = nI nS from by rw [kl_0, ga_in (by omega), em]; exact h.v0, if_neg (nI_ge hi (by omega)), r_cameFrom h ht em1 k2 hn hp hi, bo_some, nI_1]
      cases c : ogB v j i with
      | false =>
        rw [if_pos bIf]
        exact ih' _ (by rw [hu, c, if_neg ft])
      | true =>
        rw [if_neg (show ¬ bI true = 0 by decide), lt_eq]
        exact ih' _ (by rw [hu, c, if_pos rfl])
    · rintro K' _ rfl
      show wp (f_X12_came_67 K' m (nI (2 * j)) _ (nI nS)) _
      unfold f_X12_came_67
      rw [show x_ga m 2 (0 : Int32) = nI nS from by rw [kl_0, ga_in (by omega), em]; exact h.v0, if_pos (nI_le (Nat.le_refl _) (by omega))]
      by_cases c : bs (ogB v j) nS = 0
      · rw [if_pos c, wp_some]
        exact Or.inr ⟨hp, k1.mono (fun i hi => by simp at hi ⊢; omega), fun j _ => by rw [k1.2 0 (by simp)], c.symm, Or.inl ⟨c, by rw [k1.2 0 (by simp)]⟩⟩
      · rw [if_neg c, lt_eq]
        refine wp_mono (r_best (X := bs (ogB v j) nS) h em k2 h0) ?_
        rintro r ⟨g1, g2, g3, b, g4, g5, g6⟩
        exact Or.inr ⟨hp, (k1.mono (fun i hi => by simp at hi ⊢; omega)).tr (g2.mono (fun i hi => by simp at hi ⊢; omega)), fun j hj => by rw [g3 j hj, k1.2 0 (by simp)], g1, Or.inr ⟨c, b, g4, g5, g6⟩⟩
  · obtain ⟨a1, a2⟩ := byN_s ht (show 2 * j < 940 by omega)
    rw [if_neg (nI_ge (show 2 * j < 2 * n2 by omega) (by omega)), ck_in (by omega) (by omega), ga_in (by omega), a1, (sp_both h a2).2, lt_eq]
    by_cases c : byN v (2 * j) < nS
    · rw [decide_eq_true c, if_neg (show ¬ bI true = 0 by decide), kl_2, nI_add]
      refine ih (i - 1) _ (by omega) ⟨j + 1, by omega, rfl, fun k hk => ?_⟩
      by_cases ck : k = j
      · rw [ck]; exact c
      · exact hp k (by omega)
    · rw [decide_eq_false c, if_pos bIf, wp_some]
      exact Or.inl ⟨fun q => c (q j (by omega)), rfl⟩
theorem b_came (h : RelN nS nF nT nW bB w v) : R2 (f_X11_came w) (f_X12_came v) Both := by
  have h1 := h.th (x := 0)
  have hb := h.1.1.1
  obtain ⟨⟨n, n1, n2, n3⟩, t2, t3⟩ := h1.tape
  unfold f_X11_came f_X12_came f_X12_take
  simp only [lt_eq]
  generalize x_si v 0 0 0 = v1 at h1 n3 t2 t3 ⊢
  have h2 : RelN nS nF nT nW bB (x_si w 1 2 0) (x_si v1 0 2 0) := by
    rw [si_row, si_row]
    refine h1.tp rfl (fun i a b => row_off a) ⟨rfl, rfl⟩ (fun i hi => row_off (by omega)) (fun j a b c => by rw [row_at, up_ne b]) ⟨⟨0, by omega, by rw [row_at, up_eq]; rfl, by rw [row_at, up_eq]; rfl⟩, fun i hi => ?_, ?_⟩
    · rw [row_off (by omega), row_off (by omega)]; exact t2 i hi
    · rw [row_at, row_at, up_ne (by omega), up_ne (by omega)]; exact t3
  have r := h2.rw
  have t := h2.tape
  have s5 : x_sub (x_si w 1 2 0) 5 = x_sub w 5 := by rw [si_row]; exact sub_off (by omega)
  have s300 : x_sub (x_si w 1 2 0) 300 = x_sub w 300 := by rw [si_row]; exact sub_off (by omega)
  have sp : ∀ M, x_si (x_put w 300 15 M) 1 2 0 = x_put (x_si w 1 2 0) 300 15 M := fun M => by
    rw [si_row, si_row, row_put (by omega), put_out (by omega)]
  rw [s5] at r
  have bad : ∀ (f : Option (Int32 × XM)) (g : Option (Int32 × XM)), f = some (-1, x_sub w 300) → g = some (-1, x_si v1 0 2 0) → R2 (x_bo f (fun y1 => some (y1.1, x_si (x_put w 300 15 y1.2) 1 2 0))) g Both := by
    intro f g e1 e2
    rw [e1, e2, bo_some, put_self]
    exact R2_some ⟨rfl, h2.rel⟩
  have eT : (x_sub w 1).1 0 2 = nI n := n2
  have hT : ∀ j, j < 940 → (x_sub w 1).1 2 j = (x_si v1 0 2 0).1 1 j := fun j hj => by
    rw [si_row, row_off (by omega)]; exact (t2 j hj).1
  unfold f_X2_findOrigins
  rw [eT, n3, kl_2, pk_rem (by omega) (by omega) (by omega), pk_div (by omega) (by omega) (by omega)]
  simp only [lt_eq]
  by_cases c : nI (n % 2) = 0
  · rw [if_pos c, if_pos c]
    have c' : n % 2 = 0 := nI_iff (by omega) (by omega) c
    obtain ⟨k, hk⟩ : ∃ k, n = 2 * k := ⟨n / 2, by omega⟩
    rw [show n / 2 = k by omega]
    rcases rng (a := 1) (b := 6) (by omega) (by omega) (nI k) with ⟨q, q1, q2, q3, q4, q5, q6⟩ | ⟨q1, q2⟩
    · have q7 := nI_iff (by omega) (by omega) q3
      rw [show f_X12_isIn (nI k) 1 6 = 1 from q6, if_neg one0, if_neg (show ¬ nI k < 1 from q4), if_pos (show nI k ≤ 6 from q5), hk]
      obtain ⟨a, f1, g1⟩ := c_find (W := x_sub w 300) r t hT (n2 := k) (by omega) (by omega)
      obtain ⟨b, f2, g2⟩ := r_find r t (n2 := k) (by omega) (by omega)
      rw [f2]
      rcases g1 with ⟨z1, z2⟩ | ⟨z1, z2, z3, z4, z5⟩
      · rcases g2 with ⟨y1, y2⟩ | ⟨y1, y2⟩
        · exact bad _ _ (f1.trans (congrArg some z2)) (congrArg some y2)
        · exact absurd y1 z1
      · rcases g2 with ⟨y1, y2⟩ | ⟨y1, y2, y3, y4, y5⟩
        · exact absurd z1 y1
        · rw [f1, bo_some, sp]
          refine R2_some ⟨z4.trans y4.symm, (road_end h2 (by rw [s300]; exact z2.mono (fun i hi => by simp at hi ⊢; omega)) y2 (fun j a b c => by rw [s300]; exact z3 j c) (fun j a b c => y3 j c) ⟨?_, ?_, ?_⟩).rel⟩
          · rw [z3 9 (by omega), y3 32 (by omega), ← s300]; exact h2.road.2.2.1.1
          · rw [z3 10 (by omega), y3 33 (by omega), ← s300]; exact h2.road.2.2.1.2.1
          · rcases z5 with ⟨x1, x2⟩ | ⟨x1, b1, x2, x3, x4⟩
            · rcases y5 with ⟨x3, x4⟩ | ⟨x3, -⟩
              · rw [x2, x4, ← s300]; exact h2.road.2.2.1.2.2
              · exact absurd x1 x3
            · rcases y5 with ⟨x5, -⟩ | ⟨x5, b2, x6, x7, x8⟩
              · exact absurd x5 x1
              · have e1 := x4 b2 x6
                have e2 := x8 b1 x2
                obtain rfl : b1 = b2 := by omega
                rw [x3, x7]
    · rw [show f_X12_isIn (nI k) 1 6 = 0 from q2, if_pos rfl]
      refine bad _ _ ?_ rfl
      rcases q1 with q1 | ⟨q1, q3⟩
      · rw [if_pos (show nI k < 1 from q1)]
      · rw [if_neg (show ¬ nI k < 1 from q1), if_neg (show ¬ nI k ≤ 6 from q3)]
  · rw [if_neg c, if_neg c]
    exact bad _ _ rfl rfl
end CN
