-- where somebody set out.
def byN (v : XM) (j : Nat) : Nat := (v.1 1 j).toNatClampNeg
theorem byN_s {w v : XM} (h : RTape w v) {j : Nat} (hj : j < 940) : v.1 1 j = nI (byN v j) ∧ byN v j < 256 := by
  obtain ⟨-, b, h1, h2⟩ := h.2.1 j hj
  unfold byN
  rw [h2, nI_clamp (by omega)]
  exact ⟨rfl, h1⟩
def mx (f : Nat → Nat) : Nat → Nat
  | 0 => 0
  | n + 1 => if f n ≤ mx f n then mx f n else f n
theorem mx_le {f : Nat → Nat} {K : Nat} : ∀ n, (∀ i, i < n → f i ≤ K) → mx f n ≤ K
  | 0, _ => Nat.zero_le _
  | n + 1, h => by
    unfold mx
    split
    · exact mx_le n (fun i hi => h i (by omega))
    · exact h n (by omega)
theorem le_mx {f : Nat → Nat} {i : Nat} : ∀ n, i < n → f i ≤ mx f n
  | 0, h => absurd h (Nat.not_lt_zero _)
  | n + 1, h => by
    unfold mx
    by_cases c : i = n
    · subst c; split <;> omega
    · have := le_mx (f := f) n (show i < n by omega)
      split <;> omega
/-- as many of X lie as far from s as i -/
def al (v : XM) (nS : Nat) (X : Int32) (s i : Nat) : Nat := cnt (fun t => bt X t && decide (hN (farO v s 1 t) = hN (farO v s 1 i))) nS
def lf (v : XM) (nS : Nat) (X : Int32) (s : Nat) : Nat := mx (al v nS X s) nS
theorem lf_m (v : XM) (nS : Nat) (X : Int32) (s : Nat) : mx (fun i => if bt X i = true then al v nS X s i else 0) nS = lf v nS X s := by
  apply Nat.le_antisymm
  · refine mx_le _ (fun i hi => ?_)
    have := le_mx (f := al v nS X s) nS hi
    unfold lf
    split <;> omega
  · refine mx_le _ (fun i hi => ?_)
    by_cases z : al v nS X s i = 0
    · omega
    · by_cases y : ∃ t, t < nS ∧ (bt X t && decide (hN (farO v s 1 t) = hN (farO v s 1 i))) = true
      · obtain ⟨t, ht, hy⟩ := y
        rw [Bool.and_eq_true, decide_eq_true_eq] at hy
        have e : al v nS X s t = al v nS X s i := by unfold al; rw [hy.2]
        have := le_mx (f := fun i => if bt X i = true then al v nS X s i else 0) nS ht
        rw [if_pos hy.1, e] at this
        exact this
      · have : ∀ n, n ≤ nS → cnt (fun t => bt X t && decide (hN (farO v s 1 t) = hN (farO v s 1 i))) n = 0 := by
          intro n
          induction n with
          | zero => intro _; rfl
          | succ n ih =>
            intro hn
            unfold cnt
            rw [if_neg (fun q => y ⟨n, by omega, q⟩), ih (by omega)]
        exact absurd (this nS (Nat.le_refl _)) z
def ogB (v : XM) (n2 g : Nat) : Bool := alB (fun i => decide (hN (farO v g 1 (byN v (2 * i))) = byN v (2 * i + 1))) n2
/-- the best to ask of those below i -/
def Lf (v : XM) (nS : Nat) (X : Int32) (i b : Nat) : Prop := ∀ k, k < i → lf v nS X b < lf v nS X k ∨ (lf v nS X b = lf v nS X k ∧ b ≤ k)
section CM
variable {nS nF nT nW bB : Nat} {u w v m M W T : XM}
theorem lf_le (h : RW nS nF nT nW bB u v) {X : Int32} {s : Nat} : lf v nS X s ≤ 8 := by
  have hb := h.b
  exact mx_le _ (fun i _ => Nat.le_trans (cnt_le _) hb.1)
theorem sp_both (h : RW nS nF nT nW bB u v) {b : Nat} (hb : b < 256) : f_X9_hasSpot (x_sub u 1) (nI b) = bI (decide (b < nS)) ∧ f_X12_isSpot v (nI b) = bI (decide (b < nS)) := by
  have hbb := h.b
  rcases h_Spot h (nI b) with ⟨k, hk, e, e1, e2⟩ | ⟨e, e1, e2⟩
  · have := nI_iff (by omega) (by omega) e
    rw [e1, e2, decide_eq_true (show b < nS by omega)]; exact ⟨rfl, rfl⟩
  · rw [e1, e2, decide_eq_false (fun q => e b q rfl)]; exact ⟨rfl, rfl⟩
theorem cH_e {d b : Nat} (hb : b < 256) : cH d = b ↔ hN d = b := by
  unfold cH hN
  split <;> omega
theorem c_isO (h : RW nS nF nT nW bB u v) (ht : RTape w v) (t2 : ∀ j, j < 940 → T.1 2 j = v.1 1 j) {n2 g : Nat} (h6 : ∀ g s, g < nS → s < nS → M.1 6 (8 * g + s) = nI (cH (farO v g 1 s))) (hn : 2 * n2 ≤ 940) (hs : ∀ i, i < n2 → byN v (2 * i) < nS) (hg : g < nS) : f_X2_isOrigin M T (nI n2) (nI g) = some (bI (ogB v n2 g)) := by
  have hb := h.b
  unfold f_X2_isOrigin
  refine wp_eq.mp (lp_fora (σ := Unit) (n := n2) (fun (K : Int32 → Int32 → Int32 → Option (Int32)) _ c => K (nI n2) (nI g) c) (fun i _ => ∀ k, k < i → hN (farO v g 1 (byN v (2 * k))) = byN v (2 * k + 1)) _ ?_ ?_ x_NN () (by show n2 < 1000000; omega) (fun k hk => absurd hk (Nat.not_lt_zero _)))
  · rintro K i _ hi hp ih
    show wp (f_X2_isOrigin_3 M T K (nI n2) (nI g) (nI i)) _
    obtain ⟨a1, a2⟩ := byN_s ht (show 2 * i < 940 by omega)
    obtain ⟨a3, a4⟩ := byN_s ht (show 2 * i + 1 < 940 by omega)
    have a5 := hs i hi
    have a6 := cH_le (farO v g 1 (byN v (2 * i)))
    unfold f_X2_isOrigin_3 f_X8_at f_X2_farFrom
    simp only [lt_eq]
    rw [if_neg (nI_ge hi (by omega)), kl_2, pk_mul, rg_in (n := 940) (k := 2 * i) (by omega) (by omega), show (x_sub T 1).1 1 (2 * i) = _ from (t2 _ (by omega)).trans a1, kl_8, pk_mul, nI_add, rg_in (n := 64) (by omega) (by omega), nI_1 (2 * i), rg_in (n := 940) (k := 2 * i + 1) (by omega) (by omega), show (x_sub T 1).1 1 (2 * i + 1) = _ from (t2 _ (by omega)).trans a3, nI_1 i, show (x_sub M 5).1 1 (g * 8 + byN v (2 * i)) = nI (cH (farO v g 1 (byN v (2 * i)))) from by rw [Nat.mul_comm]; exact h6 g _ hg a5]
    by_cases c : cH (farO v g 1 (byN v (2 * i))) = byN v (2 * i + 1)
    · rw [if_pos (by rw [c])]
      refine ih () (fun k hk => ?_)
      by_cases ck : k = i
      · rw [ck]; exact (cH_e a4).mp c
      · exact hp k (by omega)
    · rw [if_neg (fun q => c (nI_iff (by omega) (by omega) q)), wp_some]
      have : ogB v n2 g = false := by
        cases z : ogB v n2 g with
        | false => rfl
        | true => exact absurd ((cH_e a4).mpr (of_decide_eq_true ((alB_iff n2).mp z i hi))) c
      rw [this]; rfl
  · rintro K _ hp
    show wp (f_X2_isOrigin_3 M T K (nI n2) (nI g) (nI n2)) _
    unfold f_X2_isOrigin_3
    rw [if_pos (nI_le (Nat.le_refl _) (by omega)), wp_some, show ogB v n2 g = true from (alB_iff n2).mpr (fun i hi => decide_eq_true (hp i hi))]; rfl
theorem r_cameFrom (h : RW nS nF nT nW bB u v) (ht : RTape w v) (em1 : m.1 1 = v.1 1) {n2 g : Nat} (h13 : ∀ g s, g < nS → s < nS → m.1 13 (8 * s + g) = nI (hN (farO v g 1 s))) (hn : 2 * n2 ≤ 940) (hs : ∀ i, i < n2 → byN v (2 * i) < nS) (hg : g < nS) : f_X12_cameFrom m (nI g) (nI (2 * n2)) = some (bI (ogB v n2 g)) := by
  have hb := h.b
  unfold f_X12_cameFrom
  refine wp_eq.mp (lp_ind (σ := Int32) (fun (K : Int32 → Int32 → Int32 → Option (Int32)) s => K (nI g) (nI (2 * n2)) s) (fun i s => ∃ j, j + i = n2 ∧ s = nI (2 * j) ∧ ∀ k, k < j → hN (farO v g 1 (byN v (2 * k))) = byN v (2 * k + 1)) _ ?_ x_NN n2 0 (by show n2 < 1000000; omega) ⟨0, by omega, rfl, fun k hk => absurd hk (Nat.not_lt_zero _)⟩)
  rintro i K _ ⟨j, hj, rfl, hp⟩ ih
  show wp (f_X12_cameFrom_2 m K (nI g) (nI (2 * n2)) (nI (2 * j))) _
  unfold f_X12_cameFrom_2
  by_cases cj : j = n2
  · rw [cj, if_pos (nI_le (Nat.le_refl _) (by omega)), wp_some, show ogB v n2 g = true from (alB_iff n2).mpr (fun i hi => decide_eq_true (hp i (by omega)))]; rfl
  · obtain ⟨a1, a2⟩ := byN_s ht (show 2 * j < 940 by omega)
    obtain ⟨a3, a4⟩ := byN_s ht (show 2 * j + 1 < 940 by omega)
    have a5 := hs j (by omega)
    have a6 : hN (farO v g 1 (byN v (2 * j))) ≤ 100000 := hN_le ((far_D h (p := 1) (by omega) (by omega) hg).2.2.1 _ a5)
    have e1 : farO v (byN v (2 * j)) 1 g = farO v g 1 (byN v (2 * j)) := far_back h (by omega) (by omega) a5 hg
    rw [if_neg (nI_ge (show 2 * j < 2 * n2 by omega) (by omega)), ck_in (by omega) (by omega), ga_in (by omega), em1, a1, kl_8, pk_mul, nI_add, ck_in (by omega) (by omega), kl_1, nI_add, ck_in (by omega) (by omega), ga_in (by omega), ga_in (by omega), h13 _ _ a5 hg, em1, a3, kl_2, nI_add, e1]
    by_cases c : hN (farO v g 1 (byN v (2 * j))) = byN v (2 * j + 1)
    · rw [if_pos (by rw [c])]
      refine ih (i - 1) _ (by omega) ⟨j + 1, by omega, rfl, fun k hk => ?_⟩
      by_cases ck : k = j
      · rw [ck]; exact c
      · exact hp k (by omega)
    · rw [if_neg (fun q => c (nI_iff (by omega) (by omega) q)), wp_some]
      have : ogB v n2 g = false := by
        cases z : ogB v n2 g with
        | false => rfl
        | true => exact absurd (of_decide_eq_true ((alB_iff n2).mp z j (by omega))) c
      rw [this]; rfl
theorem cH_i {a b : Nat} (ha : a ≤ 6307 ∨ a = 100000) (hb : b ≤ 6307 ∨ b = 100000) : cH a = cH b ↔ hN a = hN b := by
  unfold cH hN
  split <;> split <;> omega
theorem c_alike (h : RW nS nF nT nW bB u v) {X : Int32} {s i : Nat} (h6 : ∀ g s, g < nS → s < nS → M.1 6 (8 * g + s) = nI (cH (farO v g 1 s))) (hs : s < nS) (hi : i < nS) : f_X2_alikeFrom M (x_sub u 1) X (nI s) (nI i) = some (nI (al v nS X s i)) := by
  have hb := h.b
  have hf : ∀ j, j < nS → f_X2_farFrom M (nI s) (nI j) = nI (cH (farO v s 1 j)) := fun j hj => by
    unfold f_X2_farFrom
    rw [kl_8, pk_mul, nI_add, rg_in (by omega) (by omega), lt_eq, show (x_sub M 5).1 1 (s * 8 + j) = nI (cH (farO v s 1 j)) from by rw [Nat.mul_comm]; exact h6 s j hs hj]
  unfold f_X2_alikeFrom
  refine wp_eq.mp (lp_fora (σ := Int32) (n := nS) (fun (K : Int32 → Int32 → Int32 → Int32 → Int32 → Option (Int32)) a c => K X (nI s) (nI i) a c) (fun j a => a = nI (cnt (fun t => bt X t && decide (hN (farO v s 1 t) = hN (farO v s 1 i))) j)) _ ?_ ?_ x_NN 0 (by show nS < 1000000; omega) rfl)
  · rintro K j _ hj rfl ih
    show wp (f_X2_alikeFrom_6 M (x_sub u 1) K X (nI s) (nI i) _ (nI j)) _
    have c1 := cH_le (farO v s 1 j)
    have c2 := cH_le (farO v s 1 i)
    have c3 := cH_i (far_le h (p := 1) (by omega) (by omega) hs hj) (far_le h (p := 1) (by omega) (by omega) hs hi)
    have hu : cnt (fun t => bt X t && decide (hN (farO v s 1 t) = hN (farO v s 1 i))) (j + 1) = if (bt X j && decide (hN (farO v s 1 j) = hN (farO v s 1 i))) = true then cnt (fun t => bt X t && decide (hN (farO v s 1 t) = hN (farO v s 1 i))) j + 1 else cnt (fun t => bt X t && decide (hN (farO v s 1 t) = hN (farO v s 1 i))) j := rfl
    unfold f_X2_alikeFrom_6 f_X2_alikeFrom_45
    rw [show (x_sub u 1).1 0 0 = nI nS from h.u0, if_neg (nI_ge hj (by omega)), hf j hj, hf i hi, lt_eq, lt_eq, b_get (by omega), nI_1, nI_1]
    cases cx : bt X j with
    | false =>
      rw [if_neg (show ¬ bI false = 1 by decide)]
      exact ih _ (by rw [hu, cx]; rfl)
    | true =>
      rw [if_pos (show bI true = 1 from rfl)]
      by_cases c : hN (farO v s 1 j) = hN (farO v s 1 i)
      · rw [if_pos (by rw [c3.mpr c])]
        exact ih _ (by rw [hu, cx, decide_eq_true c]; rfl)
      · rw [if_neg (fun q => c (c3.mp (nI_iff (by omega) (by omega) q)))]
        exact ih _ (by rw [hu, cx, decide_eq_false c]; rfl)
  · rintro K _ rfl
    show wp (f_X2_alikeFrom_6 M (x_sub u 1) K X (nI s) (nI i) _ (nI nS)) _
    unfold f_X2_alikeFrom_6
    rw [show (x_sub u 1).1 0 0 = nI nS from h.u0, if_pos (nI_le (Nat.le_refl _) (by omega)), wp_some]; rfl
theorem c_most (h : RW nS nF nT nW bB u v) {X : Int32} {s : Nat} (h6 : ∀ g s, g < nS → s < nS → M.1 6 (8 * g + s) = nI (cH (farO v g 1 s))) (hs : s < nS) : f_X2_mostLeftBy M (x_sub u 1) X (nI s) = some (nI (lf v nS X s)) := by
  have hb := h.b
  rw [← lf_m]
  unfold f_X2_mostLeftBy
  refine wp_eq.mp (lp_fora (σ := Int32) (n := nS) (fun (K : Int32 → Int32 → Int32 → Int32 → Option (Int32)) a c => K X (nI s) a c) (fun j a => a = nI (mx (fun i => if bt X i = true then al v nS X s i else 0) j)) _ ?_ ?_ x_NN 0 (by show nS < 1000000; omega) rfl)
  · rintro K j _ hj rfl ih
    show wp (f_X2_mostLeftBy_6 M (x_sub u 1) K X (nI s) _ (nI j)) _
    have k1 : al v nS X s j ≤ 8 := Nat.le_trans (cnt_le _) hb.1
    have k2 : mx (fun i => if bt X i = true then al v nS X s i else 0) j ≤ 8 := mx_le _ (fun i _ => by
      have k1 : al v nS X s i ≤ 8 := Nat.le_trans (cnt_le _) hb.1
      split <;> omega)
    have hu : mx (fun i => if bt X i = true then al v nS X s i else 0) (j + 1) = if (if bt X j = true then al v nS X s j else 0) ≤ mx (fun i => if bt X i = true then al v nS X s i else 0) j then mx (fun i => if bt X i = true then al v nS X s i else 0) j else (if bt X j = true then al v nS X s j else 0) := rfl
    unfold f_X2_mostLeftBy_6 f_X2_mostLeftBy_41
    rw [show (x_sub u 1).1 0 0 = nI nS from h.u0, if_neg (nI_ge hj (by omega)), b_get (by omega), nI_1]
    cases cx : bt X j with
    | false =>
      rw [if_neg (show ¬ bI false = 1 by decide)]
      exact ih _ (by rw [hu, cx, if_neg ft, if_pos (Nat.zero_le _)])
    | true =>
      rw [if_pos (show bI true = 1 from rfl), c_alike h h6 hs hj, bo_some, lt_eq]
      refine ih _ ?_
      rw [hu, cx, if_pos rfl]
      by_cases c : al v nS X s j ≤ mx (fun i => if bt X i = true then al v nS X s i else 0) j
      · rw [if_pos c, if_neg (fun q => by rw [nI_ltI (by omega) (by omega)] at q; omega)]
      · rw [if_neg c, if_pos (nI_lt (by omega) (by omega))]
  · rintro K _ rfl
    show wp (f_X2_mostLeftBy_6 M (x_sub u 1) K X (nI s) _ (nI nS)) _
    unfold f_X2_mostLeftBy_6
    rw [show (x_sub u 1).1 0 0 = nI nS from h.u0, if_pos (nI_le (Nat.le_refl _) (by omega)), wp_some]
theorem c_best (h : RW nS nF nT nW bB u v) {X : Int32} (h6 : ∀ g s, g < nS → s < nS → M.1 6 (8 * g + s) = nI (cH (farO v g 1 s))) (h0 : 0 < nS) : wp (f_X2_bestToAsk M (x_sub u 1) X) (fun r => ∃ b, b < nS ∧ r = nI b ∧ Lf v nS X nS b) := by
  have hb := h.b
  unfold f_X2_bestToAsk
  refine lp_fora (σ := Int32 × Int32) (n := nS) (fun (K : Int32 → Int32 → Int32 → Int32 → Option (Int32)) a c => K X a.1 a.2 c) (fun j a => (j = 0 ∧ a.2 = 9) ∨ ∃ b, b < j ∧ a.1 = nI b ∧ a.2 = nI (lf v nS X b) ∧ Lf v nS X j b) _ ?_ ?_ x_NN (-1, 9) (by show nS < 1000000; omega) (Or.inl ⟨rfl, rfl⟩)
  · rintro K j ⟨a, c⟩ hj hp ih
    dsimp only at hp
    show wp (f_X2_bestToAsk_9 M (x_sub u 1) K X a c (nI j)) _
    have kj := lf_le h (X := X) (s := j)
    unfold f_X2_bestToAsk_9 f_X2_bestToAsk_42
    rw [show (x_sub u 1).1 0 0 = nI nS from h.u0, if_neg (nI_ge hj (by omega)), c_most h h6 hj, bo_some, nI_1]
    rcases hp with ⟨z, rfl⟩ | ⟨b, hbj, rfl, rfl, hl⟩
    · rw [if_neg (show ¬ (9 : Int32) ≤ nI (lf v nS X j) from nI_ge (b := 9) (by omega) (by omega))]
      exact ih (nI j, nI (lf v nS X j)) (Or.inr ⟨j, by omega, rfl, rfl, fun k hk => Or.inr ⟨by rw [show k = j by omega], by omega⟩⟩)
    · have kb := lf_le h (X := X) (s := b)
      by_cases c : lf v nS X b ≤ lf v nS X j
      · rw [if_pos (nI_le c (by omega))]
        refine ih (nI b, nI (lf v nS X b)) (Or.inr ⟨b, by omega, rfl, rfl, fun k hk => ?_⟩)
        by_cases ck : k = j
        · rw [ck]; omega
        · exact hl k (by omega)
      · rw [if_neg (nI_ge (by omega) (by omega))]
        refine ih (nI j, nI (lf v nS X j)) (Or.inr ⟨j, by omega, rfl, rfl, fun k hk => ?_⟩)
        by_cases ck : k = j
        · rw [ck]; omega
        · have := hl k (by omega); omega
  · rintro K ⟨a, c⟩ hp
    dsimp only at hp
    show wp (f_X2_bestToAsk_9 M (x_sub u 1) K X a c (nI nS)) _
    unfold f_X2_bestToAsk_9
    rw [show (x_sub u 1).1 0 0 = nI nS from h.u0, if_pos (nI_le (Nat.le_refl _) (by omega)), wp_some]
    rcases hp with ⟨z, -⟩ | ⟨b, hbj, e, -, hl⟩
    · omega
    · exact ⟨b, hbj, e, hl⟩
theorem r_leftBy (h : RW nS nF nT nW bB u v) (em : m.1 2 = v.1 2) {X : Int32} {s : Nat} (h13 : ∀ g s, g < nS → s < nS → m.1 13 (8 * s + g) = nI (hN (farO v g 1 s))) (hs : s < nS) : f_X12_leftBy m X (nI s) = some (nI (lf v nS X s)) := by
  have hb := h.b
  have hm0 : x_ga m 2 (0 : Int32) = nI nS := by rw [kl_0, ga_in (by omega), em]; exact h.v0
  unfold f_X12_leftBy lf
  refine wp_eq.mp (lp_fora (σ := Int32) (n := nS) (fun (K : Int32 → Int32 → Int32 → Int32 → Option (Int32)) a c => K X (nI s) a c) (fun j a => a = nI (mx (al v nS X s) j)) _ ?_ ?_ x_NN 0 (by show nS < 1000000; omega) rfl)
  · rintro K i _ hi rfl ih
    show wp (f_X12_leftBy_5 m K X (nI s) _ (nI i)) _
    have hD := fun t (ht : t < nS) => hN_le ((far_D h (p := 1) (by omega) (by omega) hs).2.2.1 t ht)
    unfold f_X12_leftBy_5
    rw [hm0, if_neg (nI_ge hi (by omega))]
    refine lp_fora (σ := Int32) (n := nS) (fun (K' : Int32 → Int32 → Int32 → Int32 → Int32 → Int32 → Option (Int32)) a c => K' X (nI s) (nI (mx (al v nS X s) i)) (nI i) a c) (fun j a => a = nI (cnt (fun t => bt X t && decide (hN (farO v s 1 t) = hN (farO v s 1 i))) j)) _ ?_ ?_ x_NN 0 (by show nS < 1000000; omega) rfl
    · rintro K' j _ hj rfl ih'
      show wp (f_X12_leftBy_22 m K K' X (nI s) _ (nI i) _ (nI j)) _
      have hu : cnt (fun t => bt X t && decide (hN (farO v s 1 t) = hN (farO v s 1 i))) (j + 1) = if (bt X j && decide (hN (farO v s 1 j) = hN (farO v s 1 i))) = true then cnt (fun t => bt X t && decide (hN (farO v s 1 t) = hN (farO v s 1 i))) j + 1 else cnt (fun t => bt X t && decide (hN (farO v s 1 t) = hN (farO v s 1 i))) j := rfl
      have d1 := hD i hi
      have d2 := hD j hj
      unfold f_X12_leftBy_22 f_X12_leftBy_72
      rw [hm0, if_neg (nI_ge hj (by omega)), r_has (by omega), lt_eq, nI_1, nI_1]
      cases cx : bt X j with
      | false =>
        rw [if_pos bIf]
        exact ih' _ (by rw [hu, cx]; rfl)
      | true =>
        rw [if_neg (show ¬ bI true = 0 by decide), kl_8, pk_mul, nI_add, ck_in (by omega) (by omega), pk_mul, nI_add, ck_in (by omega) (by omega), ga_in (by omega), ga_in (by omega), h13 _ _ hs hj, h13 _ _ hs hi]
        by_cases c : hN (farO v s 1 j) = hN (farO v s 1 i)
        · rw [if_pos (by rw [c])]
          exact ih' _ (by rw [hu, cx, decide_eq_true c]; rfl)
        · rw [if_neg (fun q => c (nI_iff (by omega) (by omega) q))]
          exact ih' _ (by rw [hu, cx, decide_eq_false c]; rfl)
    · rintro K' _ rfl
      show wp (f_X12_leftBy_22 m K K' X (nI s) _ (nI i) (nI (al v nS X s i)) (nI nS)) _
      have k1 : al v nS X s i ≤ 8 := Nat.le_trans (cnt_le _) hb.1
      have k2 : mx (al v nS X s) i ≤ 8 := mx_le _ (fun i _ => Nat.le_trans (cnt_le _) hb.1)
      have hu : mx (al v nS X s) (i + 1) = if al v nS X s i ≤ mx (al v nS X s) i then mx (al v nS X s) i else al v nS X s i := rfl
      unfold f_X12_leftBy_22 f_X12_leftBy_87
      rw [hm0, if_pos (nI_le (Nat.le_refl _) (by omega)), nI_1]
      by_cases c : al v nS X s i ≤ mx (al v nS X s) i
      · rw [if_pos (nI_le c (by omega))]
        exact ih _ (by rw [hu, if_pos c])
      · rw [if_neg (nI_ge (by omega) (by omega))]
        exact ih _ (by rw [hu, if_neg c])
  · rintro K _ rfl
    show wp (f_X12_leftBy_5 m K X (nI s) _ (nI nS)) _
    unfold f_X12_leftBy_5
    rw [hm0, if_pos (nI_le (Nat.le_refl _) (by omega)), wp_some]
theorem r_best (h : RW nS nF nT nW bB u v) (em : m.1 2 = v.1 2) {X : Int32} (h13 : ∀ g s, g < nS → s < nS → m.1 13 (8 * s + g) = nI (hN (farO v g 1 s))) (h0 : 0 < nS) : wp (x_lp (φ := XM → Int32 → Int32 → Option (Int32 × XM)) (fun _ _ _ => none) (f_X12_came_111) x_NN (x_si m 0 34 (0 : Int32)) X (1 : Int32)) (fun r => r.1 = X ∧ Fr [0] m r.2 ∧ (∀ j, j ≠ 34 → r.2.1 0 j = m.1 0 j) ∧ ∃ b, b < nS ∧ r.2.1 0 34 = nI b ∧ Lf v nS X nS b) := by
  have hb := h.b
  refine lp_from (σ := XM) (n := nS) (i0 := 1) (fun (K : XM → Int32 → Int32 → Option (Int32 × XM)) a c => K a X c) (fun i a => Fr [0] m a ∧ (∀ j, j ≠ 34 → a.1 0 j = m.1 0 j) ∧ ∃ b, b < i ∧ b < nS ∧ a.1 0 34 = nI b ∧ Lf v nS X i b) _ ?_ ?_ (by omega) x_NN _ (by show nS < 1000000; omega) ⟨Fr.rf.si (by simp), fun j hj => by rw [si_row, row_at, up_ne hj], 0, by omega, by omega, by rw [si_row, row_at, up_eq]; rfl, fun k hk => Or.inr ⟨by rw [show k = 0 by omega], by omega⟩⟩
  · rintro K i a hi ⟨g1, g2, b, g3, g4, g5, g6⟩ ih
    show wp (f_X12_came_111 K a X (nI i)) _
    have ea : a.1 2 = v.1 2 := (g1.2 2 (by simp)).trans em
    have ha : ∀ g s, g < nS → s < nS → a.1 13 (8 * s + g) = nI (hN (farO v g 1 s)) := fun g s hg hs => by rw [g1.2 13 (by simp)]; exact h13 g s hg hs
    have k1 := lf_le h (X := X) (s := i)
    have k2 := lf_le h (X := X) (s := b)
    unfold f_X12_came_111 f_X12_came_144
    rw [show x_ga a 2 (0 : Int32) = nI nS from by rw [kl_0, ga_in (by omega), ea]; exact h.v0, if_neg (nI_ge hi (by omega)), r_leftBy h ea ha hi, bo_some, g5, r_leftBy h ea ha g4, bo_some, nI_1]
    by_cases c : lf v nS X b ≤ lf v nS X i
    · rw [if_pos (nI_le c (by omega))]
      refine ih a ⟨g1, g2, b, by omega, g4, g5, fun k hk => ?_⟩
      by_cases ck : k = i
      · rw [ck]; omega
      · exact g6 k (by omega)
    · rw [if_neg (nI_ge (by omega) (by omega)), lt_eq]
      refine ih _ ⟨g1.si (by simp), fun j hj => by rw [si_row, row_at, up_ne hj]; exact g2 j hj, i, by omega, hi, by rw [si_row, row_at, up_eq], fun k hk => ?_⟩
      by_cases ck : k = i
      · rw [ck]; omega
      · have := g6 k (by omega); omega
  · rintro K a ⟨g1, g2, b, g3, g4, g5, g6⟩
    show wp (f_X12_came_111 K a X (nI nS)) _
    have ea : a.1 2 = v.1 2 := (g1.2 2 (by simp)).trans em
    unfold f_X12_came_111
    rw [show x_ga a 2 (0 : Int32) = nI nS from by rw [kl_0, ga_in (by omega), ea]; exact h.v0, if_pos (nI_le (Nat.le_refl _) (by omega)), wp_some]
    exact ⟨rfl, g1, g2, b, g4, g5, g6⟩
end CM
