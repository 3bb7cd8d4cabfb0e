-- inns.
def anB (p : Nat → Bool) : Nat → Bool
  | 0 => false
  | n + 1 => anB p n || p n
def alB (p : Nat → Bool) : Nat → Bool
  | 0 => true
  | n + 1 => alB p n && p n
theorem anB_iff {p : Nat → Bool} : ∀ n, anB p n = true ↔ ∃ i, i < n ∧ p i = true
  | 0 => ⟨fun h => absurd h ft, fun ⟨i, hi, _⟩ => absurd hi (Nat.not_lt_zero _)⟩
  | n + 1 => by
    unfold anB
    rw [Bool.or_eq_true, anB_iff n]
    constructor
    · rintro (⟨i, hi, hp⟩ | hp)
      · exact ⟨i, by omega, hp⟩
      · exact ⟨n, by omega, hp⟩
    · rintro ⟨i, hi, hp⟩
      by_cases c : i = n
      · rw [c] at hp; exact Or.inr hp
      · exact Or.inl ⟨i, by omega, hp⟩
theorem alB_iff {p : Nat → Bool} : ∀ n, alB p n = true ↔ ∀ i, i < n → p i = true
  | 0 => ⟨fun _ i hi => absurd hi (Nat.not_lt_zero _), fun _ => rfl⟩
  | n + 1 => by
    unfold alB
    rw [Bool.and_eq_true, alB_iff n]
    constructor
    · rintro ⟨h1, h2⟩ i hi
      by_cases c : i = n
      · rw [c]; exact h2
      · exact h1 i (by omega)
    · intro h
      exact ⟨fun i hi => h i (by omega), h n (by omega)⟩
theorem bs_and {p : Nat → Bool} {X : Int32} {n : Nat} (hn : n ≤ 32) : bs p n &&& X = 0 ↔ anB (fun t => bt X t && p t) n = false := by
  constructor
  · intro h
    cases c : anB (fun t => bt X t && p t) n with
    | false => rfl
    | true =>
      obtain ⟨t, ht, hp⟩ := (anB_iff n).mp c
      have := b_and (bs p n) X t
      rw [h, b_0, b_bs hn (by omega), decide_eq_true ht, Bool.true_and, Bool.and_comm] at this
      exact absurd (this.trans hp) (by decide)
  · intro h
    apply b_ext
    intro i hi
    rw [b_and, b_bs hn hi, b_0]
    by_cases c : i < n
    · rw [decide_eq_true c, Bool.true_and, Bool.and_comm]
      cases c2 : (bt X i && p i) with
      | false => rfl
      | true => rw [(anB_iff n).mpr ⟨i, c, c2⟩] at h; exact absurd h (by decide)
    · rw [decide_eq_false c]; rfl
section RE
variable {nS nF nT nW bB : Nat} {u w v m M : XM}
theorem road_end (h : RelN nS nF nT nW bB w v) (i1 : Fr [0, 2, 4, 6, 10] (x_sub w 300) M) (i5 : Fr [0, 11, 13] v m) (i3 : ∀ j, j ≠ 9 → j ≠ 10 → j ≠ 11 → M.1 0 j = (x_sub w 300).1 0 j) (i7 : ∀ j, j ≠ 32 → j ≠ 33 → j ≠ 34 → m.1 0 j = v.1 0 j) (i8 : M.1 0 9 = m.1 0 32 ∧ M.1 0 10 = m.1 0 33 ∧ M.1 0 11 = m.1 0 34) : RelN nS nF nT nW bB (x_put w 300 15 M) m := by
  obtain ⟨r1, r2, r3, r4⟩ := h.road
  have e300 : (x_put w 300 15 M).1 300 = M.1 0 := put_inn (by omega)
  have eo : ∀ q, q < 15 → q ≠ 0 → q ≠ 2 → q ≠ 4 → q ≠ 6 → q ≠ 10 → (x_put w 300 15 M).1 (300 + q) = w.1 (300 + q) := fun q z1 z2 z3 z4 z5 z6 => by
    rw [put_inn (by omega), show 300 + q - 300 = q by omega, i1.2 q (by simp; omega)]
    show w.1 (q + 300) = _
    rw [Nat.add_comm]
  refine h.rd (put_2 i1.1) (fun i a b c c' d e => ?_) ⟨by rw [i5.1], by rw [i5.1]⟩ ⟨i5.2 1 (by simp), i5.2 2 (by simp), i5.2 4 (by simp), i5.2 5 (by simp), i5.2 10 (by simp), i5.2 16 (by simp), i5.2 18 (by simp)⟩ (fun j hj a b c d e => i7 j c d e) ⟨?_, ?_, ?_, ?_⟩
  · by_cases q : 300 ≤ i ∧ i < 300 + 15
    · have z1 : i ≠ 302 := fun z => by subst z; unfold scrW at b; omega
      have z2 : i ≠ 304 := fun z => by subst z; unfold scrW at b; omega
      have z3 : i ≠ 306 := fun z => by subst z; unfold scrW at b; omega
      have z4 : i ≠ 310 := fun z => by subst z; unfold scrW at b; omega
      have := eo (i - 300) (by omega) (by omega) (by omega) (by omega) (by omega) (by omega)
      rwa [show 300 + (i - 300) = i by omega] at this
    · exact put_out q
  · rw [e300, i3 6 (by omega) (by omega) (by omega), i7 27 (by omega) (by omega) (by omega), i5.2 12 (by simp), eo 12 (by omega) (by omega) (by omega) (by omega) (by omega) (by omega)]; exact r1
  · rw [e300, i3 8 (by omega) (by omega) (by omega), i7 31 (by omega) (by omega) (by omega), i5.2 15 (by simp), eo 14 (by omega) (by omega) (by omega) (by omega) (by omega) (by omega)]; exact r2
  · rw [e300]; exact i8
  · rw [eo 8 (by omega) (by omega) (by omega) (by omega) (by omega) (by omega)]; exact r4
theorem cH_hN {d q : Nat} (hq : q ≤ 99) : cH d ≤ q ↔ hN d ≤ q := by
  unfold cH hN
  by_cases c : d < 100000
  · rw [if_pos c, if_pos c]
  · rw [if_neg c, if_neg c]; omega
/-- is every place within q HOURS of one of k or of an INN -/
def enB (v : XM) (nS q k : Nat) : Bool := alB (fun g => anB (fun t => bt (nI k ||| v.1 2 5) t && decide (cH (farO v g 1 t) ≤ q)) nS) nS
theorem c_within (h : RW nS nF nT nW bB u v) {q g : Nat} (h6 : ∀ g s, g < nS → s < nS → M.1 6 (8 * g + s) = nI (cH (farO v g 1 s))) (hg : g < nS) (hq : q ≤ 99) : f_X2_spotsWithin M (x_sub u 1) (nI g) (nI q) = some (bs (fun t => decide (cH (farO v g 1 t) ≤ q)) nS) := by
  have hb := h.b
  unfold f_X2_spotsWithin
  refine (lp_eq (n := nS) (fun (K : Int32 → Int32 → Int32 → Int32 → Option (Int32)) a i => K (nI g) (nI q) a i) (fun i acc => if decide (cH (farO v g 1 i) ≤ q) = true then acc ||| ((1 : Int32) <<< (nI i &&& 31)) else acc) (fun a => some a) ?_ ?_ x_NN 0 (by show nS < 1000000; omega)).trans (congrArg some (itr_bs nS))
  · intro K a i hi
    show f_X2_spotsWithin_6 M (x_sub u 1) K (nI g) (nI q) a (nI i) = _
    have := cH_le (farO v g 1 i)
    unfold f_X2_spotsWithin_6 f_X2_spotsWithin_35 f_X2_farFrom
    rw [show (x_sub u 1).1 0 0 = nI nS from h.u0, if_neg (nI_ge hi (by omega)), kl_8, pk_mul, nI_add, lt_eq, lt_eq, rg_in (by omega) (by omega), show (x_sub M 5).1 1 (g * 8 + i) = nI (cH (farO v g 1 i)) from by rw [Nat.mul_comm]; exact h6 g i hg hi, nI_1]
    by_cases c : cH (farO v g 1 i) ≤ q
    · rw [if_neg (fun z => by rw [nI_ltI (by omega) (by omega)] at z; omega), if_pos (decide_eq_true c), lt_eq]
    · rw [if_pos (nI_lt (by omega) (by omega)), if_neg (by rw [decide_eq_false c]; exact ft)]
  · intro K a
    show f_X2_spotsWithin_6 M (x_sub u 1) K (nI g) (nI q) a (nI nS) = _
    unfold f_X2_spotsWithin_6
    rw [show (x_sub u 1).1 0 0 = nI nS from h.u0, if_pos (nI_le (Nat.le_refl _) (by omega))]
theorem c_enough (h : RW nS nF nT nW bB u v) {q k : Nat} (h10 : ∀ g, g < nS → M.1 10 g = bs (fun t => decide (cH (farO v g 1 t) ≤ q)) nS) : f_X2_isEnough M (x_sub u 1) (nI k ||| v.1 2 5) = some (bI (enB v nS q k)) := by
  have hb := h.b
  unfold f_X2_isEnough
  refine wp_eq.mp (lp_fora (σ := Unit) (n := nS) (fun (K : Int32 → Int32 → Option (Int32)) _ c => K (nI k ||| v.1 2 5) c) (fun i _ => ∀ g, g < i → anB (fun t => bt (nI k ||| v.1 2 5) t && decide (cH (farO v g 1 t) ≤ q)) nS = true) _ ?_ ?_ x_NN () (by show nS < 1000000; omega) (fun g hg => absurd hg (Nat.not_lt_zero _)))
  · rintro K i _ hi hp ih
    show wp (f_X2_isEnough_2 M (x_sub u 1) K (nI k ||| v.1 2 5) (nI i)) _
    unfold f_X2_isEnough_2
    rw [show (x_sub u 1).1 0 0 = nI nS from h.u0, if_neg (nI_ge hi (by omega)), lt_eq, rg_in (by omega) (by omega), show (x_sub M 9).1 1 i = _ from h10 i hi, nI_1]
    by_cases c : bs (fun t => decide (cH (farO v i 1 t) ≤ q)) nS &&& (nI k ||| v.1 2 5) = 0
    · rw [if_pos c, wp_some]
      have c2 := (bs_and (by omega)).mp c
      have : enB v nS q k = false := by
        cases z : enB v nS q k with
        | false => rfl
        | true => rw [(alB_iff nS).mp z i hi] at c2; exact absurd c2 (by decide)
      rw [this]; rfl
    · rw [if_neg c]
      refine ih () (fun g hg => ?_)
      by_cases cg : g = i
      · subst cg
        cases z : anB (fun t => bt (nI k ||| v.1 2 5) t && decide (cH (farO v g 1 t) ≤ q)) nS with
        | true => rfl
        | false => exact absurd ((bs_and (by omega)).mpr z) c
      · exact hp g (by omega)
  · rintro K _ hp
    show wp (f_X2_isEnough_2 M (x_sub u 1) K (nI k ||| v.1 2 5) (nI nS)) _
    unfold f_X2_isEnough_2
    rw [show (x_sub u 1).1 0 0 = nI nS from h.u0, if_pos (nI_le (Nat.le_refl _) (by omega)), wp_some, show enB v nS q k = true from (alB_iff nS).mpr hp]; rfl
theorem r_served (h : RW nS nF nT nW bB u v) (em : m.1 2 = v.1 2) {q k : Nat} (h13 : ∀ g s, g < nS → s < nS → m.1 13 (8 * s + g) = nI (hN (farO v g 1 s))) (hq : q ≤ 99) : f_X12_areServed m (nI k) (nI q) = some (bI (enB v nS q k)) := by
  have hb := h.b
  have hm0 : x_ga m 2 (0 : Int32) = nI nS := by rw [kl_0, ga_in (by omega), em]; exact h.v0
  have hm5 : x_ga m 2 (5 : Int32) = v.1 2 5 := by rw [kl_5, ga_in (by omega), em]
  unfold f_X12_areServed
  refine wp_eq.mp (lp_fora (σ := Unit) (n := nS) (fun (K : Int32 → Int32 → Int32 → Option (Int32)) _ c => K (nI k) (nI q) c) (fun i _ => ∀ g, g < i → anB (fun t => bt (nI k ||| v.1 2 5) t && decide (cH (farO v g 1 t) ≤ q)) nS = true) _ ?_ ?_ x_NN () (by show nS < 1000000; omega) (fun g hg => absurd hg (Nat.not_lt_zero _)))
  · rintro K i _ hi hp ih
    show wp (f_X12_areServed_2 m K (nI k) (nI q) (nI i)) _
    unfold f_X12_areServed_2
    rw [hm0, if_neg (nI_ge hi (by omega))]
    refine lp_fora (σ := Int32) (n := nS) (fun (K : Int32 → Int32 → Int32 → Int32 → Int32 → Option (Int32)) a c => K (nI k) (nI q) (nI i) a c) (fun j a => a = bI (anB (fun t => bt (nI k ||| v.1 2 5) t && decide (cH (farO v i 1 t) ≤ q)) j)) _ ?_ ?_ x_NN 0 (by show nS < 1000000; omega) rfl
    · rintro K' j _ hj rfl ih'
      show wp (f_X12_areServed_18 m K K' (nI k) (nI q) (nI i) _ (nI j)) _
      unfold f_X12_areServed_18 f_X12_areServed_70 f_X12_areServed_66 f_X12_areServed_71
      rw [hm0, if_neg (nI_ge hj (by omega)), nI_1]
      have hu : anB (fun t => bt (nI k ||| v.1 2 5) t && decide (cH (farO v i 1 t) ≤ q)) (j + 1) = (anB (fun t => bt (nI k ||| v.1 2 5) t && decide (cH (farO v i 1 t) ≤ q)) j || (bt (nI k ||| v.1 2 5) j && decide (cH (farO v i 1 j) ≤ q))) := rfl
      cases ca : anB (fun t => bt (nI k ||| v.1 2 5) t && decide (cH (farO v i 1 t) ≤ q)) j with
      | true =>
        rw [if_neg (show ¬ bI true = 0 by decide)]
        exact ih' _ (by rw [hu, ca]; rfl)
      | false =>
        rw [if_pos bIf, lt_eq, hm5, r_has (by omega)]
        cases cb : bt (nI k ||| v.1 2 5) j with
        | false =>
          rw [if_pos bIf]
          exact ih' _ (by rw [hu, ca, cb]; rfl)
        | true =>
          have e1 : farO v j 1 i = farO v i 1 j := far_back h (by omega) (by omega) hj hi
          have e2 := far_le h (p := 1) (by omega) (by omega) hi hj
          rw [if_neg (show ¬ bI true = 0 by decide), kl_8, pk_mul, nI_add, ck_in (by omega) (by omega), ga_in (by omega), h13 j i hj hi, e1]
          by_cases c : cH (farO v i 1 j) ≤ q
          · have z : ¬ q < hN (farO v i 1 j) := Nat.not_lt.mpr ((cH_hN hq).mp c)
            rw [if_neg (fun y => z (by rw [nI_ltI (by omega) (by unfold hN; split <;> omega)] at y; exact y))]
            exact ih' _ (by rw [hu, ca, cb, decide_eq_true c]; rfl)
          · have z : q < hN (farO v i 1 j) := Nat.not_le.mp (fun y => c ((cH_hN hq).mpr y))
            rw [if_pos (nI_lt z (by unfold hN; split <;> omega))]
            exact ih' _ (by rw [hu, ca, cb, decide_eq_false c]; rfl)
    · rintro K' _ rfl
      show wp (f_X12_areServed_18 m K K' (nI k) (nI q) (nI i) _ (nI nS)) _
      unfold f_X12_areServed_18
      rw [hm0, if_pos (nI_le (Nat.le_refl _) (by omega)), nI_1]
      cases ca : anB (fun t => bt (nI k ||| v.1 2 5) t && decide (cH (farO v i 1 t) ≤ q)) nS with
      | false =>
        rw [if_pos bIf, wp_some]
        have : enB v nS q k = false := by
          cases z : enB v nS q k with
          | false => rfl
          | true => rw [(alB_iff nS).mp z i hi] at ca; exact absurd ca (by decide)
        rw [this]; rfl
      | true =>
        rw [if_neg (show ¬ bI true = 0 by decide)]
        refine ih () (fun g hg => ?_)
        by_cases cg : g = i
        · subst cg; exact ca
        · exact hp g (by omega)
  · rintro K _ hp
    show wp (f_X12_areServed_2 m K (nI k) (nI q) (nI nS)) _
    unfold f_X12_areServed_2
    rw [hm0, if_pos (nI_le (Nat.le_refl _) (by omega)), wp_some, show enB v nS q k = true from (alB_iff nS).mpr hp]; rfl
end RE
