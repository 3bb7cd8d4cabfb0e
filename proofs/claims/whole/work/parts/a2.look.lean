-- way.
section WA
variable {nS nF nT nW bB : Nat} {u w v m : XM}
theorem r_first (h : RW nS nF nT nW bB u m) {p g cur f0 cnt k : Nat} {D : Nat → Nat} {t : Nat} {hh : Int32} {k69 : XM → Int32 → Int32 → Int32 → Int32 → Option (Int32 × XM)} (hp : 1 ≤ p) (hp2 : p ≤ 5) (hD : Dst (gE m nF p) nS g D) (hG : ∀ s, s < nS → m.1 11 s = nI (D s)) (hk : k < nW) (hpk : m.1 2 (65 + k) = nI p) (hc : cur < nS) (hl : D cur < 100000) (hf : f0 < nF) (h0 : ∃ q, gEf m p f0 t cur q ∧ D cur = D t + 100 * q + 1) (hm : ∀ f, f < f0 → ¬ Nr m p D f cur) (hn : m.1 0 27 = nI cnt) (h8 : cnt < 8) : x_lp (φ := XM → Int32 → Int32 → Int32 → Int32 → Int32 → Option (Int32 × XM)) (fun _ _ _ _ _ _ => none) (f_X12_way_77 k69) x_NN m (nI k) (nI g) (nI cur) hh 0 = k69 (x_row (x_row m 12 (up (m.1 12) cnt (nI f0))) 0 (up (m.1 0) 27 (nI (cnt + 1)))) (nI k) (nI g) (nI t) hh := by
  have hb := h.b
  have hE := gE_EP h hp hp2
  have hf2 := h.b.2.1
  have far := fun (f : Nat) (hf : f < nF) => r_farBy (G := m.1 11) h hp hp2 hf hc hG (fun j hj => hD.2.1 j hj)
  refine lp_eq (n := f0) (fun (K : XM → Int32 → Int32 → Int32 → Int32 → Int32 → Option (Int32 × XM)) (_ : Unit) i => K m (nI k) (nI g) (nI cur) hh i) (fun _ a => a) (fun _ => k69 (x_row (x_row m 12 (up (m.1 12) cnt (nI f0))) 0 (up (m.1 0) 27 (nI (cnt + 1)))) (nI k) (nI g) (nI t) hh) ?_ ?_ x_NN () (by show f0 < 1000000; omega)
  · intro K _ f hf'
    show f_X12_way_77 k69 K m (nI k) (nI g) (nI cur) hh (nI f) = K m (nI k) (nI g) (nI cur) hh (nI (f + 1))
    obtain ⟨y, y0, y1, y2⟩ := far f (by omega)
    rw [row_self] at y1
    unfold f_X12_way_77
    rw [kl_65, nI_add, ck_in (by omega) (by omega), ga_in (by omega), hpk, y1, bo_some, ck_in (by omega) (by omega), ga_in (by omega), hG cur hc, nI_1]
    rw [if_neg (fun q => by
      have q := nI_iff (by omega) (by omega) q
      rcases y2 with ⟨s, q', z1, z2, z3, z4⟩ | ⟨z1, -⟩
      · exact hm f hf' ⟨s, q', z1, by omega⟩
      · omega)]
  · intro K _
    show f_X12_way_77 k69 K m (nI k) (nI g) (nI cur) hh (nI f0) = _
    obtain ⟨y, y0, y1, y2⟩ := far f0 hf
    obtain ⟨q, e, eq⟩ := h0
    rw [row_self] at y1
    have hy : y = D cur := by
      rcases y2 with ⟨s, q', z1, z2, z3, z4⟩ | ⟨z1, z2⟩
      · obtain ⟨rfl, rfl⟩ := gEf_uniq h hf e z1
        omega
      · have := z2 t q e
        omega
    unfold f_X12_way_77
    rw [kl_65, nI_add, ck_in (by omega) (by omega), ga_in (by omega), hpk, y1, bo_some, ck_in (by omega) (by omega), ga_in (by omega), hG cur hc, if_pos (by rw [hy]), hn, ck_in h8 (by omega), lt_eq, pa_in (by omega), lt_eq, si_row, row_off (by omega), hn, nI_1, r_otherEnd (by omega), bo_some, show otO (x_row (x_row m 12 (up (m.1 12) cnt (nI f0))) 0 (up (m.1 0) 27 (nI (cnt + 1)))) f0 (nI cur) = nI t from otO_of h hf e]
/-- what holds of both memories while a way is found -/
def WInv (W v : XM) (G C : Nat → Int32) (nS n0 : Nat) (D : Nat → Nat) (M m : XM) (cur cnt : Nat) : Prop := Fr [0, 2, 12] W M ∧ M.1 2 = C ∧ (∀ j, j ≠ 6 → M.1 0 j = W.1 0 j) ∧ M.1 0 6 = nI cnt ∧ Fr [0, 11, 12] v m ∧ m.1 11 = G ∧ (∀ j, j ≠ 27 → m.1 0 j = v.1 0 j) ∧ m.1 0 27 = nI cnt ∧ (∀ i, i < cnt → M.1 12 i = m.1 12 i) ∧ cur < nS ∧ D cur < 100000 ∧ cnt + D cur % 100 = n0
theorem way_end (h : RelN nS nF nT nW bB w v) {G C : Nat → Int32} {n0 : Nat} {D : Nat → Nat} {M m : XM} {cur cnt : Nat} (hI : WInv (x_sub w 300) v G C nS n0 D M m cur cnt) (hc : cnt ≤ 8) : RelN nS nF nT nW bB (x_put w 300 15 M) m := by
  obtain ⟨i1, i2, i3, i4, i5, i6, i7, i8, i9, -⟩ := hI
  obtain ⟨r1, r2, r3, r4⟩ := h.road
  have e300 : (x_put w 300 15 M).1 300 = M.1 0 := put_inn (by omega)
  have e312 : (x_put w 300 15 M).1 312 = M.1 12 := put_inn (by omega)
  refine h.rd (put_2 i1.1) (fun i a b c c' d e => ?_) ⟨by rw [i5.1], by rw [i5.1]⟩ ⟨i5.2 1 (by simp), i5.2 2 (by simp), i5.2 4 (by simp), i5.2 5 (by simp), i5.2 10 (by simp), i5.2 16 (by simp), i5.2 18 (by simp)⟩ (fun j hj a b c d e => i7 j a) ⟨⟨cnt, hc, by rw [e300]; exact i4, i8, fun i hi => by rw [e312]; exact i9 i hi⟩, ?_, ?_, ?_⟩
  · by_cases q : 300 ≤ i ∧ i < 300 + 15
    · rw [put_inn q, i1.2 (i - 300) (by
        have : i ≠ 302 := fun z => by subst z; unfold scrW at b; omega
        simp only [List.mem_cons, List.not_mem_nil, or_false]; omega)]
      show w.1 (i - 300 + 300) = _
      rw [Nat.sub_add_cancel q.1]
    · exact put_out q
  · rw [e300, i3 8 (by omega), i7 31 (by omega), i5.2 15 (by simp), show (x_put w 300 15 M).1 314 = w.1 314 from (put_inn (by omega)).trans (i1.2 14 (by simp))]; exact r2
  · rw [e300, i3 9 (by omega), i3 10 (by omega), i3 11 (by omega), i7 32 (by omega), i7 33 (by omega), i7 34 (by omega)]; exact r3
  · rw [show (x_put w 300 15 M).1 308 = w.1 308 from (put_inn (by omega)).trans (i1.2 8 (by simp))]; exact r4
theorem b_way (h : RelN nS nF nT nW bB w v) (x y : Int32) : R2 (f_X11_way w x y) (f_X12_way v x y) Both := by
  have h1 := h.th (x := 0)
  have hb := h.1.1.1
  have e0 : f_X12_way v x y = x_bo (f_X12_isStill (x_si v 0 0 0) x) (fun y6 => if y6 = 0 then some ((-1 : Int32), x_si v 0 0 0) else if f_X12_isSpot (x_si v 0 0 0) y = 0 then some ((-1 : Int32), x_si v 0 0 0) else x_ck ((65 : Int32) + x) 353 (x_bo (f_X12_layFar (x_si v 0 0 0) y (x_ga (x_si v 0 0 0) 2 ((65 : Int32) + x))) (fun y8 => x_ck ((74 : Int32) + x) 353 (x_bo (f_X12_hoursFrom y8 (x_ga y8 2 ((74 : Int32) + x))) (fun y10 => if (y10 : Int32) = (100000 : Int32) then some ((-1 : Int32), y8) else x_lp (φ := XM → Int32 → Int32 → Int32 → Int32 → Option (Int32 × XM)) (fun _ _ _ _ _ => none) (f_X12_way_69) x_NN (x_si y8 0 27 0) x y (x_ga y8 2 ((74 : Int32) + x)) y10))))) := rfl
  rw [e0]
  unfold f_X11_way
  rw [lt_eq]
  generalize x_si v 0 0 0 = v1 at h1 ⊢
  have r := h1.rw
  rcases h_still h1 x with ⟨k, hk, rfl, e1, e2⟩ | ⟨e1, e2⟩
  · rw [e1, e2, if_neg one0, bo_some, if_neg one0, lt_eq]
    rcases h_Spot r y with ⟨g, hg, rfl, e3, e4⟩ | ⟨-, e3, e4⟩
    · rw [show f_X9_hasSpot (x_sub w 6) (nI g) = 1 from e3, e4, if_neg one0, if_neg one0]
      obtain ⟨q1, q2, q3, q4, q5, q6, q7⟩ := wkN r hk
      generalize hp : paN v1 k = p at q3 q4 q5
      generalize hs : atN v1 k = s at q1 q2
      obtain ⟨⟨r1, e5, G, rfl, hG⟩, hD⟩ := far_D r q3 q4 hg
      obtain ⟨r2, e6, C, rfl, hC⟩ := c_spread (v0 := x_sub (x_sub w 300) 0) (w0 := x_sub (x_sub w 300) 1) r q3 q4 hg hD
      have hE := gE_EP r q3 q4
      generalize farO v1 g p = D at hG hD hC
      rw [kl_65, nI_add, ck_in (by omega) (by omega), ga_in (by omega), q5, e5, bo_some, kl_74, nI_add, ck_in (by omega) (by omega), ga_in (by omega), show (x_row v1 11 G).1 2 (74 + k) = nI s from q2, r_hoursFrom (by omega) (hG s q1) (hD.2.1 s q1), bo_some]
      have e7 : f_X2_findWay (x_sub w 300) (x_sub w 5) (nI k) (nI g) = if nI (if D s < 100000 then D s / 100 else 65536) < 65536 then x_lp (φ := XM → Int32 → Int32 → Int32 → Int32 → Option (Int32 × XM)) (fun _ _ _ _ _ => none) (f_X2_findWay_63 (x_sub w 5)) x_NN (x_si (x_row (x_sub w 300) 2 C) 0 6 0) (nI g) (nI s) (nI p) (nI (if D s < 100000 then D s / 100 else 65536)) else some ((-1 : Int32), x_row (x_sub w 300) 2 C) := by
        unfold f_X2_findWay
        rw [lt_eq, lt_eq, rg_in (by omega) (by omega), rg_in (by omega) (by omega), show (x_sub (x_sub w 5) 18).1 1 k = nI s from (r.at_ hk).trans q2, show (x_sub (x_sub w 5) 14).1 1 k = nI p from (r.pace hk).trans q5, e6, bo_some, lt_eq, put_row (by omega), lt_eq, c_hoursTo (C := C) (by omega) (show (x_sub (x_row (x_sub w 300) (1 + 1) C) 1).1 1 s = _ from hC s q1) (fun q => (hD.st hE hb.1 q1 q).1), lt_eq]
      rw [e7]
      by_cases c : D s < 100000
      · have st := hD.st hE hb.1 q1 c
        rw [if_pos c, if_pos (show nI (D s / 100) < 65536 from nI_lt (b := 65536) (by omega) (by omega)), show hN (D s) = D s / 100 from if_pos c, if_neg (show ¬ nI (D s / 100) = 100000 from fun q => by rw [kl_100000] at q; have := nI_iff (by omega) (by omega) q; omega)]
        have key : R2 (x_lp (φ := XM → Int32 → Int32 → Int32 → Int32 → Option (Int32 × XM)) (fun _ _ _ _ _ => none) (f_X2_findWay_63 (x_sub w 5)) x_NN (x_si (x_row (x_sub w 300) 2 C) 0 6 0) (nI g) (nI s) (nI p) (nI (D s / 100))) (x_lp (φ := XM → Int32 → Int32 → Int32 → Int32 → Option (Int32 × XM)) (fun _ _ _ _ _ => none) (f_X12_way_69) x_NN (x_si (x_row v1 11 G) 0 27 0) (nI k) (nI g) (nI s) (nI (D s / 100))) (fun a b => a.1 = b.1 ∧ Rel (x_put w 300 15 a.2) b.2) := by
          refine lp2_ind (σ := XM × XM × Nat × Nat) (fun (K : XM → Int32 → Int32 → Int32 → Int32 → Option (Int32 × XM)) z => K z.1 (nI g) (nI z.2.2.1) (nI p) (nI (D s / 100))) (fun (K : XM → Int32 → Int32 → Int32 → Int32 → Option (Int32 × XM)) z => K z.2.1 (nI k) (nI g) (nI z.2.2.1) (nI (D s / 100))) (fun n z => n = D z.2.2.1 ∧ WInv (x_sub w 300) v1 G C nS (D s % 100) D z.1 z.2.1 z.2.2.1 z.2.2.2) _ ?_ x_NN x_NN (D s) (x_si (x_row (x_sub w 300) 2 C) 0 6 0, x_si (x_row v1 11 G) 0 27 0, s, 0) (by show D s < 1000000; omega) (by show D s < 1000000; omega) ⟨rfl, ?_⟩
          · rintro n K K' ⟨M, m, cur, cnt⟩ ⟨hn, hI⟩ ih
            have hI2 := hI
            obtain ⟨i1, i2, i3, i4, i5, i6, i7, i8, i9, i10, i11, i12⟩ := hI2
            dsimp only at i1 i2 i3 i4 i5 i6 i7 i8 i9 i10 i11 i12 hn hI
            show R2 (f_X2_findWay_63 (x_sub w 5) K M (nI g) (nI cur) (nI p) (nI (D s / 100))) (f_X12_way_69 K' m (nI k) (nI g) (nI cur) (nI (D s / 100))) _
            have rm : RW nS nF nT nW bB (x_sub w 5) m := r.cong (fun _ _ _ => rfl) (fun j _ => by rw [i5.2 2 (by simp)])
            unfold f_X2_findWay_63 f_X12_way_69
            rw [i4, if_neg (show ¬ (8 : Int32) ≤ nI cnt from nI_ge (b := 8) (by omega) (by omega))]
            by_cases cg : cur = g
            · rw [if_pos (by rw [cg]), if_pos (by rw [cg])]
              exact R2_some ⟨rfl, (way_end h1 hI (by omega)).rel⟩
            · rw [if_neg (fun q => cg (nI_iff (by omega) (by omega) q)), if_neg (fun q => cg (nI_iff (by omega) (by omega) q))]
              rcases (hD.st hE hb.1 i10 i11).2.2 with ⟨z1, -⟩ | ⟨-, z0, t0, k0, ⟨f1, z1, z2⟩, z3, z4, z5, z6, z7, -⟩
              · exact absurd z1 cg
              obtain ⟨f0, ⟨y1, t, q, y2, y3⟩, y4⟩ := least (P := fun f => f < nF ∧ Nr v1 p D f cur) f1 ⟨z1, t0, k0, z2, z7⟩
              have y4 : ∀ f, f < f0 → ¬ Nr v1 p D f cur := fun f hf q => y4 f hf ⟨by omega, q⟩
              obtain ⟨w1, w2, w3, w4, w5, -⟩ := hE t cur q ⟨f0, y1, y2⟩
              have st1 := hD.st hE hb.1 i10 i11
              have st2 := hD.st hE hb.1 w1 (show D t < 100000 by omega)
              have em : m.1 2 = v1.1 2 := i5.2 2 (by simp)
              have y2m : gEf m p f0 t cur q := by unfold gEf at y2 ⊢; rw [em, hrO_congr em]; exact y2
              have y4m : ∀ f, f < f0 → ¬ Nr m p D f cur := fun f hf z => y4 f hf (by
                obtain ⟨a, b, c, d⟩ := z
                exact ⟨a, b, by unfold gEf at c ⊢; rw [em, hrO_congr em] at c; exact c, d⟩)
              rw [c_first (W := M) (C := C) r q3 q4 hD i2 hC i10 i11 y1 ⟨t, q, y2, y3⟩ y4, bo_some, if_neg (nI_nm1 (by omega)), r_first (t := t) rm q3 q4 (by rw [gE_congr em]; exact hD) (fun j hj => by rw [i6]; exact hG j hj) hk (by rw [em]; exact q5) i10 i11 y1 ⟨q, y2m, y3⟩ y4m i8 (by omega)]
              rw [lt_eq, lt_eq, put_rput (by omega) (by omega), lt_eq, si_row, row_off (by omega), i4, nI_1, lt_eq, show f_X9_across (x_sub (x_sub w 5) 1) (nI f0) (nI cur) = nI t from (c_across r y1).trans (otO_of r y1 y2)]
              refine ih (D t) (x_row (x_row M (1 + 11) (up (M.1 (1 + 11)) cnt (nI f0))) 0 (up (M.1 0) 6 (nI (cnt + 1))), x_row (x_row m 12 (up (m.1 12) cnt (nI f0))) 0 (up (m.1 0) 27 (nI (cnt + 1))), t, cnt + 1) (by omega) ⟨rfl, (i1.row (by simp)).row (by simp), i2, fun j hj => ?_, ?_, (i5.row (by simp)).row (by simp), i6, fun j hj => ?_, ?_, fun i hi => ?_, w1, (show D t < 100000 by omega), (show cnt + 1 + D t % 100 = D s % 100 by omega)⟩
              · rw [row_at, up_ne hj]; exact i3 j hj
              · rw [row_at, up_eq]
              · rw [row_at, up_ne hj]; exact i7 j hj
              · rw [row_at, up_eq]
              · have hi : i < cnt + 1 := hi
                show up (M.1 12) cnt (nI f0) i = up (m.1 12) cnt (nI f0) i
                by_cases ci : i = cnt
                · subst ci; rw [up_eq, up_eq]
                · rw [up_ne ci, up_ne ci]; exact i9 i (by omega)
          · rw [si_row, si_row]
            refine ⟨(Fr.rf.row (by simp)).row (by simp), rfl, fun j hj => ?_, ?_, (Fr.rf.row (by simp)).row (by simp), rfl, fun j hj => ?_, ?_, fun i hi => absurd hi (Nat.not_lt_zero _), q1, c, (show 0 + D s % 100 = D s % 100 by omega)⟩
            · rw [row_at, up_ne hj]; rfl
            · rw [row_at, up_eq]; rfl
            · rw [row_at, up_ne hj]; rfl
            · rw [row_at, up_eq]; rfl
        obtain ⟨a, b, k1, k2, k3, k4⟩ := key
        rw [k1, k2, bo_some, lt_eq]
        exact R2_some ⟨k3, k4⟩
      · rw [if_neg c, if_neg (show ¬ nI 65536 < 65536 by decide), show hN (D s) = 100000 from if_neg c, if_pos (show nI 100000 = 100000 from rfl), bo_some, lt_eq]
        refine R2_some ⟨rfl, ?_⟩
        show Rel (x_put w 300 15 (x_row (x_sub w 300) 2 C)) (x_row v1 11 G)
        rw [put_row (by omega)]
        exact (h1.scr C G).rel
    · rw [show f_X9_hasSpot (x_sub w 6) y = 0 from e3, e4, if_pos rfl, if_pos rfl]
      exact R2_some ⟨rfl, h1.rel⟩
  · rw [e1, e2, if_pos rfl, bo_some, if_pos rfl]
    exact R2_some ⟨rfl, h1.rel⟩
end WA
