-- Calls that only look, and the tape's.
section CS
variable {nS nF nT nW bB : Nat} {w v w' v' : XM}
theorem RelN.tp (h : RelN nS nF nT nW bB w v) (h2 : w'.2 = w.2) (hc : ∀ i, i ≠ 1 → i ≠ 3 → w'.1 i = w.1 i) (hv2 : v'.2 7 = v.2 7 ∧ v'.2 9 = v.2 9) (hv : ∀ i, i = 2 ∨ i = 4 ∨ i = 5 ∨ i = 10 ∨ i = 12 ∨ i = 15 ∨ i = 16 ∨ i = 18 → v'.1 i = v.1 i) (hf : ∀ j, vF j → j ≠ 2 → j ≠ 10 → v'.1 0 j = v.1 0 j) (hT : RTape w' v') : RelN nS nF nT nW bB w' v' := by
  obtain ⟨a1, a6, a7, a7', -, a9, a10, a11, a12⟩ := h
  have hb := a1.1.1
  refine ⟨a1.congr (fun i p q => hc _ (by omega) (by omega)) (by rw [h2]) (fun i _ => by rw [hv2.1]) (fun j _ => by rw [hv 2 (by omega)]), a6.congr ⟨by omega, by omega⟩ (fun j _ => by rw [hv 2 (by omega)]) (fun i p q => hc i (by omega) (by omega)) ⟨hv 5 (by omega), hf 24 (by unfold vF; omega) (by omega) (by omega)⟩, a7.congr (by omega) (fun i hi => hc _ (by omega) (by omega)) (by rw [h2]) ⟨hv 10 (by omega), hv 4 (by omega), hv2.2⟩, a7'.congr (by omega) (fun i hi => hc _ (by omega) (by omega)) (by rw [h2]) ⟨hv 10 (by omega), hv 4 (by omega), hv2.2⟩, hT, a9.congr (by rw [h2]), a10.congr (hc 282 (by omega) (by omega)) ⟨hf 41 (by unfold vF; omega) (by omega) (by omega), hv 18 (by omega)⟩, a11.congr (fun i hi => hc i (by omega) (by omega)) ⟨hf 27 (by unfold vF; omega) (by omega) (by omega), hf 31 (by unfold vF; omega) (by omega) (by omega), hf 32 (by unfold vF; omega) (by omega) (by omega), hf 33 (by unfold vF; omega) (by omega) (by omega), hf 34 (by unfold vF; omega) (by omega) (by omega)⟩ ⟨hv 12 (by omega), hv 15 (by omega)⟩, a12.congr ⟨by rw [hc 315 (by omega) (by omega)], hc 317 (by omega) (by omega)⟩ ⟨hf 36 (by unfold vF; omega) (by omega) (by omega), hv 16 (by omega)⟩⟩
theorem RelN.tape (h : RelN nS nF nT nW bB w v) : RTape w v := h.2.2.2.2.1
theorem RelN.told (h : RelN nS nF nT nW bB w v) : RTold w v := h.2.2.2.2.2.2.1
theorem RelN.road (h : RelN nS nF nT nW bB w v) : RRoad w v := h.2.2.2.2.2.2.2.1
theorem RelN.tag (h : RelN nS nF nT nW bB w v) : RTag w v := h.2.2.2.2.2.2.2.2
/-- a value of the class and the reference's answer are alike, and the relation stays -/
def BothV (w : XM) (a : Int32) (s : Int32 × XM) : Prop := a = s.1 ∧ Rel w s.2
theorem b_fault (h : RelN nS nF nT nW bB w v) : BothV w (f_X11_fault w) (f_X12_fault v) := by
  have h1 := h.th (x := 0)
  exact ⟨h1.tape.2.2, h1.rel⟩
theorem b_meetAt (h : RelN nS nF nT nW bB w v) : BothV w (f_X11_meetAt w) (f_X12_meetAt v) := ⟨(h.th (x := 0)).road.2.2.1.1, (h.th (x := 0)).rel⟩
theorem b_innsAt (h : RelN nS nF nT nW bB w v) : BothV w (f_X11_innsAt w) (f_X12_innsAt v) := ⟨(h.th (x := 0)).road.2.2.1.2.1, (h.th (x := 0)).rel⟩
theorem b_ask (h : RelN nS nF nT nW bB w v) : BothV w (f_X11_ask w) (f_X12_ask v) := ⟨(h.th (x := 0)).road.2.2.1.2.2, (h.th (x := 0)).rel⟩
theorem b_count (h : RelN nS nF nT nW bB w v) (x : Int32) : BothV w (f_X11_count w x) (f_X12_count v x) := by
  have h1 := h.th (x := 0)
  have r := h1.rw
  obtain ⟨n, -, t1, t2⟩ := h1.tape.1
  unfold f_X11_count f_X12_count
  rw [lt_eq]
  generalize x_si v 0 0 0 = v1 at h1 r t2 ⊢
  by_cases c0 : x = 0
  · rw [if_pos c0, if_pos c0]; exact ⟨by show w.1 6 0 = _; rw [kl_0, ga_in (by omega), r.v0]; exact r.u0, h1.rel⟩
  · rw [if_neg c0, if_neg c0]
    by_cases c1 : x = 1
    · rw [if_pos c1, if_pos c1]; exact ⟨by show w.1 6 1 = _; rw [kl_1, ga_in (by omega), r.v1]; exact r.u1, h1.rel⟩
    · rw [if_neg c1, if_neg c1]
      by_cases c2 : x = 2
      · rw [if_pos c2, if_pos c2]; exact ⟨by show w.1 6 2 = _; rw [kl_2, ga_in (by omega), r.v2]; exact r.u2, h1.rel⟩
      · rw [if_neg c2, if_neg c2]
        by_cases c3 : x = 3
        · rw [if_pos c3, if_pos c3]; exact ⟨by show w.1 6 3 = _; rw [kl_3, ga_in (by omega), r.v3]; exact r.u3, h1.rel⟩
        · rw [if_neg c3, if_neg c3]
          by_cases c4 : x = 4
          · rw [if_pos c4, if_pos c4]; exact ⟨by show w.1 6 4 = _; rw [kl_4, ga_in (by omega), r.v4]; exact r.u4, h1.rel⟩
          · rw [if_neg c4, if_neg c4]
            by_cases c5 : x = 5
            · rw [if_pos c5, if_pos c5]; exact ⟨t1.trans t2.symm, h1.rel⟩
            · rw [if_neg c5, if_neg c5]; exact ⟨rfl, h1.rel⟩
theorem b_takes (h : RelN nS nF nT nW bB w v) (x y : Int32) : R2 (f_X11_takes w x y) (f_X12_takes v x y) (BothV w) := by
  have h1 := h.th (x := 0)
  have hb := h.1.1.1
  unfold f_X11_takes f_X12_takes
  simp only [lt_eq, bo_id]
  generalize x_si v 0 0 0 = v1 at h1 ⊢
  have r := h1.rw
  rcases h_Walker r x with ⟨k, hk, rfl, e1, e2⟩ | ⟨-, e1, e2⟩
  · rw [show f_X9_hasWalker (x_sub w 6) (nI k) = 1 from e1, e2, if_neg one0, if_neg one0]
    rcases h_Fold r y with ⟨f, hf, rfl, e3, e4⟩ | ⟨-, e3, e4⟩
    · rw [show f_X9_hasFold (x_sub w 6) (nI f) = 1 from e3, e4, if_neg one0, if_neg one0]
      obtain ⟨p, p1, p2, p3⟩ := r.paceN hk
      rw [rg_in (by omega) (by omega), show (x_sub w 19).1 1 k = nI p from (r.pace hk).trans p3, c_hoursOn r hf p1 (by omega), kl_65, nI_add, ck_in (by omega) (by omega), ga_in (by omega), p3, r_hoursOf (by omega) (nI_ne0 (by omega) (by omega)), bo_some]
      exact R2_some ⟨rfl, h1.rel⟩
    · rw [show f_X9_hasFold (x_sub w 6) y = 0 from e3, e4, if_pos rfl, if_pos rfl]
      exact R2_some ⟨rfl, h1.rel⟩
  · rw [show f_X9_hasWalker (x_sub w 6) x = 0 from e1, e2, if_pos rfl, if_pos rfl]
    exact R2_some ⟨rfl, h1.rel⟩
theorem at_both {N M k : Nat} {a b x : Int32} (hN : N ≤ M) (hM : M < 2 ^ 20) {cl : XM} {g : Nat → Int32} (hg : ∀ i, i < N → cl.1 1 i = g i) {v1 : XM} {id L : Nat} (hL : N ≤ L) (hL2 : L < 2 ^ 20) (hid : v1.1 id = g) : wp (if f_X12_isIn x 0 (nI N - 1) = 0 then some ((-1 : Int32), v1) else x_ck x L (some (x_ga v1 id x, v1))) (fun s => (if x < 0 then (-1 : Int32) else if nI N ≤ x then -1 else r_get M cl x) = s.1 ∧ s.2 = v1) := by
  rcases in_cases (N := N) (by omega) x with ⟨k, hk, rfl⟩ | hx
  · rw [r_isIn1 (by omega) hk, if_neg one0, ck_in (by omega) (by omega), ga_in (by omega), wp_some, if_neg (nI_pos (by omega)), if_neg (nI_ge hk (by omega)), rg_in (by omega) (by omega), hg k hk, hid]
    exact ⟨rfl, rfl⟩
  · rw [r_isIn (by omega) hx, if_pos rfl, wp_some]
    refine ⟨?_, rfl⟩
    by_cases c : x < 0
    · rw [if_pos c]
    · rw [if_neg c, if_pos (hx.resolve_left c)]
theorem b_wayAt (h : RelN nS nF nT nW bB w v) (x : Int32) : wp (f_X12_wayAt v x) (BothV w (f_X11_wayAt w x)) := by
  have h1 := h.th (x := 0)
  unfold f_X11_wayAt f_X12_wayAt
  simp only [lt_eq]
  generalize x_si v 0 0 0 = v1 at h1 ⊢
  obtain ⟨n, n1, n2, n3, n4⟩ := h1.road.1
  rw [n2, n3]
  refine wp_mono (at_both (M := 8) (a := 0) (b := 0) (k := 0) (cl := x_sub w 311) (g := v1.1 12) n1 (by omega) (fun i hi => n4 i hi) (id := 12) (L := 8) n1 (by omega) rfl) (fun s hs => ⟨hs.1, by rw [hs.2]; exact h1.rel⟩)
theorem b_gatherAt (h : RelN nS nF nT nW bB w v) (x : Int32) : wp (f_X12_gatherAt v x) (BothV w (f_X11_gatherAt w x)) := by
  have h1 := h.th (x := 0)
  unfold f_X11_gatherAt f_X12_gatherAt
  simp only [lt_eq]
  generalize x_si v 0 0 0 = v1 at h1 ⊢
  obtain ⟨n, n1, n2, n3, n4⟩ := h1.road.2.1
  rw [n2, n3]
  refine wp_mono (at_both (M := 6) (a := 0) (b := 0) (k := 0) (cl := x_sub w 313) (g := v1.1 15) n1 (by omega) (fun i hi => n4 i hi) (id := 15) (L := 6) n1 (by omega) rfl) (fun s hs => ⟨hs.1, by rw [hs.2]; exact h1.rel⟩)
theorem b_byteAt (h : RelN nS nF nT nW bB w v) (x : Int32) : wp (f_X12_byteAt v x) (BothV w (f_X11_byteAt w x)) := by
  have h1 := h.th (x := 0)
  unfold f_X11_byteAt f_X12_byteAt
  simp only [lt_eq]
  generalize x_si v 0 0 0 = v1 at h1 ⊢
  obtain ⟨n, n1, n2, n3, n4⟩ := h1.tag
  rw [n2, n3]
  refine wp_mono (at_both (M := 32) (a := 0) (b := 0) (k := 0) (cl := x_sub w 316) (g := v1.1 16) n1 (by omega) (fun i hi => n4 i hi) (id := 16) (L := 64) (by omega) (by omega) rfl) (fun s hs => ⟨hs.1, by rw [hs.2]; exact h1.rel⟩)
theorem b_told (h : RelN nS nF nT nW bB w v) (x : Int32) : wp (f_X12_told v x) (BothV w (f_X11_told w x)) := by
  have h1 := h.th (x := 0)
  unfold f_X11_told f_X12_told
  simp only [lt_eq]
  generalize x_si v 0 0 0 = v1 at h1 ⊢
  rcases h1.told with ⟨t1, t2⟩ | ⟨t1, t2, t3, t4, t5, t6⟩
  · rw [t1, t2, if_pos rfl, if_pos rfl, wp_some]; exact ⟨rfl, h1.rel⟩
  · rw [t1, t2, if_neg one0, if_neg one0]
    rcases rng (a := 0) (b := 3) (by omega) (by omega) x with ⟨n, n1, n2, rfl, e3, e4, e5⟩ | ⟨e3, e5⟩
    · rw [show f_X12_isIn (nI n) 0 3 = 1 from e5, if_neg one0, ck_in (by omega) (by omega), ga_in (by omega), wp_some]
      refine ⟨?_, h1.rel⟩
      rcases (show n = 0 ∨ n = 1 ∨ n = 2 ∨ n = 3 by omega) with rfl | rfl | rfl | rfl
      · rw [if_pos (show nI 0 = 0 from rfl)]; exact t3
      · rw [if_neg (show ¬ nI 1 = 0 by decide), if_pos (show nI 1 = 1 from rfl)]; exact t4
      · rw [if_neg (show ¬ nI 2 = 0 by decide), if_neg (show ¬ nI 2 = 1 by decide), if_pos (show nI 2 = 2 from rfl)]; exact t5
      · rw [if_neg (show ¬ nI 3 = 0 by decide), if_neg (show ¬ nI 3 = 1 by decide), if_neg (show ¬ nI 3 = 2 by decide), if_pos (show nI 3 = 3 from rfl)]; exact t6
    · rw [show f_X12_isIn x 0 3 = 0 from e5, if_pos rfl, wp_some]
      refine ⟨?_, h1.rel⟩
      have hx : ∀ n, n ≤ 3 → ¬ x = nI n := by
        intro n hn q
        subst q
        rcases e3 with e3 | ⟨e3, e4⟩
        · exact nI_pos (by omega) e3
        · exact e4 (nI_le hn (by omega))
      rw [if_neg (show ¬ x = 0 from hx 0 (by omega)), if_neg (show ¬ x = 1 from hx 1 (by omega)), if_neg (show ¬ x = 2 from hx 2 (by omega)), if_neg (show ¬ x = 3 from hx 3 (by omega))]
theorem b_fold (h : RelN nS nF nT nW bB w v) (x y : Int32) : R2 (f_X11_fold w x y) (f_X12_fold v x y) (BothV w) := by
  have h1 := h.th (x := 0)
  have hb := h.1.1.1
  unfold f_X11_fold f_X12_fold
  simp only [lt_eq, bo_id]
  generalize x_si v 0 0 0 = v1 at h1 ⊢
  have r := h1.rw
  rcases h_Fold r x with ⟨k, hk, rfl, e1, e2⟩ | ⟨-, e1, e2⟩
  · rw [show f_X9_hasFold (x_sub w 6) (nI k) = 1 from e1, e2, if_neg one0, if_neg one0]
    by_cases c0 : y = 0
    · rw [if_pos c0, if_pos c0, rg_in (by omega) (by omega), kl_6, nI_add, ck_in (by omega) (by omega), ga_in (by omega)]
      exact R2_some ⟨r.one hk, h1.rel⟩
    · rw [if_neg c0, if_neg c0]
      by_cases c1 : y = 1
      · rw [if_pos c1, if_pos c1, rg_in (by omega) (by omega), kl_18, nI_add, ck_in (by omega) (by omega), ga_in (by omega)]
        exact R2_some ⟨r.oth hk, h1.rel⟩
      · rw [if_neg c1, if_neg c1]
        by_cases c2 : y = 2
        · rw [if_pos c2, if_pos c2, c_deepNow r hk, r_depthOf (by omega), bo_some]
          exact R2_some ⟨rfl, h1.rel⟩
        · rw [if_neg c2, if_neg c2]
          by_cases c3 : y = 3
          · rw [if_pos c3, if_pos c3, rg_in (by omega) (by omega), kl_42, nI_add, ck_in (by omega) (by omega), ga_in (by omega)]
            exact R2_some ⟨r.knd hk, h1.rel⟩
          · rw [if_neg c3, if_neg c3]
            by_cases c4 : y = 4
            · rw [if_pos c4, if_pos c4, rg_in (by omega) (by omega), kl_99, nI_add, ck_in (by omega) (by omega), ga_in (by omega)]
              exact R2_some ⟨r.slp hk, h1.rel⟩
            · rw [if_neg c4, if_neg c4]
              by_cases c5 : y = 5
              · rw [if_pos c5, if_pos c5, c_goersAlong r (by omega), r_goers r (by omega), bo_some]
                exact R2_some ⟨rfl, h1.rel⟩
              · rw [if_neg c5, if_neg c5]
                exact R2_some ⟨rfl, h1.rel⟩
  · rw [show f_X9_hasFold (x_sub w 6) x = 0 from e1, e2, if_pos rfl, if_pos rfl]
    exact R2_some ⟨rfl, h1.rel⟩
theorem b_spot (h : RelN nS nF nT nW bB w v) (x y : Int32) : R2 (f_X11_spot w x y) (f_X12_spot v x y) (BothV w) := by
  have h1 := h.th (x := 0)
  have hb := h.1.1.1
  unfold f_X11_spot f_X12_spot
  simp only [lt_eq, bo_id]
  generalize x_si v 0 0 0 = v1 at h1 ⊢
  have r := h1.rw
  rcases h_Spot r x with ⟨k, hk, rfl, e1, e2⟩ | ⟨-, e1, e2⟩
  · rw [show f_X9_hasSpot (x_sub w 6) (nI k) = 1 from e1, e2, if_neg one0, if_neg one0]
    by_cases c0 : y = 0
    · rw [if_pos c0, if_pos c0, b_get (by omega), r_has (by omega), show w.1 6 5 = v1.1 2 5 from r.u5, show x_ga v1 2 (5 : Int32) = v1.1 2 5 from by rw [kl_5, ga_in (by omega)]]
      cases bt (v1.1 2 5) k with
      | true => rw [if_neg (show ¬ bI true = 0 by decide)]; exact R2_some ⟨rfl, h1.rel⟩
      | false => rw [if_pos bIf]; exact R2_some ⟨rfl, h1.rel⟩
    · rw [if_neg c0, if_neg c0]
      by_cases c1 : y = 1
      · rw [if_pos c1, if_pos c1, show x_sub w 6 = x_sub (x_sub w 5) 1 from rfl, c_thingsAt r, r_thingsAt r]
        exact R2_some ⟨rfl, h1.rel⟩
      · rw [if_neg c1, if_neg c1]
        by_cases c2 : y = 2
        · rw [if_pos c2, if_pos c2, show x_sub w 6 = x_sub (x_sub w 5) 1 from rfl, c_foldsAt r, r_foldsAt r]
          exact R2_some ⟨rfl, h1.rel⟩
        · rw [if_neg c2, if_neg c2]
          by_cases c3 : y = 3
          · rw [if_pos c3, if_pos c3, c_walkersAt r, r_walkersAt r]
            exact R2_some ⟨rfl, h1.rel⟩
          · rw [if_neg c3, if_neg c3]
            exact R2_some ⟨rfl, h1.rel⟩
  · rw [show f_X9_hasSpot (x_sub w 6) x = 0 from e1, e2, if_pos rfl, if_pos rfl]
    exact R2_some ⟨rfl, h1.rel⟩
theorem b_end (h : RelN nS nF nT nW bB w v) (x : Int32) : Both (f_X11_end w x) (f_X12_end v x) := by
  have h1 := h.th (x := 0)
  unfold f_X11_end f_X12_end
  simp only [lt_eq]
  generalize x_si v 0 0 0 = v1 at h1 ⊢
  obtain ⟨⟨n, n1, n2, n3⟩, t2, t3⟩ := h1.tape
  by_cases c : x < 0
  · rw [if_pos c, if_pos c]; exact ⟨rfl, h1.rel⟩
  · rw [if_neg c, if_neg c, n2, n3]
    by_cases c2 : x ≤ nI n
    · rw [if_pos c2, if_pos c2]
      obtain ⟨k, hk, rfl⟩ := nI_of c
      have hkn : k ≤ n := (nI_leI hk (by omega)).mp c2
      refine ⟨rfl, (RelN.tp (w' := x_si w 1 2 (nI k)) (v' := x_si v1 0 2 (nI k)) h1 rfl (fun i a b => by rw [si_row, row_off a]) ⟨rfl, rfl⟩ (fun i hi => by rw [si_row, row_off (by omega)]) (fun j a b c => by rw [si_row, row_at, up_ne b]) ⟨⟨k, by omega, ?_, ?_⟩, ?_, ?_⟩).rel⟩
      · rw [si_row, row_at, up_eq]
      · rw [si_row, row_at, up_eq]
      · rw [si_row, row_off (by omega), si_row, row_off (by omega)]; exact t2
      · rw [si_row, row_at, up_ne (by omega), si_row, row_at, up_ne (by omega)]; exact t3
    · rw [if_neg c2, if_neg c2]; exact ⟨rfl, h1.rel⟩
end CS
