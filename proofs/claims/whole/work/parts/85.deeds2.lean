-- The other deeds.
section DE
variable {nS nF nT nW bB : Nat} {u v u' v' : XM}
theorem d_learn (h : RW nS nF nT nW bB u v) {w t : Nat} (hw : w < nW) (ht : t < nT) : Deed nS nF nT nW bB u v 10 (nI w) (nI t) 0 1 (nI w) (nI t) := by
  have hb := h.b
  obtain ⟨s, l, ti, q1, q2, q3, q4, q5, q6, q7⟩ := h.wlk hw
  have g1 : r_get 6 (x_sub u 10) (nI t) = v.1 2 (54 + t) := by rw [rg_in (by omega) (by omega)]; exact h.thg ht
  have g2 : r_get 5 (x_sub u 18) (nI w) = v.1 2 (74 + w) := by rw [rg_in (by omega) (by omega)]; exact h.at_ hw
  have g3 : r_get 5 (x_sub u 26) (nI w) = v.1 2 (94 + w) := by rw [rg_in (by omega) (by omega)]; exact h.known hw
  have hperf : f_X10_perform u 10 (nI w) (nI t) 0 = some (f_X10_pickUp u (nI w) (nI t)) := by
    unfold f_X10_perform; rw [if_neg (by decide), if_pos rfl]; rfl
  have hset : f_X10_pickUp u (nI w) (nI t) = if goB v w = true then (1, u) else if ¬ v.1 2 (54 + t) = v.1 2 (74 + w) then (2, u) else if bt (v.1 2 (94 + w)) t = true then (3, u) else (0, x_row u 27 (up (u.1 27) w (v.1 2 (94 + w) ||| ((1 : Int32) <<< (nI t &&& 31))))) := by
    unfold f_X10_pickUp
    rw [lt_eq, c_isGoing h hw]
    cases hg : goB v w with
    | true => rfl
    | false =>
      rw [if_pos bIf, if_neg ft, lt_eq, lt_eq, g1, g2]
      by_cases c1 : v.1 2 (54 + t) = v.1 2 (74 + w)
      · rw [if_pos c1, if_neg (fun q => q c1), lt_eq, g3, b_get (by omega)]
        by_cases c2 : bt (v.1 2 (94 + w)) t = true
        · rw [if_pos (bI_1.mpr c2), if_pos c2]
        · rw [if_neg (fun q => c2 (bI_1.mp q)), if_neg c2]
          simp only [lt_eq]
          rw [put_rput (by omega) (by omega)]
      · rw [if_neg c1, if_pos c1]
  have hwhy : f_X12_why v 1 (nI w) (nI t) = if goB v w = true then some 1 else if ¬ v.1 2 (54 + t) = v.1 2 (74 + w) then some 2 else if bt (v.1 2 (94 + w)) t = true then some 3 else some 0 := by
    unfold f_X12_why
    rw [if_neg (by decide), if_pos rfl, r_isGoing (by omega), bo_some]
    cases hg : goB v w with
    | true => rfl
    | false =>
      rw [if_pos bIf, if_neg ft, kl_54, nI_add, ck_in (by omega) (by omega), kl_74, nI_add, ck_in (by omega) (by omega), ga_in (by omega), ga_in (by omega)]
      by_cases c1 : v.1 2 (54 + t) = v.1 2 (74 + w)
      · rw [if_pos c1, if_neg (fun q => q c1), kl_94, nI_add, ck_in (by omega) (by omega), lt_eq, ga_in (by omega), r_has (by omega)]
        by_cases c2 : bt (v.1 2 (94 + w)) t = true
        · rw [if_neg (by rw [c2]; decide), if_pos c2]
        · rw [if_pos (by rw [bI_0]; simpa using c2), if_neg c2]
      · rw [if_neg c1, if_pos c1]
  rw [hset] at hperf
  cases hg : goB v w with
  | true =>
    rw [hg, if_pos rfl] at hperf hwhy
    exact Deed.no hperf hwhy (by decide)
  | false =>
    rw [hg, if_neg ft] at hperf hwhy
    by_cases c1 : ¬ v.1 2 (54 + t) = v.1 2 (74 + w)
    · rw [if_pos c1] at hperf hwhy
      exact Deed.no hperf hwhy (by decide)
    · rw [if_neg c1] at hperf hwhy
      by_cases c2 : bt (v.1 2 (94 + w)) t = true
      · rw [if_pos c2] at hperf hwhy
        exact Deed.no hperf hwhy (by decide)
      · rw [if_neg c2] at hperf hwhy
        refine Deed.yes hperf hwhy (Fr.rf.row (by decide)) (fun v2 hv2 => ?_)
        have hlive : f_X12_live v2 1 (nI w) (nI t) = some (x_row v2 2 (up (v2.1 2) (94 + w) (v.1 2 (94 + w) ||| ((1 : Int32) <<< (nI t &&& 31))))) := by
          unfold f_X12_live
          rw [if_neg (by decide), if_pos rfl, kl_94, nI_add, ck_in (by omega) (by omega), lt_eq, ck_in (by omega) (by omega), lt_eq, pa_in (by omega), ga_in (by omega), hv2]
        refine ⟨_, hlive, ?_, fun j hj => ?_⟩
        · rw [hv2]
          refine h.step (fun i hi => ?_) (fun j hj => ?_) ?_ ?_ (fun w' hw' => ?_) (fun w' h1 h2 => ?_) (fun f' hf' => ?_) (fun f' h1 h2 => ?_)
          · simp (disch := omega) only [row_off]
          · simp (disch := omega) only [row_at, up_ne]
          · simp (disch := omega) only [row_at, up_ne]; exact h.hourN
          · simp (disch := omega) only [row_at, row_off, up_eq, up_ne]; exact ⟨h.hour, h.mood, h.gone⟩
          · by_cases c : w' = w
            · subst c
              refine ⟨?_, s, l, ti, q1, q2, q3, ?_, ?_, ?_, ?_⟩
              · simp (disch := omega) only [row_at, row_off, up_eq, up_ne, and_true]; exact ⟨h.at_ hw', h.along hw', h.left hw', h.tired hw'⟩
              · simp (disch := omega) only [row_at, up_ne]; exact q4
              · simp (disch := omega) only [row_at, up_ne]; exact q5
              · simp (disch := omega) only [row_at, up_ne]; exact q6
              · simp (disch := omega) only [row_at, up_ne]; exact q7
            · refine (h.wc hw').congr ?_ ?_ <;> simp (disch := omega) only [row_at, row_off, up_eq, up_ne, and_self]
          · have ho := h.out h1 h2
            simp (disch := omega) only [row_at, up_ne]; exact ho
          · refine (h.fc hf').congr ?_ ?_ <;> simp (disch := omega) only [row_at, row_off, up_eq, up_ne, and_self]
          · simp (disch := omega) only [row_at, up_ne]; exact h.slpO h1 h2
        · rw [hv2, up_ne (by omega)]
theorem d_tell (h : RW nS nF nT nW bB u v) {w x : Nat} (hw : w < nW) (hx : x < nW) : Deed nS nF nT nW bB u v 11 (nI w) (nI x) 0 2 (nI w) (nI x) := by
  have hb := h.b
  obtain ⟨s, l, ti, q1, q2, q3, q4, q5, q6, q7⟩ := h.wlk hx
  have g1 : r_get 5 (x_sub u 18) (nI w) = v.1 2 (74 + w) := by rw [rg_in (by omega) (by omega)]; exact h.at_ hw
  have g2 : r_get 5 (x_sub u 18) (nI x) = v.1 2 (74 + x) := by rw [rg_in (by omega) (by omega)]; exact h.at_ hx
  have g3 : r_get 5 (x_sub u 26) (nI w) = v.1 2 (94 + w) := by rw [rg_in (by omega) (by omega)]; exact h.known hw
  have g4 : r_get 5 (x_sub u 26) (nI x) = v.1 2 (94 + x) := by rw [rg_in (by omega) (by omega)]; exact h.known hx
  have hperf : f_X10_perform u 11 (nI w) (nI x) 0 = some (f_X10_share u (nI w) (nI x)) := by
    unfold f_X10_perform; rw [if_neg (by decide), if_neg (by decide), if_pos rfl]; rfl
  have hset : f_X10_share u (nI w) (nI x) = if w = x ∨ goB v w = true ∨ goB v x = true ∨ ¬ v.1 2 (74 + w) = v.1 2 (74 + x) then (1, u) else if (v.1 2 (94 + w) &&& (v.1 2 (94 + x) ^^^ (-1))) = 0 then (2, u) else (0, x_row u 27 (up (u.1 27) x (v.1 2 (94 + w) ||| v.1 2 (94 + x)))) := by
    unfold f_X10_share
    by_cases c0 : w = x
    · rw [if_pos (by rw [c0]), if_pos (Or.inl c0)]
    · rw [if_neg (fun q => c0 (nI_iff (by omega) (by omega) q)), lt_eq, lt_eq, c_isGoing h hw, c_isGoing h hx]
      cases hg : goB v w with
      | true => rw [if_neg (by decide), if_pos (Or.inr (Or.inl rfl))]
      | false =>
        rw [if_pos bIf]
        cases hg2 : goB v x with
        | true => rw [if_neg (by decide), if_pos (Or.inr (Or.inr (Or.inl rfl)))]
        | false =>
          rw [if_pos bIf, lt_eq, lt_eq, g1, g2]
          by_cases c1 : v.1 2 (74 + w) = v.1 2 (74 + x)
          · rw [if_pos c1, if_neg (by simp [c0, c1]), lt_eq, lt_eq, g3, g4]
            by_cases c2 : (v.1 2 (94 + w) &&& (v.1 2 (94 + x) ^^^ (-1))) = 0
            · rw [if_pos c2, if_pos c2]
            · rw [if_neg c2, if_neg c2]
              simp only [lt_eq]
              rw [put_rput (by omega) (by omega)]
          · rw [if_neg c1, if_pos (Or.inr (Or.inr (Or.inr c1)))]
  have hwhy : f_X12_why v 2 (nI w) (nI x) = if w = x ∨ goB v w = true ∨ goB v x = true ∨ ¬ v.1 2 (74 + w) = v.1 2 (74 + x) then some 1 else if (v.1 2 (94 + w) &&& (v.1 2 (94 + x) ^^^ (-1))) = 0 then some 2 else some 0 := by
    unfold f_X12_why f_X12_whyTell
    rw [if_neg (by decide), if_neg (by decide), if_pos rfl, bo_id]
    by_cases c0 : w = x
    · rw [if_pos (by rw [c0]), if_pos (Or.inl c0)]
    · rw [if_neg (fun q => c0 (nI_iff (by omega) (by omega) q)), r_isGoing (by omega), bo_some, r_isGoing (by omega), bo_some]
      cases hg : goB v w with
      | true => rw [if_neg (by decide), if_pos (Or.inr (Or.inl rfl))]
      | false =>
        rw [if_pos bIf]
        cases hg2 : goB v x with
        | true => rw [if_neg (by decide), if_pos (Or.inr (Or.inr (Or.inl rfl)))]
        | false =>
          rw [if_pos bIf, kl_74, nI_add, nI_add, ck_in (by omega) (by omega), ck_in (by omega) (by omega), ga_in (by omega), ga_in (by omega)]
          by_cases c1 : v.1 2 (74 + w) = v.1 2 (74 + x)
          · rw [if_pos c1, if_neg (by simp [c0, c1]), kl_94, nI_add, nI_add, ck_in (by omega) (by omega), ck_in (by omega) (by omega), lt_eq, ga_in (by omega), ga_in (by omega)]
          · rw [if_neg c1, if_pos (Or.inr (Or.inr (Or.inr c1)))]
  rw [hset] at hperf
  by_cases c1 : w = x ∨ goB v w = true ∨ goB v x = true ∨ ¬ v.1 2 (74 + w) = v.1 2 (74 + x)
  · rw [if_pos c1] at hperf hwhy
    exact Deed.no hperf hwhy (by decide)
  · rw [if_neg c1] at hperf hwhy
    by_cases c2 : (v.1 2 (94 + w) &&& (v.1 2 (94 + x) ^^^ (-1))) = 0
    · rw [if_pos c2] at hperf hwhy
      exact Deed.no hperf hwhy (by decide)
    · rw [if_neg c2] at hperf hwhy
      refine Deed.yes hperf hwhy (Fr.rf.row (by decide)) (fun v2 hv2 => ?_)
      have hlive : f_X12_live v2 2 (nI w) (nI x) = some (x_row v2 2 (up (v2.1 2) (94 + x) (v.1 2 (94 + w) ||| v.1 2 (94 + x)))) := by
        unfold f_X12_live
        rw [if_neg (by decide), if_neg (by decide), if_pos rfl, kl_94, nI_add, nI_add, ck_in (by omega) (by omega), ck_in (by omega) (by omega), lt_eq, ck_in (by omega) (by omega), lt_eq, pa_in (by omega), ga_in (by omega), ga_in (by omega), hv2, Int32.or_comm]
      refine ⟨_, hlive, ?_, fun j hj => ?_⟩
      · rw [hv2]
        refine h.step (fun i hi => ?_) (fun j hj => ?_) ?_ ?_ (fun w' hw' => ?_) (fun w' h1 h2 => ?_) (fun f' hf' => ?_) (fun f' h1 h2 => ?_)
        · simp (disch := omega) only [row_off]
        · simp (disch := omega) only [row_at, up_ne]
        · simp (disch := omega) only [row_at, up_ne]; exact h.hourN
        · simp (disch := omega) only [row_at, row_off, up_eq, up_ne]; exact ⟨h.hour, h.mood, h.gone⟩
        · by_cases c : w' = x
          · subst c
            refine ⟨?_, s, l, ti, q1, q2, q3, ?_, ?_, ?_, ?_⟩
            · simp (disch := omega) only [row_at, row_off, up_eq, up_ne, and_true]; exact ⟨h.at_ hw', h.along hw', h.left hw', h.tired hw'⟩
            · simp (disch := omega) only [row_at, up_ne]; exact q4
            · simp (disch := omega) only [row_at, up_ne]; exact q5
            · simp (disch := omega) only [row_at, up_ne]; exact q6
            · simp (disch := omega) only [row_at, up_ne]; exact q7
          · refine (h.wc hw').congr ?_ ?_ <;> simp (disch := omega) only [row_at, row_off, up_eq, up_ne, and_self]
        · have ho := h.out h1 h2
          simp (disch := omega) only [row_at, up_ne]; exact ho
        · refine (h.fc hf').congr ?_ ?_ <;> simp (disch := omega) only [row_at, row_off, up_eq, up_ne, and_self]
        · simp (disch := omega) only [row_at, up_ne]; exact h.slpO h1 h2
      · rw [hv2, up_ne (by omega)]
theorem r_hasAt {x : Int32} {s : Nat} (hs : s < 8) : f_X12_has x (nI s) = bI (bt x s) := r_has (by omega)
theorem c_isHoused (h : RW nS nF nT nW bB u v) {w : Nat} (hw : w < nW) : f_X10_isHoused u (nI w) = bI (!goB v w && bt (v.1 2 5) (v.1 2 (74 + w)).toNatClampNeg) := by
  have hb := h.b
  obtain ⟨s, l, ti, q1, q2, q3, q4, q5, q6, q7⟩ := h.wlk hw
  unfold f_X10_isHoused
  rw [lt_eq, c_isGoing h hw, lt_eq, rg_in (by omega) (by omega), show (x_sub u 18).1 1 w = v.1 2 (74 + w) from h.at_ hw, q4, nI_clamp (by omega), lt_eq, h.u5, b_get (by omega)]
  cases goB v w <;> cases bt (v.1 2 5) s <;> decide
theorem d_rest (h : RW nS nF nT nW bB u v) {w : Nat} (hw : w < nW) : Deed nS nF nT nW bB u v 12 (nI w) 0 0 3 (nI w) 0 := by
  have hb := h.b
  obtain ⟨s, l, ti, q1, q2, q3, q4, q5, q6, q7⟩ := h.wlk hw
  have g3 : r_get 5 (x_sub u 24) (nI w) = v.1 2 (89 + w) := by rw [rg_in (by omega) (by omega)]; exact h.tired hw
  have hperf : f_X10_perform u 12 (nI w) 0 0 = some (f_X10_sleep u (nI w)) := by
    unfold f_X10_perform; rw [if_neg (by decide), if_neg (by decide), if_neg (by decide), if_pos rfl]; rfl
  have hset : f_X10_sleep u (nI w) = if goB v w = true then (1, u) else if ¬ bt (v.1 2 5) s = true then (2, u) else if v.1 2 (89 + w) = 0 then (3, u) else (0, x_row u 25 (up (u.1 25) w 0)) := by
    unfold f_X10_sleep
    rw [lt_eq, c_isGoing h hw, lt_eq, c_isHoused h hw, q4, nI_clamp (by omega)]
    cases hg : goB v w with
    | true => rfl
    | false =>
      rw [if_pos bIf, if_neg ft]
      by_cases c1 : bt (v.1 2 5) s = true
      · rw [c1, if_neg (by decide), if_neg (by simp), lt_eq, g3]
        by_cases c2 : v.1 2 (89 + w) = 0
        · rw [if_pos c2, if_pos c2]
        · rw [if_neg c2, if_neg c2]
          simp only [lt_eq]
          rw [put_rput (by omega) (by omega)]
      · rw [if_pos (by rw [bI_0]; simpa using c1), if_pos c1]
  have hwhy : f_X12_why v 3 (nI w) 0 = if goB v w = true then some 1 else if ¬ bt (v.1 2 5) s = true then some 2 else if v.1 2 (89 + w) = 0 then some 3 else some 0 := by
    unfold f_X12_why
    rw [if_neg (by decide), if_neg (by decide), if_neg (by decide), if_pos rfl, r_isGoing (by omega), bo_some]
    cases hg : goB v w with
    | true => rfl
    | false =>
      rw [if_pos bIf, if_neg ft, kl_74, nI_add, ck_in (by omega) (by omega), lt_eq, ga_in (by omega), q4, r_has (by omega), show x_ga v 2 (5 : Int32) = v.1 2 5 from by rw [kl_5, ga_in (by omega)]]
      by_cases c1 : bt (v.1 2 5) s = true
      · rw [c1, if_neg (show ¬ bI true = 0 by decide), if_neg (show ¬ ¬ true = true by simp), kl_89, nI_add, ck_in (by omega) (by omega), ga_in (by omega)]
      · rw [if_pos (by rw [bI_0]; simpa using c1), if_pos c1]
  rw [hset] at hperf
  cases hg : goB v w with
  | true =>
    rw [hg, if_pos rfl] at hperf hwhy
    exact Deed.no hperf hwhy (by decide)
  | false =>
    rw [hg, if_neg ft] at hperf hwhy
    by_cases c1 : ¬ bt (v.1 2 5) s = true
    · rw [if_pos c1] at hperf hwhy
      exact Deed.no hperf hwhy (by decide)
    · rw [if_neg c1] at hperf hwhy
      by_cases c2 : v.1 2 (89 + w) = 0
      · rw [if_pos c2] at hperf hwhy
        exact Deed.no hperf hwhy (by decide)
      · rw [if_neg c2] at hperf hwhy
        refine Deed.yes hperf hwhy (Fr.rf.row (by decide)) (fun v2 hv2 => ?_)
        have hlive : f_X12_live v2 3 (nI w) 0 = some (x_row v2 2 (up (v2.1 2) (89 + w) 0)) := by
          unfold f_X12_live
          rw [if_neg (by decide), if_neg (by decide), if_neg (by decide), if_pos rfl, kl_89, nI_add, ck_in (by omega) (by omega), lt_eq, pa_in (by omega)]
        refine ⟨_, hlive, ?_, fun j hj => ?_⟩
        · rw [hv2]
          refine h.step (fun i hi => ?_) (fun j hj => ?_) ?_ ?_ (fun w' hw' => ?_) (fun w' h1 h2 => ?_) (fun f' hf' => ?_) (fun f' h1 h2 => ?_)
          · simp (disch := omega) only [row_off]
          · simp (disch := omega) only [row_at, up_ne]
          · simp (disch := omega) only [row_at, up_ne]; exact h.hourN
          · simp (disch := omega) only [row_at, row_off, up_eq, up_ne]; exact ⟨h.hour, h.mood, h.gone⟩
          · by_cases c : w' = w
            · subst c
              refine ⟨?_, s, l, 0, q1, q2, by omega, ?_, ?_, ?_, ?_⟩
              · simp (disch := omega) only [row_at, row_off, up_eq, up_ne, true_and]; exact ⟨h.at_ hw', h.along hw', h.left hw', h.known hw'⟩
              · simp (disch := omega) only [row_at, up_ne]; exact q4
              · simp (disch := omega) only [row_at, up_ne]; exact q5
              · simp (disch := omega) only [row_at, up_eq]; rfl
              · simp (disch := omega) only [row_at, up_ne]; exact q7
            · refine (h.wc hw').congr ?_ ?_ <;> simp (disch := omega) only [row_at, row_off, up_eq, up_ne, and_self]
          · have ho := h.out h1 h2
            simp (disch := omega) only [row_at, up_ne]; exact ho
          · refine (h.fc hf').congr ?_ ?_ <;> simp (disch := omega) only [row_at, row_off, up_eq, up_ne, and_self]
          · simp (disch := omega) only [row_at, up_ne]; exact h.slpO h1 h2
        · rw [hv2, up_ne (by omega)]
theorem d_cream (h : RW nS nF nT nW bB u v) {f : Nat} (hf : f < nF) : Deed nS nF nT nW bB u v 13 0 (nI f) 0 4 (nI f) 0 := by
  have hb := h.b
  have g3 : r_get 12 (x_sub u 28) (nI f) = pdO v f := by rw [rg_in (by omega) (by omega)]; exact h.dep hf
  have hperf : f_X10_perform u 13 0 (nI f) 0 = some (f_X10_smooth u (nI f)) := by
    unfold f_X10_perform; rw [if_neg (by decide), if_neg (by decide), if_neg (by decide), if_neg (by decide), if_pos rfl]; rfl
  have hset : f_X10_smooth u (nI f) = if pdO v f = 1 then (1, u) else (0, x_row u 29 (up (u.1 29) f 1)) := by
    unfold f_X10_smooth
    rw [lt_eq, g3]
    by_cases c2 : pdO v f = 1
    · rw [if_pos c2, if_pos c2]
    · rw [if_neg c2, if_neg c2]
      simp only [lt_eq]
      rw [put_rput (by omega) (by omega)]
  have hwhy : f_X12_why v 4 (nI f) 0 = if pdO v f = 1 then some 1 else some 0 := by
    unfold f_X12_why
    rw [if_neg (by decide), if_neg (by decide), if_neg (by decide), if_neg (by decide), if_pos rfl, r_plain (by omega), bo_some]
  rw [hset] at hperf
  by_cases c1 : pdO v f = 1
  · rw [if_pos c1] at hperf hwhy
    exact Deed.no hperf hwhy (by decide)
  · rw [if_neg c1] at hperf hwhy
    refine Deed.yes hperf hwhy (Fr.rf.row (by decide)) (fun v2 hv2 => ?_)
    have hlive : f_X12_live v2 4 (nI f) 0 = some (x_row v2 2 (up (v2.1 2) 72 (v.1 2 72 ||| ((1 : Int32) <<< (nI f &&& 31))))) := by
      unfold f_X12_live
      rw [if_neg (by decide), if_neg (by decide), if_neg (by decide), if_neg (by decide), if_pos rfl, lt_eq, lt_eq, kl_72, pa_in (by omega), ga_in (by omega), hv2]
    refine ⟨_, hlive, ?_, fun j hj => ?_⟩
    · rw [hv2]
      refine h.step (fun i hi => ?_) (fun j hj => ?_) ?_ ?_ (fun w' hw' => ?_) (fun w' h1 h2 => ?_) (fun f' hf' => ?_) (fun f' h1 h2 => ?_)
      · simp (disch := omega) only [row_off]
      · simp (disch := omega) only [row_at, up_ne]
      · simp (disch := omega) only [row_at, up_ne]; exact h.hourN
      · simp (disch := omega) only [row_at, row_off, up_eq, up_ne]; exact ⟨h.hour, h.mood, h.gone⟩
      · refine (h.wc hw').congr ?_ ?_ <;> simp (disch := omega) only [row_at, row_off, up_eq, up_ne, and_self]
      · simp (disch := omega) only [row_at, up_ne]; exact h.out h1 h2
      · by_cases c : f' = f
        · subst c
          obtain ⟨a1, a2, a3⟩ := h.fc hf'
          refine ⟨?_, ?_, ?_⟩
          · unfold pdO
            simp (disch := omega) only [row_at, up_eq]
            rw [if_pos (by rw [b_set (by omega) (by omega)]; simp)]
          · simp (disch := omega) only [row_at, row_off, up_ne]; exact a2
          · simp (disch := omega) only [row_at, up_ne]; exact a3
        · obtain ⟨a1, a2, a3⟩ := h.fc hf'
          refine ⟨?_, ?_, ?_⟩
          · unfold pdO at a1 ⊢
            simp (disch := omega) only [row_at, up_eq, up_ne]
            rw [b_set (by omega) (by omega), decide_eq_false c, Bool.or_false]
            exact a1
          · simp (disch := omega) only [row_at, row_off, up_ne]; exact a2
          · simp (disch := omega) only [row_at, up_ne]; exact a3
      · simp (disch := omega) only [row_at, up_ne]; exact h.slpO h1 h2
    · rw [hv2, up_ne (by omega)]
theorem bs_zero_or (x : Int32) : x = 0 ∨ ¬ x = 0 := Classical.em _
theorem d_slip (h : RW nS nF nT nW bB u v) {f n : Nat} (hf : f < nF) (hn : n ≤ 30) : Deed nS nF nT nW bB u v 14 0 (nI f) (nI n) 5 (nI f) (nI n) := by
  have hb := h.b
  have g3 : r_get 12 (x_sub u 30) (nI f) = v.1 2 (99 + f) := by rw [rg_in (by omega) (by omega)]; exact h.slp hf
  have hperf : f_X10_perform u 14 0 (nI f) (nI n) = f_X10_close u (nI f) (nI n) := by
    unfold f_X10_perform; rw [if_neg (by decide), if_neg (by decide), if_neg (by decide), if_neg (by decide), if_neg (by decide), if_pos rfl, bo_pair]
  have hset : f_X10_close u (nI f) (nI n) = if ¬ v.1 2 (99 + f) ≤ 0 then some (1, u) else if ¬ bs (fun i => decide (v.1 2 (79 + i) = nI f)) nW = 0 then some (2, u) else some (0, x_row u 31 (up (u.1 31) f (nI n))) := by
    unfold f_X10_close
    rw [lt_eq, g3]
    by_cases c2 : v.1 2 (99 + f) ≤ 0
    · rw [if_pos c2, if_neg (fun q => q c2), c_goersAlong h (by omega), bo_some]
      by_cases c3 : bs (fun i => decide (v.1 2 (79 + i) = nI f)) nW = 0
      · rw [if_pos c3, if_neg (fun q => q c3)]
        simp only [lt_eq]
        rw [put_rput (by omega) (by omega)]
      · rw [if_neg c3, if_pos c3]
    · rw [if_neg c2, if_pos c2]
  have hwhy : f_X12_why v 5 (nI f) (nI n) = if ¬ v.1 2 (99 + f) ≤ 0 then some 1 else if ¬ bs (fun i => decide (v.1 2 (79 + i) = nI f)) nW = 0 then some 2 else some 0 := by
    unfold f_X12_why
    rw [if_neg (by decide), if_neg (by decide), if_neg (by decide), if_neg (by decide), if_neg (by decide), if_pos rfl, kl_99, nI_add, ck_in (by omega) (by omega), ga_in (by omega)]
    by_cases c2 : v.1 2 (99 + f) ≤ 0
    · rw [if_pos c2, if_neg (fun q => q c2), r_goers h (by omega), bo_some]
      by_cases c3 : bs (fun i => decide (v.1 2 (79 + i) = nI f)) nW = 0
      · rw [if_pos c3, if_neg (fun q => q c3)]
      · rw [if_neg c3, if_pos c3]
    · rw [if_neg c2, if_pos c2]
  rw [hset] at hperf
  by_cases c1 : ¬ v.1 2 (99 + f) ≤ 0
  · rw [if_pos c1] at hperf hwhy
    exact Deed.no hperf hwhy (by decide)
  · rw [if_neg c1] at hperf hwhy
    by_cases c2 : ¬ bs (fun i => decide (v.1 2 (79 + i) = nI f)) nW = 0
    · rw [if_pos c2] at hperf hwhy
      exact Deed.no hperf hwhy (by decide)
    · rw [if_neg c2] at hperf hwhy
      refine Deed.yes hperf hwhy (Fr.rf.row (by decide)) (fun v2 hv2 => ?_)
      have hlive : f_X12_live v2 5 (nI f) (nI n) = some (x_row v2 2 (up (v2.1 2) (99 + f) (nI n))) := by
        unfold f_X12_live
        rw [if_neg (by decide), if_neg (by decide), if_neg (by decide), if_neg (by decide), if_neg (by decide), if_pos rfl, kl_99, nI_add, ck_in (by omega) (by omega), lt_eq, pa_in (by omega)]
      refine ⟨_, hlive, ?_, fun j hj => ?_⟩
      · rw [hv2]
        refine h.step (fun i hi => ?_) (fun j hj => ?_) ?_ ?_ (fun w' hw' => ?_) (fun w' h1 h2 => ?_) (fun f' hf' => ?_) (fun f' h1 h2 => ?_)
        · simp (disch := omega) only [row_off]
        · simp (disch := omega) only [row_at, up_ne]
        · simp (disch := omega) only [row_at, up_ne]; exact h.hourN
        · simp (disch := omega) only [row_at, row_off, up_eq, up_ne]; exact ⟨h.hour, h.mood, h.gone⟩
        · refine (h.wc hw').congr ?_ ?_ <;> simp (disch := omega) only [row_at, row_off, up_eq, up_ne, and_self]
        · simp (disch := omega) only [row_at, up_ne]; exact h.out h1 h2
        · by_cases c : f' = f
          · subst c
            obtain ⟨a1, a2, a3⟩ := h.fc hf'
            refine ⟨?_, ?_, ?_⟩
            · unfold pdO at a1 ⊢
              simp (disch := omega) only [row_at, row_off, up_ne]
              exact a1
            · simp (disch := omega) only [row_at, row_off, up_eq]
            · exact ⟨n, hn, by simp (disch := omega) only [row_at, up_eq]⟩
          · refine (h.fc hf').congr ?_ ?_ <;> simp (disch := omega) only [row_at, row_off, up_eq, up_ne, and_self]
        · simp (disch := omega) only [row_at, up_ne]; exact h.slpO h1 h2
      · rw [hv2, up_ne (by omega)]
theorem d_mood (h : RW nS nF nT nW bB u v) {k : Int32} {y : Int32} : Deed nS nF nT nW bB u v 15 0 k 0 6 k y := by
  have hb := h.b
  have hperf : f_X10_perform u 15 0 k 0 = some (f_X10_lift u k) := by
    unfold f_X10_perform; rw [if_neg (by decide), if_neg (by decide), if_neg (by decide), if_neg (by decide), if_neg (by decide), if_neg (by decide), if_pos rfl]; rfl
  have hset : f_X10_lift u k = if v.1 2 71 = k then (1, u) else (0, x_row u 17 (up (u.1 17) 1 k)) := by
    unfold f_X10_lift
    rw [h.mood]
    by_cases c2 : v.1 2 71 = k
    · rw [if_pos c2, if_pos c2]
    · rw [if_neg c2, if_neg c2, lt_eq, si_row]
  have hwhy : f_X12_why v 6 k y = if v.1 2 71 = k then some 1 else some 0 := by
    unfold f_X12_why
    rw [if_neg (by decide), if_neg (by decide), if_neg (by decide), if_neg (by decide), if_neg (by decide), if_neg (by decide), show x_ga v 2 (71 : Int32) = v.1 2 71 from by rw [kl_71, ga_in (by omega)]]
  rw [hset] at hperf
  by_cases c1 : v.1 2 71 = k
  · rw [if_pos c1] at hperf hwhy
    exact Deed.no hperf hwhy (by decide)
  · rw [if_neg c1] at hperf hwhy
    refine Deed.yes hperf hwhy (Fr.rf.row (by decide)) (fun v2 hv2 => ?_)
    have hlive : f_X12_live v2 6 k y = some (x_row v2 2 (up (v2.1 2) 71 k)) := by
      unfold f_X12_live
      rw [if_neg (by decide), if_neg (by decide), if_neg (by decide), if_neg (by decide), if_neg (by decide), if_neg (by decide), lt_eq, kl_71, pa_in (by omega)]
    refine ⟨_, hlive, ?_, fun j hj => ?_⟩
    · rw [hv2]
      refine h.step (fun i hi => ?_) (fun j hj => ?_) ?_ ?_ (fun w' hw' => ?_) (fun w' h1 h2 => ?_) (fun f' hf' => ?_) (fun f' h1 h2 => ?_)
      · simp (disch := omega) only [row_off]
      · simp (disch := omega) only [row_at, up_ne]
      · simp (disch := omega) only [row_at, up_ne]; exact h.hourN
      · simp (disch := omega) only [row_at, row_off, up_eq, up_ne, true_and]; exact ⟨h.hour, h.gone⟩
      · refine (h.wc hw').congr ?_ ?_ <;> simp (disch := omega) only [row_at, row_off, up_eq, up_ne, and_self]
      · simp (disch := omega) only [row_at, up_ne]; exact h.out h1 h2
      · refine (h.fc hf').congr ?_ ?_ <;> simp (disch := omega) only [row_at, row_off, up_eq, up_ne, and_self]
      · simp (disch := omega) only [row_at, up_ne]; exact h.slpO h1 h2
    · rw [hv2, up_ne (by omega)]
end DE
