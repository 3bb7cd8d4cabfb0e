-- Deeds: why not, and what they leave; both sides.
theorem bo_pair {α β : Type} {f : Option (α × β)} : x_bo f (fun y => some (y.1, y.2)) = f := by cases f <;> rfl
theorem bo_id {α : Type} {f : Option α} : x_bo f (fun y => some y) = f := by cases f <;> rfl
theorem ft : ¬ (false = true) := by decide
theorem bIf : bI false = 0 := rfl
theorem bIt : bI true = 1 := rfl
theorem one0 : ¬ ((1 : Int32) = 0) := by decide
theorem put_rput {v : XM} {o n k : Nat} {x : Int32} (h : k < n) (hn : n < 2 ^ 31) : x_put v o 2 (r_put n (x_sub v o) (nI k) x) = x_row v (1 + o) (up (v.1 (1 + o)) k x) := by
  rw [rp_in h hn]
  exact put_row (by omega)
theorem put_radd {v : XM} {o n k : Nat} {x : Int32} (h : k < n) (hn : n < 2 ^ 31) : x_put v o 2 (r_add n (x_sub v o) (nI k) x) = x_row v (1 + o) (up (v.1 (1 + o)) k (v.1 (1 + o) k + x)) := by
  rw [ra_in h hn]
  exact put_row (by omega)
section DD
variable {nS nF nT nW bB : Nat} {u v u' v' : XM}
theorem RV.congr {cv cv' : Nat → Nat → Int32} {hd hd' : Nat → Int32} (h : RV nS nF nT nW bB cv hd) (hc : ∀ i, i < 15 → cv' i = cv i) (hh : ∀ j, j < 70 → hd' j = hd j) : RV nS nF nT nW bB cv' hd' := by
  obtain ⟨h1, h2, h3, h4, h5, h6, h7⟩ := h
  obtain ⟨b1, b2, b3, b4, b5, b6⟩ := h1
  refine ⟨⟨b1, b2, b3, b4, b5, b6⟩, ?_, ?_, ?_, ?_, ?_, ?_⟩
  · rw [hh 0 (by omega), hh 1 (by omega), hh 2 (by omega), hh 3 (by omega), hh 4 (by omega)]; exact h2
  · rw [hc 0 (by omega), hh 5 (by omega)]; exact h3
  · intro f hf
    rw [hc 2 (by omega), hc 4 (by omega), hc 6 (by omega), hc 8 (by omega), hh _ (by omega), hh _ (by omega), hh _ (by omega), hh _ (by omega)]; exact h4 f hf
  · intro f hf
    rw [hh _ (by omega), hh _ (by omega), hh _ (by omega)]; exact h5 f hf
  · intro t ht
    rw [hc 10 (by omega), hh _ (by omega)]; exact h6 t ht
  · intro w hw
    rw [hc 12 (by omega), hc 14 (by omega), hh _ (by omega), hh _ (by omega)]; exact h7 w hw
/-- a world's walker -/
def WC (nS bB : Nat) (u v : XM) (w : Nat) : Prop := (u.1 19 w = v.1 2 (74 + w) ∧ u.1 21 w = v.1 2 (79 + w) ∧ u.1 23 w = v.1 2 (84 + w) ∧ u.1 25 w = v.1 2 (89 + w) ∧ u.1 27 w = v.1 2 (94 + w)) ∧ ∃ s l t, s < nS ∧ l ≤ 9 ∧ t + l ≤ bB ∧ v.1 2 (74 + w) = nI s ∧ v.1 2 (84 + w) = nI l ∧ v.1 2 (89 + w) = nI t ∧ (l = 0 ↔ v.1 2 (79 + w) = -1)
/-- a world's fold -/
def FC (u v : XM) (f : Nat) : Prop := u.1 29 f = pdO v f ∧ u.1 31 f = v.1 2 (99 + f) ∧ ∃ n, n ≤ 30 ∧ v.1 2 (99 + f) = nI n
theorem RW.wc (h : RW nS nF nT nW bB u v) {w : Nat} (hw : w < nW) : WC nS bB u v w := ⟨⟨h.at_ hw, h.along hw, h.left hw, h.tired hw, h.known hw⟩, h.wlk hw⟩
theorem RW.fc (h : RW nS nF nT nW bB u v) {f : Nat} (hf : f < nF) : FC u v f := ⟨h.dep hf, h.slp hf, h.slpN hf⟩
theorem RW.step (h : RW nS nF nT nW bB u v) (hu : ∀ i, i ≤ 15 → u'.1 i = u.1 i) (hv : ∀ j, j < 70 → v'.1 2 j = v.1 2 j) (hh : ∃ n, n ≤ 400 ∧ v'.1 2 70 = nI n) (h0 : u'.1 17 0 = v'.1 2 70 ∧ u'.1 17 1 = v'.1 2 71 ∧ u'.1 17 2 = v'.1 2 73)
    (hw : ∀ w, w < nW → WC nS bB u' v' w) (ho : ∀ w, nW ≤ w → w < 5 → v'.1 2 (89 + w) = 0 ∧ v'.1 2 (94 + w) = 0) (hf : ∀ f, f < nF → FC u' v' f) (hfo : ∀ f, nF ≤ f → f < 12 → v'.1 2 (99 + f) = 0) : RW nS nF nT nW bB u' v' := by
  refine ⟨h.1.congr (fun i hi => hu (i + 1) (by omega)) hv, hh, h0, ?_, ?_, ?_, ?_, ?_⟩
  · intro w k
    obtain ⟨⟨a1, a2, a3, a4, a5⟩, -⟩ := hw w k
    exact ⟨a1.trans ((so_at (by omega)).mpr rfl).symm, a2.trans ((so_at (by omega)).mpr rfl).symm, a3.trans ((so_at (by omega)).mpr rfl).symm, a4.trans ((so_at (by omega)).mpr rfl).symm, a5.trans ((so_at (by omega)).mpr rfl).symm⟩
  · intro w k
    obtain ⟨-, s, l, t, a1, a2, a3, a4, a5, a6, a7⟩ := hw w k
    exact ⟨s, l, t, a1, a2, a3, (so_at (by omega)).mpr a4, (so_at (by omega)).mpr a5, (so_at (by omega)).mpr a6, a7.trans (so_at (by omega)).symm⟩
  · intro w k1 k2
    exact ⟨(so_at (by omega)).mpr (ho w k1 k2).1, (so_at (by omega)).mpr (ho w k1 k2).2⟩
  · intro f k
    obtain ⟨a1, a2, n, a3, a4⟩ := hf f k
    exact ⟨a1, a2.trans ((so_at (by omega)).mpr rfl).symm, n, a3, (so_at (by omega)).mpr a4⟩
  · intro f k1 k2
    exact (so_at (by omega)).mpr (hfo f k1 k2)
theorem WC.congr {w : Nat} (h : WC nS bB u v w) (e : u'.1 19 w = u.1 19 w ∧ u'.1 21 w = u.1 21 w ∧ u'.1 23 w = u.1 23 w ∧ u'.1 25 w = u.1 25 w ∧ u'.1 27 w = u.1 27 w) (e2 : v'.1 2 (74 + w) = v.1 2 (74 + w) ∧ v'.1 2 (79 + w) = v.1 2 (79 + w) ∧ v'.1 2 (84 + w) = v.1 2 (84 + w) ∧ v'.1 2 (89 + w) = v.1 2 (89 + w) ∧ v'.1 2 (94 + w) = v.1 2 (94 + w)) : WC nS bB u' v' w := by
  obtain ⟨a1, a2, a3, a4, a5⟩ := e
  obtain ⟨b1, b2, b3, b4, b5⟩ := e2
  unfold WC
  rw [a1, a2, a3, a4, a5, b1, b2, b3, b4, b5]
  exact h
theorem FC.congr {f : Nat} (h : FC u v f) (e : u'.1 29 f = u.1 29 f ∧ u'.1 31 f = u.1 31 f) (e2 : v'.1 2 72 = v.1 2 72 ∧ v'.1 2 (30 + f) = v.1 2 (30 + f) ∧ v'.1 2 (99 + f) = v.1 2 (99 + f)) : FC u' v' f := by
  obtain ⟨a1, a2⟩ := e
  obtain ⟨b1, b2, b3⟩ := e2
  unfold FC pdO
  rw [a1, a2, b1, b2, b3]
  exact h
theorem dpN (h : RW nS nF nT nW bB u v) {f : Nat} (hf : f < nF) : ∃ d, 1 ≤ d ∧ d ≤ 9 ∧ dpO v f = nI d := by
  obtain ⟨a, b, d, -, -, -, h4, h5, -, -, h8⟩ := h.ends hf
  have hp : ∃ d, 1 ≤ d ∧ d ≤ 9 ∧ pdO v f = nI d := by
    unfold pdO
    by_cases c : bt (v.1 2 72) f = true
    · rw [if_pos c]; exact ⟨1, by omega, by omega, rfl⟩
    · rw [if_neg c]; exact ⟨d, h4, h5, h8⟩
  obtain ⟨d, h4, h5, h8⟩ := hp
  unfold dpO
  rw [h8]
  by_cases c : v.1 2 (42 + f) = v.1 2 71 ∧ ¬ nI d ≤ 1
  · rw [if_pos c]
    have hd : ¬ d ≤ 1 := fun q => c.2 (by rw [kl_1, nI_leI (by omega) (by omega)]; exact q)
    refine ⟨d - 1, by omega, by omega, ?_⟩
    rw [kl_1, pk_sub (by omega)]
  · rw [if_neg c]; exact ⟨d, h4, h5, rfl⟩
theorem hrN (h : RW nS nF nT nW bB u v) {f p : Nat} (hf : f < nF) (hp : 1 ≤ p) (hp2 : p ≤ 5) : ∃ n, 1 ≤ n ∧ n ≤ 9 ∧ hrO v f (nI p) = nI n := by
  obtain ⟨d, h1, h2, h3⟩ := dpN h hf
  unfold hrO
  rw [h3, nI_add, kl_1, pk_sub (by omega), pk_div (by omega) (by omega) (by omega)]
  refine ⟨(d + p - 1) / p, ?_, ?_, rfl⟩ <;> rcases (show p = 1 ∨ p = 2 ∨ p = 3 ∨ p = 4 ∨ p = 5 by omega) with rfl | rfl | rfl | rfl | rfl <;> omega
theorem otO_congr {f : Nat} {s : Int32} (h : v'.1 2 (6 + f) = v.1 2 (6 + f) ∧ v'.1 2 (18 + f) = v.1 2 (18 + f)) : otO v' f s = otO v f s := by
  unfold otO
  rw [h.1, h.2]
theorem hrO_congr {f : Nat} {p : Int32} (h : v'.1 2 = v.1 2) : hrO v' f p = hrO v f p := by
  unfold hrO dpO pdO
  rw [h]
/-- a deed: both sides say why not; where nothing is against it both do the same -/
def Deed (nS nF nT nW bB : Nat) (u v : XM) (d w x n d' a b : Int32) : Prop :=
  ∃ (r : Int32) (u' : XM), f_X10_perform u d w x n = some (r, u') ∧ f_X12_why v d' a b = some r ∧ Fr [17, 19, 21, 23, 25, 27, 29, 31] u u' ∧ (¬ r = 0 → u' = u) ∧ (r = 0 → ∀ v2 : XM, v2.1 2 = v.1 2 → ∃ N, f_X12_live v2 d' a b = some (x_row v2 2 N) ∧ RW nS nF nT nW bB u' (x_row v2 2 N) ∧ ∀ j, j < 71 ∨ 111 ≤ j → N j = v.1 2 j)
theorem Deed.no {d w x n d' a b r : Int32} (h1 : f_X10_perform u d w x n = some (r, u)) (h2 : f_X12_why v d' a b = some r) (hr : ¬ r = 0) : Deed nS nF nT nW bB u v d w x n d' a b := ⟨r, u, h1, h2, Fr.rf, fun _ => rfl, fun q => absurd q hr⟩
theorem Deed.yes {d w x n d' a b : Int32} (h1 : f_X10_perform u d w x n = some (0, u')) (h2 : f_X12_why v d' a b = some 0) (hf : Fr [17, 19, 21, 23, 25, 27, 29, 31] u u') (h3 : ∀ v2 : XM, v2.1 2 = v.1 2 → ∃ N, f_X12_live v2 d' a b = some (x_row v2 2 N) ∧ RW nS nF nT nW bB u' (x_row v2 2 N) ∧ ∀ j, j < 71 ∨ 111 ≤ j → N j = v.1 2 j) : Deed nS nF nT nW bB u v d w x n d' a b := ⟨0, u', h1, h2, hf, fun q => absurd rfl q, fun _ => h3⟩

theorem d_walk (h : RW nS nF nT nW bB u v) {w f : Nat} (hw : w < nW) (hf : f < nF) : Deed nS nF nT nW bB u v 9 (nI w) (nI f) 0 0 (nI w) (nI f) := by
  have hb := h.b
  obtain ⟨s, l, t, q1, q2, q3, q4, q5, q6, q7⟩ := h.wlk hw
  obtain ⟨p, p1, p2, p3⟩ := h.paceN hw
  obtain ⟨n, n1, n2, n3⟩ := hrN h hf p1 p2
  obtain ⟨k, k1, k2⟩ := h.slpN hf
  have g_at : r_get 5 (x_sub u 18) (nI w) = nI s := by rw [rg_in (by omega) (by omega), ← q4]; exact h.at_ hw
  have g_sl : r_get 12 (x_sub u 30) (nI f) = nI k := by rw [rg_in (by omega) (by omega), ← k2]; exact h.slp hf
  have g_pc : r_get 5 (x_sub u 14) (nI w) = nI p := by rw [rg_in (by omega) (by omega), ← p3]; exact h.pace hw
  have g_ti : r_get 5 (x_sub u 24) (nI w) = nI t := by rw [rg_in (by omega) (by omega), ← q6]; exact h.tired hw
  have hperf : f_X10_perform u 9 (nI w) (nI f) 0 = f_X10_setOut u (nI w) (nI f) := by
    unfold f_X10_perform; rw [if_pos rfl, bo_pair]
  have hwhy : f_X12_why v 0 (nI w) (nI f) = f_X12_whyWalk v (nI w) (nI f) := by
    unfold f_X12_why; rw [if_pos rfl, bo_id]
  have hset : f_X10_setOut u (nI w) (nI f) = if goB v w = true then some (1, u) else if otO v f (nI s) = -1 then some (2, u) else if ¬ nI k ≤ 0 then some (3, u) else if ¬ nI (t + n) ≤ nI bB then some (4, u) else some (0, x_row (x_row (x_row u 19 (up (u.1 19) w (otO v f (nI s)))) 21 (up (u.1 21) w (nI f))) 23 (up (u.1 23) w (nI n))) := by
    unfold f_X10_setOut
    rw [lt_eq, c_isGoing h hw]
    cases hg : goB v w with
    | true => rfl
    | false =>
      rw [if_pos bIf, if_neg ft, lt_eq, lt_eq, g_at, c_across h hf]
      by_cases c1 : otO v f (nI s) = -1
      · rw [if_pos c1, if_pos c1]
      · rw [if_neg c1, if_neg c1, lt_eq, g_sl]
        by_cases c2 : nI k ≤ 0
        · rw [if_pos c2, if_neg (fun q => q c2), lt_eq, g_pc, c_hoursOn h hf p1 (by omega), bo_some, lt_eq, g_ti, n3, nI_add, h.u4]
          by_cases c3 : nI (t + n) ≤ nI bB
          · rw [if_pos c3, if_neg (fun q => q c3)]
            simp only [lt_eq]
            rw [put_rput (by omega) (by omega), put_rput (by omega) (by omega), put_rput (by omega) (by omega)]
            rfl
          · rw [if_neg c3, if_pos c3]
        · rw [if_neg c2, if_pos c2]
  have hwhy2 : f_X12_whyWalk v (nI w) (nI f) = if goB v w = true then some 1 else if otO v f (nI s) = -1 then some 2 else if ¬ nI k ≤ 0 then some 3 else if ¬ nI (t + n) ≤ nI bB then some 4 else some 0 := by
    unfold f_X12_whyWalk
    rw [r_isGoing (by omega), bo_some]
    cases hg : goB v w with
    | true => rfl
    | false =>
      rw [if_pos bIf, if_neg ft, kl_74, nI_add, ck_in (by omega) (by omega), ga_in (by omega), q4, r_otherEnd (by omega), bo_some]
      by_cases c1 : otO v f (nI s) = -1
      · rw [if_pos c1, if_pos c1]
      · rw [if_neg c1, if_neg c1, kl_99, nI_add, ck_in (by omega) (by omega), ga_in (by omega), k2]
        by_cases c2 : nI k ≤ 0
        · rw [if_pos c2, if_neg (fun q => q c2), kl_89, nI_add, ck_in (by omega) (by omega), kl_65, nI_add, ck_in (by omega) (by omega), ga_in (by omega), p3, r_hoursOf (by omega) (nI_ne0 (by omega) (by omega)), bo_some, ga_in (by omega), q6, n3, nI_add, show x_ga v 2 (4 : Int32) = nI bB from by rw [kl_4, ga_in (by omega)]; exact h.v4]
          by_cases c3 : nI (t + n) ≤ nI bB
          · rw [if_pos c3, if_neg (fun q => q c3)]
          · rw [if_neg c3, if_pos c3]
        · rw [if_neg c2, if_pos c2]
  rw [← hwhy] at hwhy2
  rw [hset] at hperf
  cases hg : goB v w with
  | true =>
    rw [hg, if_pos rfl] at hperf hwhy2
    exact Deed.no hperf hwhy2 (by decide)
  | false =>
    rw [hg, if_neg ft] at hperf hwhy2
    by_cases c1 : otO v f (nI s) = -1
    · rw [if_pos c1] at hperf hwhy2
      exact Deed.no hperf hwhy2 (by decide)
    · rw [if_neg c1] at hperf hwhy2
      by_cases c2 : ¬ nI k ≤ 0
      · rw [if_pos c2] at hperf hwhy2
        exact Deed.no hperf hwhy2 (by decide)
      · rw [if_neg c2] at hperf hwhy2
        by_cases c3 : ¬ nI (t + n) ≤ nI bB
        · rw [if_pos c3] at hperf hwhy2
          exact Deed.no hperf hwhy2 (by decide)
        · rw [if_neg c3] at hperf hwhy2
          have c3 : t + n ≤ bB := (nI_leI (by omega) (by omega)).mp (Classical.not_not.mp c3)
          obtain ⟨e, e1, e2⟩ := (otO_cases h hf).resolve_left c1
          refine Deed.yes hperf hwhy2 (((Fr.rf.row (by decide)).row (by decide)).row (by decide)) (fun v2 hv2 => ?_)
          have hlive : f_X12_live v2 0 (nI w) (nI f) = some (x_row v2 2 (up (up (up (v2.1 2) (84 + w) (nI n)) (74 + w) (otO v f (nI s))) (79 + w) (nI f))) := by
            unfold f_X12_live
            rw [if_pos rfl, kl_65, nI_add, ck_in (by omega) (by omega), ga_in (by omega), hv2, p3, r_hoursOf (by omega) (nI_ne0 (by omega) (by omega)), bo_some, hrO_congr hv2, n3, kl_84, nI_add, ck_in (by omega) (by omega), lt_eq, pa_in (by omega), kl_74, nI_add, ck_in (by omega) (by omega), ga_in (by omega), hv2]
            rw [row_at, up_ne (by omega), q4, r_otherEnd (by omega), bo_some, otO_congr (v := v) ⟨by rw [row_at, up_ne (by omega)], by rw [row_at, up_ne (by omega)]⟩, ck_in (by omega) (by omega), lt_eq, pa_in (by omega), row_at, row_row, kl_79, nI_add, ck_in (by omega) (by omega), lt_eq, pa_in (by omega), row_at, row_row]
          refine ⟨_, hlive, ?_, fun j hj => ?_⟩
          · rw [hv2, e2]
            refine h.step (fun i hi => ?_) (fun j hj => ?_) ?_ ?_ (fun w' hw' => ?_) (fun w' h1 h2 => ?_) (fun f' hf' => ?_) (fun f' h1 h2 => ?_)
            · rw [row_off (by omega), row_off (by omega), row_off (by omega)]
            · rw [row_at, up_ne (by omega), up_ne (by omega), up_ne (by omega)]
            · rw [row_at, up_ne (by omega), up_ne (by omega), up_ne (by omega)]; exact h.hourN
            · rw [row_at, up_ne (by omega), up_ne (by omega), up_ne (by omega), up_ne (by omega), up_ne (by omega), up_ne (by omega), up_ne (by omega), up_ne (by omega), up_ne (by omega), row_off (by omega), row_off (by omega), row_off (by omega)]
              exact ⟨h.hour, h.mood, h.gone⟩
            · by_cases c : w' = w
              · subst c
                refine ⟨?_, e, n, t, e1, n2, by omega, ?_, ?_, ?_, ?_⟩
                · simp (disch := omega) only [row_at, row_off, up_eq, up_ne, true_and]
                  exact ⟨h.tired hw', h.known hw'⟩
                · simp (disch := omega) only [row_at, up_eq, up_ne]
                · simp (disch := omega) only [row_at, up_eq, up_ne]
                · simp (disch := omega) only [row_at, up_eq, up_ne]; exact q6
                · simp (disch := omega) only [row_at, up_eq, up_ne]
                  exact ⟨fun z => by omega, fun z => absurd z (nI_nm1 (by omega))⟩
              · refine (h.wc hw').congr ?_ ?_
                · simp (disch := omega) only [row_at, row_off, up_eq, up_ne, and_self]
                · simp (disch := omega) only [row_at, row_off, up_eq, up_ne, and_self]
            · simp (disch := omega) only [row_at, up_ne]; exact h.out h1 h2
            · refine (h.fc hf').congr ?_ ?_
              · simp (disch := omega) only [row_at, row_off, up_eq, up_ne, and_self]
              · simp (disch := omega) only [row_at, row_off, up_eq, up_ne, and_self]
            · simp (disch := omega) only [row_at, up_ne]; exact h.slpO h1 h2
          · rw [hv2, up_ne (by omega), up_ne (by omega), up_ne (by omega)]
end DD
