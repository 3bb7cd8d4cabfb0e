-- What a WALKER reaches; who is lost; now; walker.
/-- how far s is from g, as the reference lays it -/
def farO (v : XM) (g p s : Nat) : Nat := match f_X12_layFar v (nI g) (nI p) with | some r => (r.1 11 s).toNatClampNeg | none => 0
def atN (v : XM) (k : Nat) : Nat := (v.1 2 (74 + k)).toNatClampNeg
def paN (v : XM) (k : Nat) : Nat := (v.1 2 (65 + k)).toNatClampNeg
def roN (v : XM) (k : Nat) : Nat := (v.1 2 4 - v.1 2 (89 + k)).toNatClampNeg
def rcO (nS : Nat) (v : XM) (k : Nat) : Int32 := bs (fun s => decide (farO v (atN v k) (paN v k) s / 100 ≤ roN v k)) nS
def lsB (nS : Nat) (v : XM) (k : Nat) : Bool := !goB v k && decide (rcO nS v k &&& v.1 2 5 = 0)
def hN (d : Nat) : Nat := if d < 100000 then d / 100 else 100000
theorem Dst.congr {E : Nat → Nat → Nat → Prop} {n g : Nat} {D D' : Nat → Nat} (hE : EP E n) (hg : g < n) (h : Dst E n g D) (e : ∀ s, s < n → D' s = D s) : Dst E n g D' := by
  refine ⟨by rw [e g hg]; exact h.1, fun s hs => by rw [e s hs]; exact h.2.1 s hs, fun s t k q hl => ?_, fun s hs c hl => ?_⟩
  · obtain ⟨q1, q2, -⟩ := hE s t k q
    rw [e s q1] at hl ⊢
    rw [e t q2]; exact h.2.2.1 s t k q hl
  · rw [e s hs] at hl ⊢
    obtain ⟨t, k, q, z⟩ := h.2.2.2 s hs c hl
    obtain ⟨q1, q2, -⟩ := hE t s k q
    exact ⟨t, k, q, by rw [e t q1]; exact z⟩
section RC
variable {nS nF nT nW bB : Nat} {u v v' : XM}
theorem gE_congr (h : v'.1 2 = v.1 2) {p : Nat} : gE v' nF p = gE v nF p := by
  funext s t k
  unfold gE gEf
  simp only [h, hrO_congr h]
theorem far_D (h : RW nS nF nT nW bB u v) {p g : Nat} (hp : 1 ≤ p) (hp2 : p ≤ 5) (hg : g < nS) : wp (f_X12_layFar v (nI g) (nI p)) (fun r => ∃ G, r = x_row v 11 G ∧ (∀ s, s < nS → G s = nI (farO v g p s))) ∧ Dst (gE v nF p) nS g (farO v g p) := by
  have hb := h.b
  obtain ⟨r, e, G, D, rfl, h1, h2⟩ := r_layFar h hp hp2 hg
  have hD : ∀ s, s < nS → farO v g p s = D s := by
    intro s hs
    have := h2.2.1 s hs
    unfold farO
    rw [e]
    show ((x_row v 11 G).1 11 s).toNatClampNeg = D s
    rw [row_at, h1 s (by omega), nI_clamp (by omega)]
  exact ⟨wp_of e ⟨G, rfl, fun s hs => by rw [hD s hs]; exact h1 s (by omega)⟩, h2.congr (gE_EP h hp hp2) hg hD⟩
theorem far_congr (h : RW nS nF nT nW bB u v) (e : v'.1 2 = v.1 2) {p g : Nat} (hp : 1 ≤ p) (hp2 : p ≤ 5) (hg : g < nS) {s : Nat} (hs : s < nS) : farO v' g p s = farO v g p s := by
  have h' : RW nS nF nT nW bB u v' := h.cong (fun _ _ _ => rfl) (fun j _ => by rw [e])
  have d := (far_D h hp hp2 hg).2
  have d' := (far_D h' hp hp2 hg).2
  rw [gE_congr e] at d'
  exact d'.uniq (gE_EP h hp hp2) d h.b.1 hs
theorem far_le (h : RW nS nF nT nW bB u v) {p g : Nat} (hp : 1 ≤ p) (hp2 : p ≤ 5) (hg : g < nS) {s : Nat} (hs : s < nS) : farO v g p s ≤ 6307 ∨ farO v g p s = 100000 := (far_D h hp hp2 hg).2.small (gE_EP h hp hp2) h.b.1 hs
theorem wkN (h : RW nS nF nT nW bB u v) {k : Nat} (hk : k < nW) : atN v k < nS ∧ v.1 2 (74 + k) = nI (atN v k) ∧ 1 ≤ paN v k ∧ paN v k ≤ 5 ∧ v.1 2 (65 + k) = nI (paN v k) ∧ roN v k ≤ 40 ∧ v.1 2 4 - v.1 2 (89 + k) = nI (roN v k) := by
  have hb := h.b
  obtain ⟨s, l, t, h1, h2, h3, h4, h5, h6, -⟩ := h.wlk hk
  obtain ⟨p, p1, p2, p3⟩ := h.paceN hk
  have e1 : v.1 2 4 - v.1 2 (89 + k) = nI (bB - t) := by rw [h.v4, h6, pk_sub (by omega)]
  unfold atN paN roN
  rw [e1, h4, p3, nI_clamp (by omega), nI_clamp (by omega), nI_clamp (by omega)]
  exact ⟨h1, rfl, p1, p2, rfl, by omega, rfl⟩
theorem rcO_congr (h : RW nS nF nT nW bB u v) (e : v'.1 2 = v.1 2) {k : Nat} (hk : k < nW) : rcO nS v' k = rcO nS v k := by
  obtain ⟨h1, -, h2, h3, -⟩ := wkN h hk
  unfold rcO
  refine bs_congr (fun s hs => ?_)
  rw [show atN v' k = atN v k by unfold atN; rw [e], show paN v' k = paN v k by unfold paN; rw [e], show roN v' k = roN v k by unfold roN; rw [e], far_congr h e h2 h3 h1 hs]
theorem lsB_congr (h : RW nS nF nT nW bB u v) (e : v'.1 2 = v.1 2) {k : Nat} (hk : k < nW) : lsB nS v' k = lsB nS v k := by
  unfold lsB
  rw [rcO_congr h e hk, e, show goB v' k = goB v k by unfold goB; rw [e]]
theorem r_hoursFrom {G : Nat → Int32} {d s : Nat} (hs : s < 8) (hG : G s = nI d) (hd : d ≤ 100000) : f_X12_hoursFrom (x_row v 11 G) (nI s) = some (nI (hN d)) := by
  unfold f_X12_hoursFrom hN
  rw [ck_in hs (by omega), ck_in hs (by omega), ga_in (by omega), row_at, hG]
  by_cases c : d < 100000
  · rw [if_pos (show nI d < 100000 from nI_lt (b := 100000) c (by omega)), if_pos c, kl_100, pk_div (by omega) (by omega) (by omega)]
  · rw [if_neg (show ¬ nI d < 100000 from fun q => c (by rw [kl_100000, nI_ltI (by omega) (by omega)] at q; exact q)), if_neg c]; rfl
theorem r_reachesOf (h : RW nS nF nT nW bB u v) {k : Nat} (hk : k < nW) : wp (f_X12_reachesOf v (nI k)) (fun r => ∃ G, r = (rcO nS v k, x_row v 11 G)) := by
  have hb := h.b
  obtain ⟨h1, h2, h3, h4, h5, h6, h7⟩ := wkN h hk
  obtain ⟨⟨r, e, G, rfl, hG⟩, hD⟩ := far_D h h3 h4 h1
  unfold f_X12_reachesOf
  rw [kl_74, kl_65, nI_add, nI_add, ck_in (by omega) (by omega), ck_in (by omega) (by omega), ga_in (by omega), ga_in (by omega), h2, h5, e, bo_some]
  refine wp_of ((lp_eq (n := nS) (fun (K : XM → Int32 → Int32 → Int32 → Option (Int32 × XM)) a i => K (x_row v 11 G) (nI k) a i) (fun i acc => if decide (farO v (atN v k) (paN v k) i / 100 ≤ roN v k) = true then acc ||| ((1 : Int32) <<< (nI i &&& 31)) else acc) (fun a => some (a, x_row v 11 G)) ?_ ?_ x_NN 0 (by show nS < 1000000; omega)).trans (congrArg (fun a => some (a, x_row v 11 G)) (itr_bs nS))) ⟨G, rfl⟩
  · intro K a i hi
    show f_X12_reachesOf_26 K (x_row v 11 G) (nI k) a (nI i) = _
    have hs := far_le h h3 h4 h1 hi
    unfold f_X12_reachesOf_26 f_X12_reachesOf_73 f_X12_reachesOf_79
    rw [show x_ga (x_row v 11 G) 2 (0 : Int32) = nI nS from by rw [kl_0, ga_in (by omega)]; exact h.v0, if_neg (nI_ge hi (by omega)), nI_1, kl_74, nI_add, ck_in (by omega) (by omega), ga_in (by omega), show (x_row v 11 G).1 2 (74 + k) = nI (atN v k) from h2]
    by_cases c : i = atN v k
    · rw [if_pos (by rw [c]), lt_eq, if_pos (decide_eq_true (by rw [c, hD.1]; omega))]
    · rw [if_neg (fun q => c (nI_iff (by omega) (by omega) q)), r_hoursFrom (by omega) (hG i hi) (by omega), bo_some, kl_89, nI_add, ck_in (by omega) (by omega), lt_eq, kl_4, ga_in (by omega), ga_in (by omega), show (x_row v 11 G).1 2 4 - (x_row v 11 G).1 2 (89 + k) = nI (roN v k) from h7]
      by_cases c2 : farO v (atN v k) (paN v k) i / 100 ≤ roN v k
      · rw [if_neg (fun q => by rw [nI_ltI (by omega) (by unfold hN; split <;> omega)] at q; unfold hN at q; split at q <;> omega), lt_eq, if_pos (decide_eq_true c2)]
      · rw [if_pos (nI_lt (by unfold hN; split <;> omega) (by unfold hN; split <;> omega)), if_neg (by rw [decide_eq_false c2]; exact ft)]
  · intro K a
    show f_X12_reachesOf_26 K (x_row v 11 G) (nI k) a (nI nS) = _
    unfold f_X12_reachesOf_26
    rw [show x_ga (x_row v 11 G) 2 (0 : Int32) = nI nS from by rw [kl_0, ga_in (by omega)]; exact h.v0, if_pos (nI_le (Nat.le_refl _) (by omega))]
theorem c_hoursTo {m : XM} {C : Nat → Int32} {d s : Nat} (hs : s < 8) (hC : (x_sub m 1).1 1 s = nI (C16 d)) (hd : d < 100000 → d % 100 ≤ 7) : f_X2_hoursTo (x_sub m 1) (nI s) = nI (if d < 100000 then d / 100 else 65536) := by
  unfold f_X2_hoursTo
  rw [lt_eq, rg_in hs (by omega), hC, kl_16]
  by_cases c : d < 100000
  · have := hd c
    rw [if_pos c, C16_lt c, pk_div (by omega) (by omega) (by omega)]
    exact congrArg nI (by omega)
  · rw [if_neg c, C16_ge c]; rfl
theorem c_reachedBy (h : RW nS nF nT nW bB u v) {W : XM} {k : Nat} (hk : k < nW) : wp (f_X2_reachedBy W u (nI k)) (fun r => ∃ C, r = (rcO nS v k, x_row W 2 C)) := by
  have hb := h.b
  obtain ⟨h1, h2, h3, h4, h5, h6, h7⟩ := wkN h hk
  have hD := (far_D h h3 h4 h1).2
  obtain ⟨r, e, C, rfl, hC⟩ := c_spread (v0 := x_sub W 0) (w0 := x_sub W 1) h h3 h4 h1 hD
  unfold f_X2_reachedBy
  rw [lt_eq, lt_eq, rg_in (by omega) (by omega), rg_in (by omega) (by omega), show (x_sub u 18).1 1 k = nI (atN v k) from (h.at_ hk).trans h2, show (x_sub u 14).1 1 k = nI (paN v k) from (h.pace hk).trans h5, e, bo_some, lt_eq, put_row (by omega), lt_eq, rg_in (by omega) (by omega), show u.1 1 4 - (x_sub u 24).1 1 k = nI (roN v k) from by rw [show u.1 1 4 = v.1 2 4 from h.u4.trans h.v4.symm, show (x_sub u 24).1 1 k = v.1 2 (89 + k) from h.tired hk]; exact h7]
  refine wp_of ((lp_eq (n := nS) (fun (K : XM → Int32 → Int32 → Int32 → Option (Int32 × XM)) a i => K (x_row W (1 + 1) C) (nI (roN v k)) a i) (fun i acc => if decide (farO v (atN v k) (paN v k) i / 100 ≤ roN v k) = true then acc ||| ((1 : Int32) <<< (nI i &&& 31)) else acc) (fun a => some (a, x_row W (1 + 1) C)) ?_ ?_ x_NN 0 (by show nS < 1000000; omega)).trans (congrArg (fun a => some (a, x_row W (1 + 1) C)) (itr_bs nS))) ⟨C, rfl⟩
  · intro K a i hi
    show f_X2_reachedBy_57 u K (x_row W (1 + 1) C) (nI (roN v k)) a (nI i) = _
    have hs := far_le h h3 h4 h1 hi
    unfold f_X2_reachedBy_57 f_X2_reachedBy_91
    rw [show u.1 1 0 = nI nS from h.u0, if_neg (nI_ge hi (by omega)), lt_eq, nI_1, c_hoursTo (C := C) (by omega) (show (x_sub (x_row W (1 + 1) C) 1).1 1 i = _ from hC i hi) (fun q => (hD.st (gE_EP h h3 h4) hb.1 hi q).1)]
    by_cases c2 : farO v (atN v k) (paN v k) i / 100 ≤ roN v k
    · rw [if_neg (fun q => by rw [nI_ltI (by omega) (by split <;> omega)] at q; split at q <;> omega), lt_eq, if_pos (decide_eq_true c2)]
    · rw [if_pos (nI_lt (by split <;> omega) (by split <;> omega)), if_neg (by rw [decide_eq_false c2]; exact ft)]
  · intro K a
    show f_X2_reachedBy_57 u K (x_row W (1 + 1) C) (nI (roN v k)) a (nI nS) = _
    unfold f_X2_reachedBy_57
    rw [show u.1 1 0 = nI nS from h.u0, if_pos (nI_le (Nat.le_refl _) (by omega))]
theorem r_isLost (h : RW nS nF nT nW bB u v) {k : Nat} (hk : k < nW) : wp (f_X12_isLost v (nI k)) (fun r => ∃ G, r = (bI (lsB nS v k), x_row v 11 G)) := by
  have hb := h.b
  unfold f_X12_isLost lsB
  rw [r_isGoing (by omega), bo_some]
  cases goB v k with
  | true => exact wp_some.mpr ⟨v.1 11, by rw [row_self]; rfl⟩
  | false =>
    rw [if_pos bIf]
    obtain ⟨r, e, G, rfl⟩ := r_reachesOf h hk
    rw [e, bo_some, show x_ga (rcO nS v k, x_row v 11 G).2 2 (5 : Int32) = v.1 2 5 from by rw [kl_5, ga_in (by omega)]; rfl]
    by_cases c : rcO nS v k &&& v.1 2 5 = 0
    · rw [if_pos c, wp_some]; exact ⟨G, by rw [decide_eq_true c]; rfl⟩
    · rw [if_neg c, wp_some]; exact ⟨G, by rw [decide_eq_false c]; rfl⟩
theorem r_lostAll (h : RW nS nF nT nW bB u v) : wp (x_lp (φ := XM → Int32 → Int32 → Option (Int32 × XM)) (fun _ _ _ => none) f_X12_now_147 x_NN v 0 0) (fun r => ∃ G, r = (bs (lsB nS v) nW, x_row v 11 G)) := by
  have hb := h.b
  refine lp_fora (σ := XM × Int32) (n := nW) (fun (K : XM → Int32 → Int32 → Option (Int32 × XM)) s c => K s.1 s.2 c) (fun i s => ∃ G, s = (x_row v 11 G, bs (lsB nS v) i)) _ ?_ ?_ x_NN (v, 0) (by show nW < 1000000; omega) ⟨v.1 11, by rw [row_self]; rfl⟩
  · rintro K i _ hi ⟨G, rfl⟩ ih
    show wp (f_X12_now_147 K (x_row v 11 G) (bs (lsB nS v) i) (nI i)) _
    have h' : RW nS nF nT nW bB u (x_row v 11 G) := h.cong (fun _ _ _ => rfl) (fun _ _ => rfl)
    obtain ⟨r, e, G', rfl⟩ := r_isLost h' hi
    rw [lsB_congr (v' := x_row v 11 G) h rfl hi, row_row] at e
    unfold f_X12_now_147 f_X12_now_171
    rw [show x_ga (x_row v 11 G) 2 (3 : Int32) = nI nW from by rw [kl_3, ga_in (by omega)]; exact h.v3, if_neg (nI_ge hi (by omega)), e, bo_some, nI_1]
    cases hl : lsB nS v i with
    | true => exact ih _ ⟨G', by show _ = (_, if lsB nS v i = true then _ else _); rw [if_pos hl]⟩
    | false => exact ih _ ⟨G', by show _ = (_, if lsB nS v i = true then _ else _); rw [hl, if_neg ft]⟩
  · rintro K _ ⟨G, rfl⟩
    show wp (f_X12_now_147 K (x_row v 11 G) (bs (lsB nS v) nW) (nI nW)) _
    unfold f_X12_now_147
    rw [show x_ga (x_row v 11 G) 2 (3 : Int32) = nI nW from by rw [kl_3, ga_in (by omega)]; exact h.v3, if_pos (nI_le (Nat.le_refl _) (by omega)), wp_some]
    exact ⟨G, rfl⟩
theorem c_lost (h : RW nS nF nT nW bB u v) {W : XM} : wp (f_X2_lostWalkers W u) (fun r => ∃ C, r = (bs (lsB nS v) nW, x_row W 2 C)) := by
  have hb := h.b
  unfold f_X2_lostWalkers
  refine lp_fora (σ := XM × Int32) (n := nW) (fun (K : XM → Int32 → Int32 → Option (Int32 × XM)) s c => K s.1 s.2 c) (fun i s => ∃ C, s = (x_row W 2 C, bs (lsB nS v) i)) _ ?_ ?_ x_NN (W, 0) (by show nW < 1000000; omega) ⟨W.1 2, by rw [row_self]; rfl⟩
  · rintro K i _ hi ⟨C, rfl⟩ ih
    show wp (f_X2_lostWalkers_4 u K (x_row W 2 C) (bs (lsB nS v) i) (nI i)) _
    unfold f_X2_lostWalkers_4 f_X2_lostWalkers_46
    rw [show u.1 1 3 = nI nW from h.u3, if_neg (nI_ge hi (by omega)), lt_eq, c_isGoing h hi, nI_1]
    have hl : lsB nS v i = (!goB v i && decide (rcO nS v i &&& v.1 2 5 = 0)) := rfl
    cases hg : goB v i with
    | true => exact ih _ ⟨C, by show _ = (_, if lsB nS v i = true then _ else _); rw [hl, hg]⟩
    | false =>
      rw [if_pos bIf]
      obtain ⟨r, e, C', rfl⟩ := c_reachedBy (W := x_row W 2 C) h hi
      rw [e, bo_some, row_row, show u.1 1 5 = v.1 2 5 from h.u5]
      by_cases c : rcO nS v i &&& v.1 2 5 = 0
      · rw [if_pos c]
        exact ih _ ⟨C', by show _ = (_, if lsB nS v i = true then _ else _); rw [hl, hg, decide_eq_true c]⟩
      · rw [if_neg c]
        exact ih _ ⟨C', by show _ = (_, if lsB nS v i = true then _ else _); rw [hl, hg, decide_eq_false c]⟩
  · rintro K _ ⟨C, rfl⟩
    show wp (f_X2_lostWalkers_4 u K (x_row W 2 C) (bs (lsB nS v) nW) (nI nW)) _
    unfold f_X2_lostWalkers_4
    rw [show u.1 1 3 = nI nW from h.u3, if_pos (nI_le (Nat.le_refl _) (by omega)), wp_some]
    exact ⟨C, rfl⟩
end RC
section RB
variable {nS nF nT nW bB : Nat} {w w' v v' : XM}
theorem RelN.scr (h : RelN nS nF nT nW bB w v) (C G : Nat → Int32) : RelN nS nF nT nW bB (x_row w 302 C) (x_row v 11 G) := h.same rfl (fun i _ hs => row_off (fun q => hs (by subst q; unfold scrW; omega))) ⟨rfl, rfl⟩ ⟨rfl, rfl, rfl, rfl, rfl, rfl, rfl, rfl, rfl⟩ (fun _ _ => rfl)
theorem h_still (h : RelN nS nF nT nW bB w v) (x : Int32) : (∃ k, k < nW ∧ x = nI k ∧ f_X11_canSetOut w x = 1 ∧ f_X12_isStill v x = some 1) ∨ (f_X11_canSetOut w x = 0 ∧ f_X12_isStill v x = some 0) := by
  have hb := h.1.1.1
  rcases h_Walker h.rw x with ⟨k, hk, rfl, e1, e2⟩ | ⟨-, e1, e2⟩
  · have a1 : f_X11_canSetOut w (nI k) = if bI (goB v k) = 0 then 1 else 0 := by
      unfold f_X11_canSetOut
      rw [lt_eq, show f_X9_hasWalker (x_sub w 6) (nI k) = 1 from e1, if_neg one0, lt_eq, show f_X10_isGoing (x_sub w 5) (nI k) = _ from c_isGoing h.rw hk]
    have a2 : f_X12_isStill v (nI k) = if bI (goB v k) = 0 then some 1 else some 0 := by
      unfold f_X12_isStill
      rw [lt_eq, e2, if_neg one0, r_isGoing (by omega), bo_some]
    rw [a1, a2]
    cases goB v k with
    | true => exact Or.inr ⟨rfl, rfl⟩
    | false => exact Or.inl ⟨k, hk, rfl, rfl, rfl⟩
  · have a1 : f_X11_canSetOut w x = 0 := by
      unfold f_X11_canSetOut
      rw [lt_eq, show f_X9_hasWalker (x_sub w 6) x = 0 from e1, if_pos rfl]
    have a2 : f_X12_isStill v x = some 0 := by
      unfold f_X12_isStill
      rw [lt_eq, e2, if_pos rfl]
    exact Or.inr ⟨a1, a2⟩
theorem b_reaches (h : RelN nS nF nT nW bB w v) (x : Int32) : R2 (f_X11_reaches w x) (f_X12_reaches v x) Both := by
  have h1 := h.th (x := 0)
  unfold f_X11_reaches f_X12_reaches
  rw [lt_eq, lt_eq]
  generalize x_si v 0 0 0 = v1 at h1 ⊢
  rcases h_still h1 x with ⟨k, hk, rfl, e1, e2⟩ | ⟨e1, e2⟩
  · rw [e1, e2, if_neg one0, bo_some, if_neg one0]
    obtain ⟨r, e3, C, rfl⟩ := c_reachedBy (W := x_sub w 300) h1.rw hk
    obtain ⟨s, e4, G, rfl⟩ := r_reachesOf h1.rw hk
    rw [e3, e4, bo_some, bo_some, lt_eq]
    refine R2_some ⟨rfl, ?_⟩
    show Rel (x_put w 300 15 (x_row (x_sub w 300) 2 C)) (x_row v1 11 G)
    rw [put_row (by omega)]
    exact (h1.scr C G).rel
  · rw [e1, e2, if_pos rfl, bo_some, if_pos rfl]
    exact R2_some ⟨rfl, h1.rel⟩
end RB
