-- How far all is from all; the tables of orders.
def cH (d : Nat) : Nat := if d < 100000 then d / 100 else 65536
theorem cH_le (d : Nat) : cH d ≤ 65536 := by unfold cH; split <;> omega
theorem hN_le {d : Nat} (h : d ≤ 100000) : hN d ≤ 100000 := by unfold hN; split <;> omega
section AL
variable {nS nF nT nW bB : Nat} {u v : XM}
theorem c_spreadAll (h : RW nS nF nT nW bB u v) {W : XM} {p : Nat} (hp : 1 ≤ p) (hp2 : p ≤ 5) : wp (f_X2_spreadAll W u (nI p)) (fun M => Fr [2, 6] W M ∧ ∀ g s, g < nS → s < nS → M.1 6 (8 * g + s) = nI (cH (farO v g p s))) := by
  have hb := h.b
  unfold f_X2_spreadAll
  refine lp_fora (σ := XM) (n := nS) (fun (K : XM → Int32 → Int32 → Option (XM)) s c => K s (nI p) c) (fun i M => Fr [2, 6] W M ∧ ∀ g s, g < i → s < nS → M.1 6 (8 * g + s) = nI (cH (farO v g p s))) _ ?_ ?_ x_NN W (by show nS < 1000000; omega) ⟨Fr.rf, fun g s hg => absurd hg (Nat.not_lt_zero _)⟩
  · rintro K i M hi ⟨h1, h2⟩ ih
    show wp (f_X2_spreadAll_2 u K M (nI p) (nI i)) _
    have hD := (far_D h hp hp2 hi).2
    obtain ⟨r, e, C, rfl, hC⟩ := c_spread (v0 := x_sub M 0) (w0 := x_sub M 1) h hp hp2 hi hD
    unfold f_X2_spreadAll_2
    rw [show u.1 1 0 = nI nS from h.u0, if_neg (nI_ge hi (by omega)), e, bo_some, lt_eq, put_row (by omega)]
    refine lp_fora (σ := XM) (n := nS) (fun (K : XM → Int32 → Int32 → Int32 → Option (XM)) s c => K s (nI p) (nI i) c) (fun j M => Fr [2, 6] W M ∧ M.1 2 = C ∧ (∀ g s, g < i → s < nS → M.1 6 (8 * g + s) = nI (cH (farO v g p s))) ∧ ∀ s, s < j → M.1 6 (8 * i + s) = nI (cH (farO v i p s))) _ ?_ ?_ x_NN _ (by show nS < 1000000; omega) ⟨h1.row (by simp), row_at, fun g s hg hs => ?_, fun s hs => absurd hs (Nat.not_lt_zero _)⟩
    · rintro K' j M' hj ⟨g1, g2, g3, g4⟩ ih'
      show wp (f_X2_spreadAll_27 u K K' M' (nI p) (nI i) (nI j)) _
      unfold f_X2_spreadAll_27
      rw [show u.1 1 0 = nI nS from h.u0, if_neg (nI_ge hj (by omega)), lt_eq, c_hoursTo (C := C) (by omega) (show (x_sub M' 1).1 1 j = _ from (congrFun g2 j).trans (hC j hj)) (fun q => (hD.st (gE_EP h hp hp2) hb.1 hj q).1), kl_8, pk_mul, nI_add, lt_eq, put_rput (by omega) (by omega), lt_eq, nI_1]
      refine ih' _ ⟨g1.row (by simp), by rw [row_off (by omega)]; exact g2, fun g s hg hs => ?_, fun s hs => ?_⟩
      · rw [row_at, up_ne (by omega)]; exact g3 g s hg hs
      · rw [row_at]
        by_cases c : s = j
        · subst c; rw [show i * 8 + s = 8 * i + s by omega, up_eq]; rfl
        · rw [up_ne (by omega)]; exact g4 s (by omega)
    · rintro K' M' ⟨g1, g2, g3, g4⟩
      show wp (f_X2_spreadAll_27 u K K' M' (nI p) (nI i) (nI nS)) _
      unfold f_X2_spreadAll_27
      rw [show u.1 1 0 = nI nS from h.u0, if_pos (nI_le (Nat.le_refl _) (by omega)), nI_1]
      refine ih _ ⟨g1, fun g s hg hs => ?_⟩
      by_cases c : g = i
      · subst c; exact g4 s hs
      · exact g3 g s (by omega) hs
    · rw [row_off (by omega)]; exact h2 g s hg hs
  · rintro K M ⟨h1, h2⟩
    show wp (f_X2_spreadAll_2 u K M (nI p) (nI nS)) _
    unfold f_X2_spreadAll_2
    rw [show u.1 1 0 = nI nS from h.u0, if_pos (nI_le (Nat.le_refl _) (by omega)), wp_some]
    exact ⟨h1, h2⟩
theorem RW.of (h : RW nS nF nT nW bB u v) {m : XM} (e : m.1 2 = v.1 2) : RW nS nF nT nW bB u m := h.cong (fun _ _ _ => rfl) (fun j _ => by rw [e])
theorem r_layApart (h : RW nS nF nT nW bB u v) {p : Nat} (hp : 1 ≤ p) (hp2 : p ≤ 5) : wp (f_X12_layApart v (nI p)) (fun m => Fr [11, 13] v m ∧ ∀ g s, g < nS → s < nS → m.1 13 (8 * s + g) = nI (hN (farO v g p s))) := by
  have hb := h.b
  unfold f_X12_layApart
  refine lp_fora (σ := XM) (n := nS) (fun (K : XM → Int32 → Int32 → Option (XM)) s c => K s (nI p) c) (fun i m => Fr [11, 13] v m ∧ ∀ g s, g < i → s < nS → m.1 13 (8 * s + g) = nI (hN (farO v g p s))) _ ?_ ?_ x_NN v (by show nS < 1000000; omega) ⟨Fr.rf, fun g s hg => absurd hg (Nat.not_lt_zero _)⟩
  · rintro K i m hi ⟨h1, h2⟩ ih
    show wp (f_X12_layApart_2 K m (nI p) (nI i)) _
    have em : m.1 2 = v.1 2 := h1.2 2 (by simp)
    obtain ⟨⟨r, e, G, rfl, hG⟩, hD⟩ := far_D (h.of em) hp hp2 hi
    unfold f_X12_layApart_2
    rw [show x_ga m 2 (0 : Int32) = nI nS from by rw [kl_0, ga_in (by omega), em]; exact h.v0, if_neg (nI_ge hi (by omega)), e, bo_some]
    refine lp_fora (σ := XM) (n := nS) (fun (K : XM → Int32 → Int32 → Int32 → Option (XM)) s c => K s (nI p) (nI i) c) (fun j m' => Fr [11, 13] v m' ∧ m'.1 11 = G ∧ (∀ g s, g < i → s < nS → m'.1 13 (8 * s + g) = nI (hN (farO v g p s))) ∧ ∀ s, s < j → m'.1 13 (8 * s + i) = nI (hN (farO v i p s))) _ ?_ ?_ x_NN _ (by show nS < 1000000; omega) ⟨h1.row (by simp), row_at, fun g s hg hs => ?_, fun s hs => absurd hs (Nat.not_lt_zero _)⟩
    · rintro K' j M' hj ⟨g1, g2, g3, g4⟩ ih'
      show wp (f_X12_layApart_20 K K' M' (nI p) (nI i) (nI j)) _
      have em' : M'.1 2 = v.1 2 := g1.2 2 (by simp)
      have ef : farO m i p j = farO v i p j := far_congr h em hp hp2 hi hj
      have hl := (far_D h hp hp2 hi).2.2.1 j hj
      have hf : f_X12_hoursFrom M' (nI j) = some (nI (hN (farO v i p j))) := by
        have := r_hoursFrom (v := M') (G := G) (d := farO v i p j) (s := j) (by omega) (by rw [hG j hj, ef]) hl
        rw [← g2, row_self] at this; exact this
      unfold f_X12_layApart_20
      rw [show x_ga M' 2 (0 : Int32) = nI nS from by rw [kl_0, ga_in (by omega), em']; exact h.v0, if_neg (nI_ge hj (by omega)), hf, bo_some, kl_8, pk_mul, nI_add, ck_in (by omega) (by omega), lt_eq, pa_in (by omega), nI_1]
      refine ih' _ ⟨g1.row (by simp), by rw [row_off (by omega)]; exact g2, fun g s hg hs => ?_, fun s hs => ?_⟩
      · rw [row_at, up_ne (by omega)]; exact g3 g s hg hs
      · rw [row_at]
        by_cases c : s = j
        · subst c; rw [up_eq]
        · rw [up_ne (by omega)]; exact g4 s (by omega)
    · rintro K' M' ⟨g1, g2, g3, g4⟩
      show wp (f_X12_layApart_20 K K' M' (nI p) (nI i) (nI nS)) _
      have em' : M'.1 2 = v.1 2 := g1.2 2 (by simp)
      unfold f_X12_layApart_20
      rw [show x_ga M' 2 (0 : Int32) = nI nS from by rw [kl_0, ga_in (by omega), em']; exact h.v0, if_pos (nI_le (Nat.le_refl _) (by omega)), nI_1]
      refine ih _ ⟨g1, fun g s hg hs => ?_⟩
      by_cases c : g = i
      · subst c; exact g4 s hs
      · exact g3 g s (by omega) hs
    · rw [row_off (by omega)]; exact h2 g s hg hs
  · rintro K m ⟨h1, h2⟩
    show wp (f_X12_layApart_2 K m (nI p) (nI nS)) _
    have em : m.1 2 = v.1 2 := h1.2 2 (by simp)
    unfold f_X12_layApart_2
    rw [show x_ga m 2 (0 : Int32) = nI nS from by rw [kl_0, ga_in (by omega), em]; exact h.v0, if_pos (nI_le (Nat.le_refl _) (by omega)), wp_some]
    exact ⟨h1, h2⟩
/-- as far there as back -/
theorem far_back (h : RW nS nF nT nW bB u v) {p a b : Nat} (hp : 1 ≤ p) (hp2 : p ≤ 5) (ha : a < nS) (hb : b < nS) : farO v a p b = farO v b p a := (far_D h hp hp2 ha).2.back (gE_EP h hp hp2) (far_D h hp hp2 hb).2 h.b.1 ha hb
def ysN (v : XM) (t : Nat) : Nat := (v.1 2 (54 + t)).toNatClampNeg
theorem ysN_s (h : RW nS nF nT nW bB u v) {t : Nat} (ht : t < nT) : ysN v t < nS ∧ v.1 2 (54 + t) = nI (ysN v t) := by
  have hb := h.b
  obtain ⟨s, h1, h2⟩ := h.thgN ht
  unfold ysN
  rw [h2, nI_clamp (by omega)]
  exact ⟨h1, rfl⟩
/-- the reference's table -/
def TR_ (v : XM) (nT p m s : Nat) : Nat := TT 100000 nT (fun s y => hN (farO v y p s)) (ysN v) m s
/-- the class's table -/
def TC_ (v : XM) (nT p m s : Nat) : Nat := TT 458752 nT (fun s y => cH (farO v s p y)) (ysN v) m s
theorem T_LK (h : RW nS nF nT nW bB u v) {p m s : Nat} (hp : 1 ≤ p) (hp2 : p ≤ 5) (hm : m < 64) (hs : s < nS) : LK m (TC_ v nT p m s) (TR_ v nT p m s) := by
  have hb := h.b
  refine TT_LK (nS := nS) (by omega) ⟨by omega, by omega⟩ (fun t ht => (ysN_s h ht).1) (fun s t hs ht => ?_) (m + 1) m s (by omega) hm hs
  rw [far_back h hp hp2 ht hs]
  have := far_le h hp hp2 hs ht
  unfold cH hN LK
  split <;> omega
theorem TR_le (h : RW nS nF nT nW bB u v) {p m s : Nat} (hm : m < 64) : TR_ v nT p m s ≤ 100000 := TT_cap (by have := h.b; omega) hm
theorem TC_le (h : RW nS nF nT nW bB u v) {p m s : Nat} (hm : m < 2 ^ nT) : TC_ v nT p m s ≤ 65536 * pcN m := TT_le (by have := h.b; omega) (fun s t => cH_le _) (m + 1) m s (by omega) hm
/-- what the order by t first takes, in the reference -/
theorem r_moreBy (h : RW nS nF nT nW bB u v) {m : XM} {p k s t : Nat} (hp : 1 ≤ p) (hp2 : p ≤ 5) (em : m.1 2 = v.1 2) (h13 : ∀ g s, g < nS → s < nS → m.1 13 (8 * s + g) = nI (hN (farO v g p s))) (hk : k < 2 ^ nT) (hs : s < nS) (ht : t < nT) (hbt : bt (nI k) t = true) (h14 : ∀ s, s < nS → m.1 14 (8 * (k - 2 ^ t) + s) = nI (TR_ v nT p (k - 2 ^ t) s)) : f_X12_moreBy m (nI k) (nI s) (nI t) = some (nI (if hN (farO v (ysN v t) p s) + TR_ v nT p (k - 2 ^ t) (ysN v t) ≤ 100000 then hN (farO v (ysN v t) p s) + TR_ v nT p (k - 2 ^ t) (ysN v t) else 100000)) := by
  have hb := h.b
  have h64 := p2_64 hb.2.2.1
  obtain ⟨y1, y2⟩ := ysN_s h ht
  obtain ⟨b1, b2⟩ := m_bit k (by omega) t (by omega) hbt
  have b3 := p2_pos t
  have h1 := hN_le ((far_D h hp hp2 y1).2.2.1 s hs)
  have h2 : TR_ v nT p (k - 2 ^ t) (ysN v t) ≤ 100000 := TR_le h (by omega)
  unfold f_X12_moreBy
  rw [kl_54, nI_add, ck_in (by omega) (by omega), ga_in (by omega), em, y2, lt_eq, kl_8, pk_mul, nI_add, ck_in (by omega) (by omega), lt_eq, b2, pk_mul, nI_add, ck_in (by omega) (by omega), ga_in (by omega), ga_in (by omega), h13 _ _ y1 hs, h14 _ y1, nI_add, lt_eq, lt_eq]
  refine congrArg some ?_
  unfold f_X12_least
  by_cases c : hN (farO v (ysN v t) p s) + TR_ v nT p (k - 2 ^ t) (ysN v t) ≤ 100000
  · rw [if_pos (show _ ≤ (100000 : Int32) from nI_le (b := 100000) c (by omega)), if_pos c]
  · rw [if_neg (fun q => c (by rw [kl_100000, nI_leI (by omega) (by omega)] at q; exact q)), if_neg c]; rfl
end AL
