-- The class's and the reference's calls that change the state: deeds, hours, drawn.
theorem lpN {φ : Type} {z : φ} {b : φ → φ} : x_lp z b x_NN = b (x_lp z b 999999) := rfl
section CL
variable {nS nF nT nW bB : Nat} {w v : XM}
theorem RelN.th (h : RelN nS nF nT nW bB w v) {x : Int32} : RelN nS nF nT nW bB w (x_si v 0 0 x) := by
  refine h.same rfl (fun _ _ _ => rfl) ⟨rfl, rfl⟩ ?_ (fun j hj => ?_)
  · simp (disch := omega) only [si_row, row_off, and_self]
  · rw [si_row, row_at, up_ne (by unfold vF at hj; omega)]
theorem RelN.before (h : RelN nS nF nT nW bB w v) : RelN nS nF nT nW bB (x_put w 128 15 (f_X5_become (x_sub w 128) (x_sub w 22))) v ∧ RS nS nF nW bB (v.1 2) (fun i => (x_put w 128 15 (f_X5_become (x_sub w 128) (x_sub w 22))).1 (i + 128)) (fun j => v.1 2 (70 + j)) := by
  have hb := h.1.1.1
  refine ⟨h.same (put_2 (become_2 _ _)) (fun i _ hs => put_out (by unfold scrW at hs; omega)) ⟨rfl, rfl⟩ ⟨rfl, rfl, rfl, rfl, rfl, rfl, rfl, rfl, rfl⟩ (fun _ _ => rfl), ?_⟩
  have e := become_st (x_sub w 128) (x_sub w 22)
  have r : ∀ i, i < 15 → (x_put w 128 15 (f_X5_become (x_sub w 128) (x_sub w 22))).1 (i + 128) = (f_X5_become (x_sub w 128) (x_sub w 22)).1 i := by
    intro i hi
    rw [put_inn (by omega), Nat.add_sub_cancel]
  refine (h.1.2.1.steq (cs' := (f_X5_become (x_sub w 128) (x_sub w 22)).1) e (by omega) (by omega)).congr (fun i hi => r i hi) (fun _ _ => rfl) (fun _ _ => rfl) (by omega) (by omega)
/-- the state of the object is the world's that came out; the history has one more, or not -/
theorem state_done {u' v' : XM} {m2 w' : XM} (h : RelN nS nF nT nW bB m2 v) (h2 : w'.2 = m2.2) (hc : ∀ i, (i < 22 ∨ (37 ≤ i ∧ i < 143) ∨ 265 ≤ i) → i ≠ 5 → w'.1 i = m2.1 i) (hu : ∀ i, i < 15 → w'.1 (i + 22) = u'.1 (i + 17)) (hR : RW nS nF nT nW bB u' v') (hv2 : v'.2 = v.2) (hv : ∀ i, i ≠ 0 → i ≠ 2 → i ≠ 5 → i ≠ 6 → i ≠ 11 → v'.1 i = v.1 i) (hf : ∀ j, vF j → j ≠ 24 → v'.1 0 j = v.1 0 j) (hn : ∀ j, j < 70 ∨ 111 ≤ j → v'.1 2 j = v.1 2 j) (hH : RHist nS nF nW bB (v'.1 2) w' v') : RelN nS nF nT nW bB w' v' := by
  have hb := hR.b
  refine h.state h2 (fun i a b _ => hc i (by omega) b) (by rw [hv2]; exact ⟨rfl, rfl⟩) ⟨hv 1 (by omega) (by omega) (by omega) (by omega) (by omega), hv 4 (by omega) (by omega) (by omega) (by omega) (by omega), hv 10 (by omega) (by omega) (by omega) (by omega) (by omega), hv 12 (by omega) (by omega) (by omega) (by omega) (by omega), hv 15 (by omega) (by omega) (by omega) (by omega) (by omega), hv 16 (by omega) (by omega) (by omega) (by omega) (by omega), hv 18 (by omega) (by omega) (by omega) (by omega) (by omega)⟩ hf hn ?_ hH
  exact hR.2.congr (fun i hi => hu i hi) (fun _ _ => rfl) (fun _ _ => rfl) (by omega) (by omega)
/-- one more kept, behind a change of the state -/
theorem kept_done {u' vs v' m2 : XM} (h : RelN nS nF nT nW bB m2 v) (hu2 : u'.2 = (x_sub m2 5).2) (hu : SoU (x_sub m2 5) u') (hR : RW nS nF nT nW bB u' v') (g1 : SnapV v vs) (hK2 : (f_X1_keep (x_sub (x_put m2 5 32 u') 143) (x_sub (x_put m2 5 32 u') 128)).2 = (x_sub (x_put m2 5 32 u') 143).2) (g2 : RHist nS nF nW bB (v.1 2) (x_put (x_put m2 5 32 u') 143 122 (f_X1_keep (x_sub (x_put m2 5 32 u') 143) (x_sub (x_put m2 5 32 u') 128))) vs) (hv2 : v'.2 = vs.2) (hv : ∀ i, i ≠ 0 → i ≠ 2 → v'.1 i = vs.1 i) (hf : ∀ j, j ≠ 37 → v'.1 0 j = vs.1 0 j) (hn : ∀ j, j < 70 ∨ 111 ≤ j → v'.1 2 j = vs.1 2 j) : RelN nS nF nT nW bB (x_put (x_put m2 5 32 u') 143 122 (f_X1_keep (x_sub (x_put m2 5 32 u') 143) (x_sub (x_put m2 5 32 u') 128))) v' := by
  have hb := hR.b
  refine state_done (u' := u') h ?_ (fun i a b => ?_) (fun i hi => ?_) hR (hv2.trans g1.1) (fun i a b c d e => (hv i a b).trans (g1.2.1 i a c)) (fun j a b => (hf j (by unfold vF at a; omega)).trans (g1.2.2 j b)) (fun j a => (hn j a).trans (by rw [g1.2.1 2 (by omega) (by omega)])) (g2.congr ⟨by omega, by omega⟩ (fun j hj => (hn j (by omega)).trans (by rw [g1.2.1 2 (by omega) (by omega)])) (fun _ _ _ => rfl) ⟨hv 5 (by omega) (by omega), hf 24 (by omega)⟩)
  · rw [put_2 hK2, put_2 hu2]
  · rw [put_out (by omega)]
    by_cases c : i < 37 ∧ 5 ≤ i
    · rw [put_inn (by omega), hu.2 (i - 5) (by simp only [List.mem_cons, List.not_mem_nil, or_false]; omega)]
      show m2.1 (i - 5 + 5) = _
      rw [Nat.sub_add_cancel c.2]
    · rw [put_out (by omega)]
  · rw [put_out (by omega), put_inn (by omega)]
    congr 1
/-- both answer alike, and go on alike -/
def Both (r s : Int32 × XM) : Prop := r.1 = s.1 ∧ Rel r.2 s.2
theorem try_deed {d a x n d' p q : Int32} (h : RelN nS nF nT nW bB w v) (hD : ∀ u, RW nS nF nT nW bB u v → Deed nS nF nT nW bB u v d a x n d' p q) : R2 (f_X11_tryDeed w d a x n) (f_X12_act v d' p q 1) Both := by
  have hb := h.1.1.1
  obtain ⟨hm2, hB⟩ := h.before
  unfold f_X11_tryDeed f_X12_act
  rw [lt_eq, lt_eq, if_neg one0]
  generalize x_put w 128 15 (f_X5_become (x_sub w 128) (x_sub w 22)) = m2 at hm2 hB ⊢
  obtain ⟨r, u', h1, h2, h3, h4, h5⟩ := hD (x_sub m2 5) hm2.rw
  rw [h1, h2, bo_some, bo_some, lt_eq]
  by_cases c : r = 0
  · rw [if_pos c, if_pos c]
    have hH4 : RHist nS nF nW bB (v.1 2) (x_put m2 5 32 u') v := hm2.2.1.congr ⟨by omega, by omega⟩ (fun _ _ => rfl) (fun i a b => put_out (by omega)) ⟨rfl, rfl⟩
    have hB4 : RS nS nF nW bB (v.1 2) (fun i => (x_put m2 5 32 u').1 (i + 128)) (fun j => v.1 2 (70 + j)) := hB.congr (fun i hi => put_out (by omega)) (fun _ _ => rfl) (fun _ _ => rfl) (by omega) (by omega)
    obtain ⟨hK2, vs, e, g1, g2⟩ := hist_keep ⟨by omega, by omega⟩ hH4 hB4
    obtain ⟨N, k1, k2, k3⟩ := h5 c vs (g1.2.1 2 (by omega) (by omega))
    rw [e, bo_some, k1, bo_some]
    simp only [lt_eq]
    refine R2_some ⟨c, (kept_done hm2 (h3.1) (SoU.of h3) k2 g1 hK2 g2 rfl (fun i a b => row_off b) (fun j _ => by rw [row_off (by omega)]) (fun j hj => ?_)).rel⟩
    rw [row_at, k3 j (by omega), g1.2.1 2 (by omega) (by omega)]
  · rw [if_neg c, if_neg c, h4 c, put_self]
    exact R2_some ⟨rfl, hm2.rel⟩
theorem act0 {d' p q : Int32} : f_X12_act v d' p q 0 = some (-1, v) := by unfold f_X12_act; rw [if_pos rfl]
theorem RelN.hs (h : RelN nS nF nT nW bB w v) : RW nS nF nT nW bB (x_sub w 5) (x_si v 0 0 0) := h.th.rw

theorem b_walk (h : RelN nS nF nT nW bB w v) (x y : Int32) : R2 (f_X11_walk w x y) (f_X12_walk v x y) Both := by
  have h1 := h.th (x := 0)
  unfold f_X11_walk f_X12_walk f_X12_walk_29 f_X12_walk_30
  simp only [lt_eq, bo_pair]
  generalize x_si v 0 0 0 = v1 at h1 ⊢
  rcases h_Walker h1.rw x with ⟨k, hk, rfl, e1, e2⟩ | ⟨-, e1, e2⟩
  · rw [show f_X9_hasWalker (x_sub w 6) (nI k) = 1 from e1, e2, if_neg one0, if_neg one0]
    rcases h_Fold h1.rw y with ⟨f, hf, rfl, e3, e4⟩ | ⟨-, e3, e4⟩
    · rw [show f_X9_hasFold (x_sub w 6) (nI f) = 1 from e3, e4, if_neg one0, if_neg one0]
      exact try_deed h1 (fun u hu => d_walk hu hk hf)
    · rw [show f_X9_hasFold (x_sub w 6) y = 0 from e3, e4, if_pos rfl, if_pos rfl, act0]
      exact R2_some ⟨rfl, h1.rel⟩
  · rw [show f_X9_hasWalker (x_sub w 6) x = 0 from e1, e2, if_pos rfl, if_pos rfl, act0]
    exact R2_some ⟨rfl, h1.rel⟩
theorem b_learn (h : RelN nS nF nT nW bB w v) (x y : Int32) : R2 (f_X11_learn w x y) (f_X12_learn v x y) Both := by
  have h1 := h.th (x := 0)
  unfold f_X11_learn f_X12_learn f_X12_learn_29 f_X12_learn_30
  simp only [lt_eq, bo_pair]
  generalize x_si v 0 0 0 = v1 at h1 ⊢
  rcases h_Walker h1.rw x with ⟨k, hk, rfl, e1, e2⟩ | ⟨-, e1, e2⟩
  · rw [show f_X9_hasWalker (x_sub w 6) (nI k) = 1 from e1, e2, if_neg one0, if_neg one0]
    rcases h_Thing h1.rw y with ⟨f, hf, rfl, e3, e4⟩ | ⟨-, e3, e4⟩
    · rw [show f_X9_hasThing (x_sub w 6) (nI f) = 1 from e3, e4, if_neg one0, if_neg one0]
      exact try_deed h1 (fun u hu => d_learn hu hk hf)
    · rw [show f_X9_hasThing (x_sub w 6) y = 0 from e3, e4, if_pos rfl, if_pos rfl, act0]
      exact R2_some ⟨rfl, h1.rel⟩
  · rw [show f_X9_hasWalker (x_sub w 6) x = 0 from e1, e2, if_pos rfl, if_pos rfl, act0]
    exact R2_some ⟨rfl, h1.rel⟩
theorem b_tell (h : RelN nS nF nT nW bB w v) (x y : Int32) : R2 (f_X11_tell w x y) (f_X12_tell v x y) Both := by
  have h1 := h.th (x := 0)
  unfold f_X11_tell f_X12_tell f_X12_tell_29 f_X12_tell_30
  simp only [lt_eq, bo_pair]
  generalize x_si v 0 0 0 = v1 at h1 ⊢
  rcases h_Walker h1.rw x with ⟨k, hk, rfl, e1, e2⟩ | ⟨-, e1, e2⟩
  · rw [show f_X9_hasWalker (x_sub w 6) (nI k) = 1 from e1, e2, if_neg one0, if_neg one0]
    rcases h_Walker h1.rw y with ⟨f, hf, rfl, e3, e4⟩ | ⟨-, e3, e4⟩
    · rw [show f_X9_hasWalker (x_sub w 6) (nI f) = 1 from e3, e4, if_neg one0, if_neg one0]
      exact try_deed h1 (fun u hu => d_tell hu hk hf)
    · rw [show f_X9_hasWalker (x_sub w 6) y = 0 from e3, e4, if_pos rfl, if_pos rfl, act0]
      exact R2_some ⟨rfl, h1.rel⟩
  · rw [show f_X9_hasWalker (x_sub w 6) x = 0 from e1, e2, if_pos rfl, if_pos rfl, act0]
    exact R2_some ⟨rfl, h1.rel⟩
theorem b_rest (h : RelN nS nF nT nW bB w v) (x : Int32) : R2 (f_X11_rest w x) (f_X12_rest v x) Both := by
  have h1 := h.th (x := 0)
  unfold f_X11_rest f_X12_rest
  simp only [lt_eq, bo_pair]
  generalize x_si v 0 0 0 = v1 at h1 ⊢
  rcases h_Walker h1.rw x with ⟨k, hk, rfl, e1, e2⟩ | ⟨-, e1, e2⟩
  · rw [show f_X9_hasWalker (x_sub w 6) (nI k) = 1 from e1, e2, if_neg one0]
    exact try_deed h1 (fun u hu => d_rest hu hk)
  · rw [show f_X9_hasWalker (x_sub w 6) x = 0 from e1, e2, if_pos rfl, act0]
    exact R2_some ⟨rfl, h1.rel⟩
theorem b_cream (h : RelN nS nF nT nW bB w v) (x : Int32) : R2 (f_X11_cream w x) (f_X12_cream v x) Both := by
  have h1 := h.th (x := 0)
  unfold f_X11_cream f_X12_cream
  simp only [lt_eq, bo_pair]
  generalize x_si v 0 0 0 = v1 at h1 ⊢
  rcases h_Fold h1.rw x with ⟨k, hk, rfl, e1, e2⟩ | ⟨-, e1, e2⟩
  · rw [show f_X9_hasFold (x_sub w 6) (nI k) = 1 from e1, e2, if_neg one0]
    exact try_deed h1 (fun u hu => d_cream hu hk)
  · rw [show f_X9_hasFold (x_sub w 6) x = 0 from e1, e2, if_pos rfl, act0]
    exact R2_some ⟨rfl, h1.rel⟩
theorem rng {a b : Nat} (hab : a ≤ b) (hb : b < 2 ^ 30) (x : Int32) : (∃ n, a ≤ n ∧ n ≤ b ∧ x = nI n ∧ ¬ x < nI a ∧ x ≤ nI b ∧ f_X12_isIn x (nI a) (nI b) = 1) ∨ ((x < nI a ∨ (¬ x < nI a ∧ ¬ x ≤ nI b)) ∧ f_X12_isIn x (nI a) (nI b) = 0) := by
  unfold f_X12_isIn
  by_cases c : x < nI a
  · exact Or.inr ⟨Or.inl c, by rw [if_pos c]⟩
  · by_cases c2 : x ≤ nI b
    · left
      have c0 : ¬ x < 0 := by
        intro q
        rw [Int32.lt_iff_toInt_lt] at q c
        rw [nI_toInt (by omega)] at c
        have : (0 : Int32).toInt = 0 := by decide
        omega
      obtain ⟨n, hn, rfl⟩ := nI_of c0
      have k1 : a ≤ n := by
        rcases Nat.lt_or_ge n a with z | z
        · exact absurd (nI_lt z (by omega)) c
        · exact z
      have k2 : n ≤ b := (nI_leI hn (by omega)).mp c2
      refine ⟨n, k1, k2, rfl, c, c2, ?_⟩
      rw [if_neg c, if_neg (fun q => by rw [nI_ltI (by omega) hn] at q; omega)]
    · refine Or.inr ⟨Or.inr ⟨c, c2⟩, ?_⟩
      rw [if_neg c, if_pos (by rw [← Int32.not_le]; exact c2)]
theorem b_slip (h : RelN nS nF nT nW bB w v) (x y : Int32) : R2 (f_X11_slip w x y) (f_X12_slip v x y) Both := by
  have h1 := h.th (x := 0)
  unfold f_X11_slip f_X12_slip f_X12_slip_31 f_X12_slip_32
  simp only [lt_eq, bo_pair]
  generalize x_si v 0 0 0 = v1 at h1 ⊢
  rcases h_Fold h1.rw x with ⟨k, hk, rfl, e1, e2⟩ | ⟨-, e1, e2⟩
  · rw [show f_X9_hasFold (x_sub w 6) (nI k) = 1 from e1, e2, if_neg one0, if_neg one0]
    rcases rng (a := 1) (b := 30) (by omega) (by omega) y with ⟨n, n1, n2, rfl, e3, e4, e5⟩ | ⟨e3, e5⟩
    · rw [if_neg (show ¬ nI n < 1 from e3), if_pos (show nI n ≤ 30 from e4), show f_X12_isIn (nI n) 1 30 = 1 from e5, if_neg one0]
      exact try_deed h1 (fun u hu => d_slip hu hk n2)
    · rw [show f_X12_isIn y 1 30 = 0 from e5, if_pos rfl, act0]
      rcases e3 with e3 | ⟨e3, e4⟩
      · rw [if_pos (show y < 1 from e3)]; exact R2_some ⟨rfl, h1.rel⟩
      · rw [if_neg (show ¬ y < 1 from e3), if_neg (show ¬ y ≤ 30 from e4)]; exact R2_some ⟨rfl, h1.rel⟩
  · rw [show f_X9_hasFold (x_sub w 6) x = 0 from e1, e2, if_pos rfl, if_pos rfl, act0]
    exact R2_some ⟨rfl, h1.rel⟩
theorem b_mood (h : RelN nS nF nT nW bB w v) (x : Int32) : R2 (f_X11_mood w x) (f_X12_mood v x) Both := by
  have h1 := h.th (x := 0)
  unfold f_X11_mood f_X12_mood
  simp only [lt_eq, bo_pair]
  generalize x_si v 0 0 0 = v1 at h1 ⊢
  rcases rng (a := 0) (b := 2) (by omega) (by omega) x with ⟨n, n1, n2, rfl, e3, e4, e5⟩ | ⟨e3, e5⟩
  · rw [if_neg (show ¬ nI n < 0 from e3), if_neg (show ¬ (3 : Int32) ≤ nI n by rw [kl_3, nI_leI (by omega) (by omega)]; omega), show f_X12_isIn (nI n) 0 2 = 1 from e5]
    exact try_deed h1 (fun u hu => d_mood hu)
  · rw [show f_X12_isIn x 0 2 = 0 from e5, act0]
    rcases e3 with e3 | ⟨e3, e4⟩
    · rw [if_pos (show x < 0 from e3)]; exact R2_some ⟨rfl, h1.rel⟩
    · rw [if_neg (show ¬ x < 0 from e3)]
      have e6 : (3 : Int32) ≤ x := by
        rw [Int32.le_iff_toInt_le] at e4 ⊢
        have h1 : (3 : Int32).toInt = 3 := by decide
        have h2 : (nI 2).toInt = 2 := by decide
        omega
      rw [if_pos e6]; exact R2_some ⟨rfl, h1.rel⟩
/-- HOURS that go by, drawn or not -/
theorem timed (h : RelN nS nF nT nW bB w v) {F G : XM → Option (Int32 × XM)} {k : Nat} (hk : 1 ≤ k) (hk2 : k ≤ 60) (hR : ∀ u vs, RW nS nF nT nW bB u vs → vs.1 2 = v.1 2 → R2 (F u) (G vs) (fun r s => r.1 = nI k ∧ s.1 = nI k ∧ RW nS nF nT nW bB r.2 s.2 ∧ SoU u r.2 ∧ SoV vs s.2)) : R2 (x_lt (f_X5_become (x_sub w 128) (x_sub w 22)) (fun y1 => x_lt (x_put w 128 15 y1) (fun m2 => x_bo (F (x_sub m2 5)) (fun y3 => x_lt (x_put m2 5 32 y3.2) (fun m4 => x_lt (f_X11_keepIfAny m4 y3.1) (fun y5 => some (y5.1, y5.2))))))) (x_bo (f_X12_snap v) (fun y3 => x_bo (G y3) (fun y4 => some (y4.1, y4.2)))) Both := by
  have hb := h.1.1.1
  obtain ⟨hm2, hB⟩ := h.before
  rw [lt_eq, lt_eq]
  generalize x_put w 128 15 (f_X5_become (x_sub w 128) (x_sub w 22)) = m2 at hm2 hB ⊢
  -- the snap first: what it leaves
  obtain ⟨m, x, h1, h2, h3, h4, h5, h6⟩ := hm2.2.1
  obtain ⟨vs, e, gs, -⟩ := r_snap (v := v) h5 h1
  have hRs : RW nS nF nT nW bB (x_sub m2 5) vs := hm2.rw.cong (fun _ _ _ => rfl) (fun j _ => by rw [gs.2.1 2 (by omega) (by omega)])
  obtain ⟨r, s, e1, e2, q1, q2, q3, q4, q5⟩ := hR (x_sub m2 5) vs hRs (gs.2.1 2 (by omega) (by omega))
  rw [e, bo_some, e1, e2, bo_some, bo_some, lt_eq, lt_eq]
  have hH4 : RHist nS nF nW bB (v.1 2) (x_put m2 5 32 r.2) v := RHist.congr ⟨m, x, h1, h2, h3, h4, h5, h6⟩ ⟨by omega, by omega⟩ (fun _ _ => rfl) (fun i a b => put_out (by omega)) ⟨rfl, rfl⟩
  have hB4 : RS nS nF nW bB (v.1 2) (fun i => (x_put m2 5 32 r.2).1 (i + 128)) (fun j => v.1 2 (70 + j)) := hB.congr (fun i hi => put_out (by omega)) (fun _ _ => rfl) (fun _ _ => rfl) (by omega) (by omega)
  obtain ⟨hK2, vs2, e5, g1, g2⟩ := hist_keep ⟨by omega, by omega⟩ hH4 hB4
  obtain rfl : vs = vs2 := Option.some.inj (e.symm.trans e5)
  unfold f_X11_keepIfAny
  rw [q1, if_neg (nI_nle hk (by omega)), lt_eq, lt_eq]
  refine R2_some ⟨q2.symm, (kept_done hm2 q4.1 q4 q3 g1 hK2 g2 q5.1 (fun i a b => q5.2.1 i b a) (fun j a => q5.2.2.1 j a) (fun j a => q5.2.2.2 j a)).rel⟩
theorem goN_pos {N hh : Nat} (hN : 1 ≤ N) (h : hh < 400) : 1 ≤ goN N hh ∧ goN N hh ≤ N := by unfold goN; split <;> omega
theorem none_go {u : XM} {N : Nat} (hN : N ≤ 60) (hu : u.1 17 0 = nI 400) : f_X10_passHours u (nI N) = some (0, u) := by
  unfold f_X10_passHours
  rw [lpN]
  generalize x_lp (φ := XM → Int32 → Int32 → Option (Int32 × XM)) _ _ 999999 = K
  unfold f_X10_passHours_2
  rw [hu, if_pos (show (400 : Int32) ≤ nI 400 by decide)]
  by_cases c : nI N ≤ 0
  · rw [if_pos c]
  · rw [if_neg c]
theorem none_draw {u : XM} {N : Nat} {x : Int32} (hN : N ≤ 60) (hu : u.1 17 0 = nI 400) : f_X10_drawHours u (nI N) x = some (0, x_si u 0 4 x) := by
  unfold f_X10_drawHours
  rw [lt_eq, lpN]
  generalize x_lp (φ := XM → Int32 → Int32 → Option (Int32 × XM)) _ _ 999999 = K
  unfold f_X10_drawHours_7
  rw [show (x_si u 0 4 x).1 17 0 = nI 400 by rw [si_row, row_off (by omega)]; exact hu, if_pos (show (400 : Int32) ≤ nI 400 by decide)]
  by_cases c : nI N ≤ 0
  · rw [if_pos c]
  · rw [if_neg c]
theorem b_hours (h : RelN nS nF nT nW bB w v) (x : Int32) : R2 (f_X11_hours w x) (f_X12_hours v x) Both := by
  have h1 := h.th (x := 0)
  have hb := h.1.1.1
  have e0 : f_X12_hours v x = (if f_X12_isIn x 1 60 = 0 then some ((-1 : Int32), x_si v 0 0 0) else if x_ga (x_si v 0 0 0) 2 (70 : Int32) = 400 then some (0, x_si v 0 0 0) else x_bo (f_X12_snap (x_si v 0 0 0)) (fun y3 => x_bo (f_X12_passHours y3 x) (fun y4 => some (y4.1, y4.2)))) := rfl
  rw [e0]
  unfold f_X11_hours
  generalize x_si v 0 0 0 = v1 at h1 ⊢
  rcases rng (a := 1) (b := 60) (by omega) (by omega) x with ⟨n, n1, n2, rfl, e3, e4, e5⟩ | ⟨e3, e5⟩
  · rw [if_neg (show ¬ nI n < 1 from e3), if_pos (show nI n ≤ 60 from e4), show f_X12_isIn (nI n) 1 60 = 1 from e5, if_neg one0]
    obtain ⟨hh, hh1, hh2⟩ := h1.rw.hourN
    rw [show x_ga v1 2 (70 : Int32) = nI hh from by rw [kl_70, ga_in (by omega)]; exact hh2]
    by_cases c : hh = 400
    · subst c
      rw [if_pos (show nI 400 = 400 from rfl), lt_eq, lt_eq]
      obtain ⟨hm2, hB⟩ := h1.before
      generalize x_put w 128 15 (f_X5_become (x_sub w 128) (x_sub w 22)) = m2 at hm2 hB ⊢
      rw [none_go n2 (hm2.rw.hour.trans hh2), bo_some, lt_eq, put_self, lt_eq]
      unfold f_X11_keepIfAny
      rw [if_pos (show (0 : Int32) ≤ 0 by decide)]
      exact R2_some ⟨rfl, hm2.rel⟩
    · rw [if_neg (show ¬ nI hh = 400 from fun q => c (nI_iff (by omega) (by omega) q))]
      have hg := goN_pos (N := n) (hh := hh) n1 (by omega)
      exact timed h1 (F := fun u => f_X10_passHours u (nI n)) (G := fun u => f_X12_passHours u (nI n)) (k := goN n hh) hg.1 (by omega) (fun u vs hu hv => R2_mono (passHours hu n2 hh1 (by rw [hv]; exact hh2)) (fun r s q => ⟨q.1, q.2.1, q.2.2.1, q.2.2.2.1, q.2.2.2.2.1⟩))
  · rw [show f_X12_isIn x 1 60 = 0 from e5, if_pos rfl]
    rcases e3 with e3 | ⟨e3, e4⟩
    · rw [if_pos (show x < 1 from e3)]; exact R2_some ⟨rfl, h1.rel⟩
    · rw [if_neg (show ¬ x < 1 from e3), if_neg (show ¬ x ≤ 60 from e4)]; exact R2_some ⟨rfl, h1.rel⟩
theorem b_drawn (h : RelN nS nF nT nW bB w v) (x y : Int32) : R2 (f_X11_drawn w x y) (f_X12_drawn v x y) Both := by
  have h1 := h.th (x := 0)
  have hb := h.1.1.1
  have e0 : f_X12_drawn v x y = (if f_X12_isIn x 1 60 = 0 then some ((-1 : Int32), x_si v 0 0 0) else if x_ga (x_si v 0 0 0) 2 (70 : Int32) = 400 then some (0, x_si v 0 0 0) else x_bo (f_X12_snap (x_si v 0 0 0)) (fun y3 => x_bo (f_X12_drawHours y3 x y) (fun y4 => some (y4.1, y4.2)))) := rfl
  rw [e0]
  unfold f_X11_drawn
  generalize x_si v 0 0 0 = v1 at h1 ⊢
  rcases rng (a := 1) (b := 60) (by omega) (by omega) x with ⟨n, n1, n2, rfl, e3, e4, e5⟩ | ⟨e3, e5⟩
  · rw [if_neg (show ¬ nI n < 1 from e3), if_pos (show nI n ≤ 60 from e4), show f_X12_isIn (nI n) 1 60 = 1 from e5, if_neg one0]
    obtain ⟨hh, hh1, hh2⟩ := h1.rw.hourN
    rw [show x_ga v1 2 (70 : Int32) = nI hh from by rw [kl_70, ga_in (by omega)]; exact hh2]
    by_cases c : hh = 400
    · subst c
      rw [if_pos (show nI 400 = 400 from rfl), lt_eq, lt_eq]
      obtain ⟨hm2, hB⟩ := h1.before
      generalize x_put w 128 15 (f_X5_become (x_sub w 128) (x_sub w 22)) = m2 at hm2 hB ⊢
      rw [none_draw n2 (hm2.rw.hour.trans hh2), bo_some, lt_eq, lt_eq]
      unfold f_X11_keepIfAny
      rw [if_pos (show (0 : Int32) ≤ 0 by decide)]
      refine R2_some ⟨rfl, (hm2.same ?_ (fun i a b => ?_) ⟨rfl, rfl⟩ ⟨rfl, rfl, rfl, rfl, rfl, rfl, rfl, rfl, rfl⟩ (fun _ _ => rfl)).rel⟩
      · exact put_2 rfl
      · show (x_put m2 5 32 (x_si (x_sub m2 5) 0 4 y)).1 i = m2.1 i
        rw [si_row, put_row (by omega), row_off (by omega)]
    · rw [if_neg (show ¬ nI hh = 400 from fun q => c (nI_iff (by omega) (by omega) q))]
      have hg := goN_pos (N := n) (hh := hh) n1 (by omega)
      exact timed h1 (F := fun u => f_X10_drawHours u (nI n) y) (G := fun u => f_X12_drawHours u (nI n) y) (k := goN n hh) hg.1 (by omega) (fun u vs hu hv => drawHours hu n2 hh1 (by rw [hv]; exact hh2) y)
  · rw [show f_X12_isIn x 1 60 = 0 from e5, if_pos rfl]
    rcases e3 with e3 | ⟨e3, e4⟩
    · rw [if_pos (show x < 1 from e3)]; exact R2_some ⟨rfl, h1.rel⟩
    · rw [if_neg (show ¬ x < 1 from e3), if_neg (show ¬ x ≤ 60 from e4)]; exact R2_some ⟨rfl, h1.rel⟩
end CL
