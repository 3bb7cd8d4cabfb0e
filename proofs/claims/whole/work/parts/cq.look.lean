-- a BOOK: its loops.
theorem lp2_gen {φ φ' σ β β' : Type} (ap : φ → σ → Option β) (ap' : φ' → σ → Option β') {z : φ} {b : φ → φ} {z' : φ'} {b' : φ' → φ'} (P : Nat → σ → Prop) (Q : Option β → Option β' → Prop) (h : ∀ (n : Nat) (K : φ) (K' : φ') (s : σ), P n s → (∀ (m : Nat) (s' : σ), m < n → P m s' → Q (ap K s') (ap' K' s')) → Q (ap (b K) s) (ap' (b' K') s)) : ∀ (fu fu' n : Nat) (s : σ), n < fu → n < fu' → P n s → Q (ap (x_lp z b fu) s) (ap' (x_lp z' b' fu') s) := by
  intro fu
  induction fu with
  | zero => intro fu' n s hn _; exact absurd hn (Nat.not_lt_zero n)
  | succ fu ih =>
    intro fu' n s hn hn' hp
    cases fu' with
    | zero => exact absurd hn' (Nat.not_lt_zero n)
    | succ fu' => exact h n _ _ s hp (fun m s' hm hp' => ih fu' m s' (by omega) (by omega) hp')
section CQQ
variable {n lim b p s a k e i nS nF nT nW bB : Nat} {t : Tok} {T v T' v' T0 v0 u u' B B0 V w : XM}
def RdQ (nT nW : Nat) (T0 v0 B0 : XM) (l1 : Int32) (C : Option (Int32 × XM × XM)) (R : Option (Int32 × XM)) : Prop := ∃ (r : Int32) (B' T' : XM), C = some (r, B', T') ∧ (∀ j, j ≠ 4 → B'.1 0 j = B0.1 0 j) ∧ ((r = 0 ∧ ∃ v', R = some (-2 - v'.1 0 11, v') ∧ Bd T0 v0 T' v') ∨ (r = 1 ∧ ∃ v' k, k ≤ 40 ∧ BKr nT nW k B' v' ∧ v'.1 0 40 = nI k ∧ FL T0 T' ∧ GL v0 v' ∧ T'.1 0 10 = v'.1 0 10 ∧ R = x_bo (f_X12_layAside v') (fun y9 => x_lp (φ := XM → Int32 → Int32 → Int32 → Option (Int32 × XM)) (fun _ _ _ _ => none) (f_X12_book_73) x_NN y9 l1 (0 : Int32) (0 : Int32))))
theorem rd_loop {l1 : Int32} (h : St n 400 b p s t T0 v0 T v) (d : WN nS nT nW V v0) (hk : BKr nT nW 0 B v) (e40 : v.1 0 40 = 0) (hB : ∀ j, j ≠ 4 → B.1 0 j = B0.1 0 j) : RdQ nT nW T0 v0 B0 l1 (x_lp (φ := XM → XM → Int32 → Option (Int32 × XM × XM)) (fun _ _ _ => none) (f_X0_readBook_14 V) x_NN B T (nI 0)) (x_lp (φ := XM → Int32 → Option (Int32 × XM)) (fun _ _ => none) (f_X12_book_30) x_NN v l1) := by
  refine lp2_gen (σ := XM × XM × XM × Int32) (fun (K : XM → XM → Int32 → Option (Int32 × XM × XM)) q => K q.1 q.2.1 q.2.2.2) (fun (K : XM → Int32 → Option (Int32 × XM)) q => K q.2.2.1 l1) (fun m q => ∃ (b p s k : Nat) (t : Tok), k + m = 41 ∧ k ≤ 40 ∧ q.2.2.2 = nI k ∧ St n 400 b p s t T0 v0 q.2.1 q.2.2.1 ∧ BKr nT nW k q.1 q.2.2.1 ∧ q.2.2.1.1 0 40 = nI k ∧ ∀ j, j ≠ 4 → q.1.1 0 j = B0.1 0 j) (RdQ nT nW T0 v0 B0 l1) ?_ x_NN x_NN 41 (B, T, v, nI 0) (by decide) (by decide) ⟨b, p, s, 0, t, by omega, by omega, rfl, h, hk, e40, hB⟩
  clear h hk e40 hB
  rintro m K K' ⟨B, T, v, _⟩ ⟨b, p, s, k, t, hm, hk40, rfl, h, hk, e40, hB⟩ ih
  dsimp only at h hk e40 hB
  show RdQ nT nW T0 v0 B0 l1 (f_X0_readBook_14 V K B T (nI k)) (f_X12_book_30 K' v l1)
  have hc := h.1.2.2.1
  unfold f_X0_readBook_14 f_X12_book_30
  rw [if_neg (show ¬ (40 : Int32) < nI k from nI_ge' (a := 40) (by omega) (by omega))]
  by_cases c : t.1 = 0
  · rw [if_pos (show T.1 0 6 = 0 from (tk_6k hc (c := 0) (by omega)).mpr c), if_pos (show v.1 0 7 = 0 from (tk_7 hc (c := 0) (by omega)).mpr c)]
    exact ⟨1, B, T, rfl, hB, Or.inr ⟨rfl, v, k, hk40, hk, e40, h.2.2.1, h.2.2.2, h.2.1, rfl⟩⟩
  · rw [if_neg (show ¬ T.1 0 6 = 0 from fun q => c ((tk_6k hc (c := 0) (by omega)).mp q)), if_neg (show ¬ v.1 0 7 = 0 from fun q => c ((tk_7 hc (c := 0) (by omega)).mp q))]
    rcases h.bLine (d.gl h.2.2.2) hk hk40 e40 with ⟨T', v', q1, q2, q3⟩ | ⟨B', T', v', b', p', s', t', q1, q2, q3, q4, q5, q6, q7, q8⟩
    · rw [q1, q2, bo_some, bo_some, if_pos rfl, if_pos rfl]
      exact ⟨0, B, T', rfl, hB, Or.inl ⟨rfl, v', rfl, q3⟩⟩
    · rw [q1, q2, bo_some, if_neg one0]
      unfold Eb
      obtain ⟨⟨r2, T2⟩, ⟨q2', v2⟩, e1, e2, P⟩ := q8.semi
      rw [e1, e2, bo_some, bo_some]
      rcases P with ⟨z1, z2, z3⟩ | ⟨z1, z2, fT, fV, hbp, hpl, p2, s2, t2, h2⟩
      · dsimp only at z1 z2 z3 ⊢
        rw [z1, z2, if_pos rfl, if_pos rfl, bo_some, if_pos rfl]
        exact ⟨0, B', T2, rfl, fun j hj => (q6 j hj).trans (hB j hj), Or.inl ⟨rfl, v2, rfl, z3⟩⟩
      · dsimp only at z1 z2 fT fV h2 ⊢
        rw [z1, z2, if_neg one0, if_neg one0, bo_some, if_neg one0, lt_eq, show v2.1 0 40 = nI k from (fV.2.1 40 (by omega)).trans q7, nI_1]
        have h3 : St n 400 p' p2 s2 t2 T0 v0 T2 (x_si v2 0 40 (nI (k + 1))) := ⟨h2.1.cong (si_r (by omega)) (fun j hj => si_n (by omega)) rfl, h2.2.1.trans (si_n (by omega)).symm, h2.2.2.1, h2.2.2.2.si (by omega)⟩
        refine ih (40 - k) (B', T2, x_si v2 0 40 (nI (k + 1)), nI (k + 1)) (by omega) ⟨p', p2, s2, k + 1, t2, by omega, by omega, rfl, h3, ⟨q5.1, fun j hj => ?_⟩, si_0, fun j hj => (q6 j hj).trans (hB j hj)⟩
        have hbl := q5.2 j hj
        unfold BL at hbl ⊢
        rw [show (x_si v2 0 40 (nI (k + 1))).1 17 = v'.1 17 from (si_r (by omega)).trans (fV.1 17 (by omega))]
        exact hbl
def LvQ (nS nF nT nW bB : Nat) (u v B : XM) (l1 : Int32) (C : Option (Int32 × XM × XM)) (R : Option (Int32 × XM)) : Prop := ∃ (r : Int32) (a : Nat) (B' u' v' : XM), C = f_X0_live_65 B' u' ∧ R = f_X12_book_103 v' l1 (nI a) r ∧ RW nS nF nT nW bB u' v' ∧ SoU u u' ∧ SoV v v' ∧ B'.1 0 6 = r ∧ B'.1 0 7 = nI a ∧ a ≤ 40 ∧ (a = 0 → u' = u ∧ v' = v) ∧ (∀ j, j ≠ 6 → j ≠ 7 → B'.1 0 j = B.1 0 j) ∧ (∀ i, i ≠ 0 → B'.1 i = B.1 i) ∧ B'.2 = B.2
theorem live_loop {l1 : Int32} (h : RW nS nF nT nW bB u v) (hk : BKr nT nW k B v) (hk40 : k ≤ 40) (e40 : v.1 0 40 = nI k) (B6 : B.1 0 6 = 0) (B7 : B.1 0 7 = 0) : LvQ nS nF nT nW bB u v B l1 (x_lp (φ := XM → XM → Int32 → Option (Int32 × XM × XM)) (fun _ _ _ => none) (f_X0_live_17) x_NN B u (nI 0)) (x_lp (φ := XM → Int32 → Int32 → Int32 → Option (Int32 × XM)) (fun _ _ _ _ => none) (f_X12_book_73) x_NN v l1 (nI 0) (0 : Int32)) := by
  refine lp2_gen (σ := (XM × XM × XM) × Nat × Nat × Int32) (fun (K : XM → XM → Int32 → Option (Int32 × XM × XM)) q => K q.1.1 q.1.2.1 (nI q.2.1)) (fun (K : XM → Int32 → Int32 → Int32 → Option (Int32 × XM)) q => K q.1.2.2 l1 (nI q.2.2.1) q.2.2.2) (fun m q => (q.2.2.2 = 0 → q.2.1 = q.2.2.1) ∧ (¬ q.2.2.2 = 0 → q.2.1 = q.2.2.1 + 1) ∧ q.2.1 + m = 41 ∧ q.2.1 ≤ k ∧ RW nS nF nT nW bB q.1.2.1 q.1.2.2 ∧ SoU u q.1.2.1 ∧ SoV v q.1.2.2 ∧ q.1.1.1 0 6 = q.2.2.2 ∧ q.1.1.1 0 7 = nI q.2.2.1 ∧ (q.2.2.1 = 0 → q.1.2.1 = u ∧ q.1.2.2 = v) ∧ (∀ j, j ≠ 6 → j ≠ 7 → q.1.1.1 0 j = B.1 0 j) ∧ (∀ i, i ≠ 0 → q.1.1.1 i = B.1 i) ∧ q.1.1.2 = B.2) (LvQ nS nF nT nW bB u v B l1) ?_ x_NN x_NN 41 ((B, u, v), 0, 0, 0) (by decide) (by decide) ⟨fun _ => rfl, fun q => absurd rfl q, rfl, Nat.zero_le _, h, SoU.rf, SoV.rf, B6, B7, fun _ => ⟨rfl, rfl⟩, fun _ _ _ => rfl, fun _ _ => rfl, rfl⟩
  rintro m K K' ⟨⟨C, u', v'⟩, i, a, r⟩ ⟨g1, g2, g3, g4, g5, g6, g7, g8, g9, g10, g11, g12, g13⟩ ih
  dsimp only at g1 g2 g3 g4 g5 g6 g7 g8 g9 g10 g11 g12 g13
  show LvQ nS nF nT nW bB u v B l1 (f_X0_live_17 K C u' (nI i)) (f_X12_book_73 K' v' l1 (nI a) r)
  have hC4 : C.1 0 4 = nI k := (g11 4 (by omega) (by omega)).trans hk.1
  have hv40 : v'.1 0 40 = nI k := (g7.2.2.1 40 (by omega)).trans e40
  have hal : a ≤ i := by
    by_cases c : r = 0
    · have := g1 c; omega
    · have := g2 c; omega
  have fin : LvQ nS nF nT nW bB u v B l1 (f_X0_live_65 C u') (f_X12_book_103 v' l1 (nI a) r) := ⟨r, a, C, u', v', rfl, rfl, g5, g6, g7, g8, g9, by omega, g10, g11, g12, g13⟩
  unfold f_X0_live_17 f_X12_book_73
  rw [hC4, hv40, g8]
  by_cases c : r = 0
  · have ia := g1 c
    subst ia
    by_cases ck : k ≤ i
    · rw [if_pos (nI_le ck (by omega)), if_pos (nI_le ck (by omega))]; exact fin
    · have hbl : BL nT nW C v' i := by
        have hbl := hk.2 i (by omega)
        unfold BL at hbl ⊢
        rw [g12 2 (by omega), g12 4 (by omega), g12 6 (by omega), g12 8 (by omega), g7.2.1 17 (by omega) (by omega)]
        exact hbl
      obtain ⟨r', u2, v2, e1, e2, k1, k2, k3, k4⟩ := live_line g5 (show i < 40 by omega) hbl
      rw [if_neg (nI_ge (by omega) (by omega)), if_neg (nI_ge (by omega) (by omega)), if_pos c, if_pos c, e1, kl_3, pk_mul, e2, bo_some, bo_some, lt_eq, si_0]
      by_cases c2 : r' = 0
      · unfold f_X0_live_59
        rw [if_pos c2, if_pos c2, lt_eq, show (x_si C 0 6 r').1 0 7 = nI i from (si_n (by omega)).trans g9, nI_1]
        refine ih (m - 1) ((x_si (x_si C 0 6 r') 0 7 (nI (i + 1)), u2, v2), i + 1, i + 1, r') (by omega) ⟨fun _ => rfl, fun q => absurd c2 q, by dsimp only; omega, by dsimp only; omega, k1, g6.tr k2, g7.tr k3, (si_n (by omega)).trans si_0, si_0, fun q => absurd q (by dsimp only; omega), fun j j6 j7 => ?_, fun i' hi' => ?_, g13⟩
        · exact (si_n j7).trans ((si_n j6).trans (g11 j j6 j7))
        · exact (si_r hi').trans ((si_r hi').trans (g12 i' hi'))
      · obtain ⟨w1, w2⟩ := k4 c2
        subst w1 w2
        unfold f_X0_live_59
        rw [if_neg c2, if_neg c2, nI_1]
        refine ih (m - 1) ((x_si C 0 6 r', u2, v2), i + 1, i, r') (by omega) ⟨fun q => absurd q c2, fun _ => rfl, by dsimp only; omega, by dsimp only; omega, g5, g6, g7, si_0, (si_n (by omega)).trans g9, g10, fun j j6 j7 => (si_n j6).trans (g11 j j6 j7), fun i' hi' => (si_r hi').trans (g12 i' hi'), g13⟩
  · have ia := g2 c
    rw [if_neg c, if_neg c]
    by_cases ck : k ≤ i
    · rw [if_pos (nI_le ck (by omega))]
      by_cases ca : k ≤ a
      · rw [if_pos (nI_le ca (by omega))]; exact fin
      · rw [if_neg (nI_ge (by omega) (by omega))]; exact fin
    · rw [if_neg (nI_ge (by omega) (by omega)), if_neg (nI_ge (by omega) (by omega))]; exact fin
end CQQ
