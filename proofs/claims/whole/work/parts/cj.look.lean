-- valley.
section CJ
variable {n lim b p s a k nS nF nT nW bB : Nat} {t : Tok} {T v T' v' T'' v'' T0 v0 D D' w : XM}
/-- what stands behind a whole VALLEY -/
def VyQ (v' : XM) (k : Nat) (q : Int32 × XM) : Prop := q.1 = nI k ∧ (∀ i, i ≠ 0 → i ≠ 2 → q.2.1 i = v'.1 i) ∧ (∀ j, j ≠ 24 → q.2.1 0 j = v'.1 0 j) ∧ q.2.1 0 24 = 0 ∧ (∀ i, i ≠ 7 → q.2.2 i = v'.2 i) ∧ (∀ i, i < 19 → q.2.2 7 i = v'.2 8 i) ∧ (∀ j, j < 70 → q.2.1 2 j = v'.1 3 j) ∧ ∀ j, 70 ≤ j → j < 353 → q.2.1 2 j = so0 (v'.1 3) j
theorem so0_c {g h : Nat → Int32} (e : ∀ j, j < 70 → g j = h j) {j : Nat} : so0 g j = so0 h j := by
  unfold so0
  by_cases c1 : j = 71
  · rw [if_pos c1, if_pos c1]
  · rw [if_neg c1, if_neg c1]
    by_cases c2 : 74 ≤ j ∧ j < 79
    · rw [if_pos c2, if_pos c2, e _ (by omega)]
    · rw [if_neg c2, if_neg c2]
theorem r_copyV (v' : XM) (k : Nat) : wp (x_lp (φ := XM → Int32 → Int32 → Option (Int32 × XM)) (fun _ _ _ => none) (f_X12_valley_79) x_NN v' (nI k) (0 : Int32)) (VyQ v' k) := by
  refine lp_fora (σ := XM) (n := 70) (fun (K : XM → Int32 → Int32 → Option (Int32 × XM)) a c => K a (nI k) c) (fun i a => Fr [2] v' a ∧ ∀ j, j < i → a.1 2 j = v'.1 3 j) _ ?_ ?_ x_NN v' (by decide) ⟨Fr.rf, fun j q => absurd q (Nat.not_lt_zero _)⟩
  · rintro K i a hi ⟨g1, g2⟩ ih
    show wp (f_X12_valley_79 K a (nI k) (nI i)) _
    unfold f_X12_valley_79
    rw [if_neg (show ¬ (70 : Int32) ≤ nI i from nI_ge (b := 70) (by omega) (by omega)), ck_in hi (by omega), ck_in (by omega) (by omega), lt_eq, pa_in (by omega), ga_in (by omega), nI_1]
    refine ih _ ⟨g1.row (by simp), fun j hj => ?_⟩
    rw [row_at]
    by_cases c : j = i
    · subst c; rw [up_eq, g1.2 3 (by simp)]
    · rw [up_ne c]; exact g2 j (by omega)
  · rintro K a ⟨g1, g2⟩
    show wp (f_X12_valley_79 K a (nI k) (nI 70)) _
    unfold f_X12_valley_79
    rw [if_pos (show (70 : Int32) ≤ nI 70 from nI_le (a := 70) (b := 70) (by omega) (by omega))]
    refine lp_fora (σ := XM) (n := 19) (fun (K : XM → Int32 → Int32 → Option (Int32 × XM)) a c => K a (nI k) c) (fun i m => m.1 = a.1 ∧ (∀ i, i ≠ 7 → m.2 i = a.2 i) ∧ ∀ j, j < i → m.2 7 j = v'.2 8 j) _ ?_ ?_ x_NN a (by decide) ⟨rfl, fun _ _ => rfl, fun j q => absurd q (Nat.not_lt_zero _)⟩
    · rintro K' i m hi ⟨k1, k2, k3⟩ ih
      show wp (f_X12_valley_105 K' m (nI k) (nI i)) _
      unfold f_X12_valley_105
      rw [if_neg (show ¬ (19 : Int32) ≤ nI i from nI_ge (b := 19) (by omega) (by omega)), ck_in hi (by omega), ck_in hi (by omega), lt_eq, show x_pl m 7 (nI i) (x_gl m 8 (nI i)) = x_sl m 7 i (v'.2 8 i) from by
        unfold x_pl x_gl
        rw [nI_clamp (by omega), k2 8 (by omega), g1.1], nI_1]
      refine ih _ ⟨k1, fun i' hi' => (sl_r hi').trans (k2 i' hi'), fun j hj => ?_⟩
      by_cases c : j = i
      · subst c; exact sl_0
      · show (if 7 = 7 ∧ j = i then _ else m.2 7 j) = _
        rw [if_neg (fun q => c q.2)]; exact k3 j (by omega)
    · rintro K' m ⟨k1, k2, k3⟩
      show wp (f_X12_valley_105 K' m (nI k) (nI 19)) _
      obtain ⟨M, e, f1, f2, f3⟩ := r_startSo m
      unfold f_X12_valley_105
      rw [if_pos (show (19 : Int32) ≤ nI 19 from nI_le (a := 19) (b := 19) (by omega) (by omega)), e, bo_some, lt_eq, wp_some]
      have em : ∀ j, j < 70 → m.1 2 j = v'.1 3 j := fun j hj => by rw [k1]; exact g2 j hj
      refine ⟨rfl, fun i i0 i2 => ?_, fun j hj => ?_, si_0, fun i hi => ?_, fun i hi => ?_, fun j hj => ?_, fun j p q => ?_⟩
      · rw [si_r i0, f1.2 i (by simp; omega), k1, g1.2 i (by simp; omega)]
      · rw [si_n hj, f1.2 0 (by simp), k1, g1.2 0 (by simp)]
      · show M.2 i = _
        rw [f1.1, k2 i hi, g1.1]
      · show M.2 7 i = _
        rw [f1.1, k3 i hi]
      · rw [si_r (by omega), f2 j hj, em j hj]
      · rw [si_r (by omega), f3 j p q]
        exact so0_c em
def VyP (T0 v0 : XM) (r : Int32 × XM × XM) (q : Int32 × XM) : Prop := (r.1 = -1 ∧ Bd T0 v0 r.2.2 q.2 ∧ q.1 = -1 - q.2.1 0 11) ∨ (∃ (k nS nF nT nW bB : Nat) (v' : XM), k ≤ 900 ∧ r.1 = nI k ∧ DR nS nF nT nW bB r.2.1 v' ∧ FL T0 r.2.2 ∧ GL v0 v' ∧ r.2.2.1 0 10 = v'.1 0 10 ∧ VyQ v' k q)
theorem vy_loop (h : St n 900 b p s t T0 v0 T v) (d : DR nS nF nT nW bB D v) (hb9 : b ≤ 900) : R2 (x_lp (φ := XM → XM → Int32 → Option (Int32 × XM × XM)) (fun _ _ _ => none) (f_X6_readValley_21) x_NN D T (nI 0)) (x_lp (φ := XM → Int32 → Option (Int32 × XM)) (fun _ _ => none) (f_X12_valley_43) x_NN v (nI 0)) (VyP T0 v0) := by
  refine lp2_ind (σ := XM × XM × XM × Int32) (fun (K : XM → XM → Int32 → Option (Int32 × XM × XM)) q => K q.1 q.2.1 q.2.2.2) (fun (K : XM → Int32 → Option (Int32 × XM)) q => K q.2.2.1 q.2.2.2) (fun m q => ∃ (nS nF nT nW bB b p s k : Nat) (t : Tok), b + m = 900 ∧ k ≤ b ∧ q.2.2.2 = nI k ∧ St n 900 b p s t T0 v0 q.2.1 q.2.2.1 ∧ DR nS nF nT nW bB q.1 q.2.2.1) _ ?_ x_NN x_NN (900 - b) (D, T, v, nI 0) (by show 900 - b < 1000000; omega) (by show 900 - b < 1000000; omega) ⟨nS, nF, nT, nW, bB, b, p, s, 0, t, by omega, by omega, rfl, h, d⟩
  clear h d hb9
  rintro m K K' ⟨D, T, v, _⟩ ⟨nS, nF, nT, nW, bB, b, p, s, k, t, hm, hk, rfl, h, d⟩ ih
  dsimp only at h d
  show R2 (f_X6_readValley_21 K D T (nI k)) (f_X12_valley_43 K' v (nI k)) _
  have hc := h.1.2.2.1
  unfold f_X6_readValley_21 f_X12_valley_43
  rw [if_neg (show ¬ (900 : Int32) < nI k from nI_ge' (a := 900) (by omega) (by omega))]
  by_cases c : t.1 = 0
  · rw [if_pos (show T.1 0 6 = 0 from (tk_6k hc (c := 0) (by omega)).mpr c), if_pos (show v.1 0 7 = 0 from (tk_7 hc (c := 0) (by omega)).mpr c)]
    obtain ⟨q, e, hq⟩ := r_copyV v k
    rw [e]
    exact R2_some (Or.inr ⟨k, nS, nF, nT, nW, bB, v, by omega, rfl, d, h.2.2.1, h.2.2.2, h.2.1, hq⟩)
  · rw [if_neg (show ¬ T.1 0 6 = 0 from fun q => c ((tk_6k hc (c := 0) (by omega)).mp q)), if_neg (show ¬ v.1 0 7 = 0 from fun q => c ((tk_7 hc (c := 0) (by omega)).mp q))]
    refine R2_bo (h.line d) ?_
    rintro ⟨r1, D1, T1⟩ ⟨q1, v1⟩ (⟨z1, z2, z3⟩ | ⟨z1, z2, nS1, nF1, nT1, nW1, bB1, b1, p1, s1, t1, hb1, d1, h1⟩)
    · dsimp only at z1 z2 z3 ⊢
      rw [z1, z2, if_pos rfl, if_pos rfl]
      exact R2_some (Or.inl ⟨rfl, z3, rfl⟩)
    · dsimp only at z1 z2 d1 h1 ⊢
      rw [z1, z2, if_neg one0, if_neg one0]
      refine R2_bo h1.semi ?_
      rintro ⟨r2, T2⟩ ⟨q2, v2⟩ (⟨z1, z2, z3⟩ | ⟨z1, z2, fT, fV, hbp, hpl, p2, s2, t2, h2⟩)
      · dsimp only at z1 z2 z3 ⊢
        rw [z1, z2, if_pos rfl, if_pos rfl]
        exact R2_some (Or.inl ⟨rfl, z3, rfl⟩)
      · dsimp only at z1 z2 fT fV h2 ⊢
        rw [z1, z2, if_neg one0, if_neg one0, nI_1]
        exact ih (900 - p1) (D1, T2, v2, nI (k + 1)) (by omega) ⟨nS1, nF1, nT1, nW1, bB1, p1, p2, s2, k + 1, t2, by omega, by omega, rfl, h2, d1.fv (fV.1 3 (by omega)) (fV.2.2 8 (by omega)) (fV.2.1 23 (by omega))⟩
theorem c_empty (V : XM) : wp (f_X9_empty V) (fun U => (U.1 0 0 = 0 ∧ U.1 0 1 = 0 ∧ U.1 0 2 = 0 ∧ U.1 0 3 = 0 ∧ U.1 0 4 = 12 ∧ U.1 0 5 = 0) ∧ ∀ i, i < 19 → U.2 15 i = 0) := by
  have key : ∀ m : XM, (m.1 0 0 = 0 ∧ m.1 0 1 = 0 ∧ m.1 0 2 = 0 ∧ m.1 0 3 = 0 ∧ m.1 0 4 = 12 ∧ m.1 0 5 = 0) → wp (x_lp (φ := XM → Int32 → Option (XM)) (fun _ _ => none) (f_X9_empty_33) x_NN m (0 : Int32)) (fun U => (U.1 0 0 = 0 ∧ U.1 0 1 = 0 ∧ U.1 0 2 = 0 ∧ U.1 0 3 = 0 ∧ U.1 0 4 = 12 ∧ U.1 0 5 = 0) ∧ ∀ i, i < 19 → U.2 15 i = 0) := fun m hm => by
    refine lp_fora (σ := XM) (n := 19) (fun (K : XM → Int32 → Option (XM)) a c => K a c) (fun i a => (a.1 0 0 = 0 ∧ a.1 0 1 = 0 ∧ a.1 0 2 = 0 ∧ a.1 0 3 = 0 ∧ a.1 0 4 = 12 ∧ a.1 0 5 = 0) ∧ ∀ j, j < i → a.2 15 j = 0) _ ?_ ?_ x_NN m (by decide) ⟨hm, fun j q => absurd q (Nat.not_lt_zero _)⟩
    · rintro K i a hi ⟨g1, g2⟩ ih
      show wp (f_X9_empty_33 K a (nI i)) _
      unfold f_X9_empty_33
      rw [if_neg (show ¬ (19 : Int32) ≤ nI i from nI_ge (b := 19) (by omega) (by omega)), ck_in hi (by omega), lt_eq, show x_pl a 15 (nI i) 0 = x_sl a 15 i 0 from by unfold x_pl; rw [nI_clamp (by omega)], nI_1]
      refine ih _ ⟨g1, fun j hj => ?_⟩
      by_cases c : j = i
      · subst c; exact sl_0
      · show (if 15 = 15 ∧ j = i then _ else a.2 15 j) = _
        rw [if_neg (fun q => c q.2)]; exact g2 j (by omega)
    · rintro K a ⟨g1, g2⟩
      show wp (f_X9_empty_33 K a (nI 19)) _
      unfold f_X9_empty_33
      rw [if_pos (show (19 : Int32) ≤ nI 19 from nI_le (a := 19) (b := 19) (by omega) (by omega)), wp_some]
      exact ⟨g1, g2⟩
  unfold f_X9_empty
  rw [lt_eq, lt_eq, lt_eq, lt_eq, lt_eq, lt_eq]
  refine key _ ⟨?_, ?_, ?_, ?_, ?_, ?_⟩
  · rw [si_n (by omega), si_n (by omega), si_n (by omega), si_n (by omega), si_n (by omega), si_0]
  · rw [si_n (by omega), si_n (by omega), si_n (by omega), si_n (by omega), si_0]
  · rw [si_n (by omega), si_n (by omega), si_n (by omega), si_0]
  · rw [si_n (by omega), si_n (by omega), si_0]
  · rw [si_n (by omega), si_0]
  · rw [si_0]
/-- a text begun: the memories that the class and the reference read it in -/
def opT (lim : Nat) (w : XM) : XM := x_si (x_si (x_si (x_si (x_sub w 1) 0 3 (nI lim)) 0 4 0) 0 10 0) 0 11 0
def opV (lim n : Nat) (v : XM) : XM := x_si (x_si (x_si (x_si (x_si (x_si v 0 0 0) 0 2 0) 0 3 (nI n)) 0 4 (nI lim)) 0 10 0) 0 5 0
theorem begun (h : RelN nS nF nT nW bB w v) (hlim : lim ≤ 940) : ∃ n T v1 p s t, n ≤ 940 ∧ w.1 1 2 = nI n ∧ v.1 0 2 = nI n ∧ f_X8_open (x_sub w 1) (nI lim) = some T ∧ f_X12_begin v (nI lim) = some v1 ∧ St n lim 0 p s t (opT lim w) (opV lim n v) T v1 ∧ FT (opT lim w) T ∧ FV (opV lim n v) v1 := by
  obtain ⟨⟨n, n1, n2, n3⟩, t2, t3⟩ := h.tape
  have h9 := h.2.2.2.2.2.1
  have hk : Tk0 n lim 0 (opT lim w) (opV lim n v) := by
    refine ⟨⟨n1, hlim, Nat.zero_le _⟩, ⟨?_, ?_, ?_, ?_, ?_, ?_⟩, fun j hj => ?_, fun i hi => h9 i hi⟩
    · exact (si_n (by omega)).trans ((si_n (by omega)).trans ((si_n (by omega)).trans ((si_n (by omega)).trans n2)))
    · exact (si_n (by omega)).trans ((si_n (by omega)).trans ((si_n (by omega)).trans si_0))
    · exact (si_n (by omega)).trans ((si_n (by omega)).trans ((si_n (by omega)).trans si_0))
    · exact (si_n (by omega)).trans ((si_n (by omega)).trans si_0)
    · exact (si_n (by omega)).trans ((si_n (by omega)).trans si_0)
    · exact si_0
    · have e1 : (opT lim w).1 2 = w.1 3 := (si_r (by omega)).trans ((si_r (by omega)).trans ((si_r (by omega)).trans (si_r (by omega))))
      have e2 : (opV lim n v).1 1 = v.1 1 := (si_r (by omega)).trans ((si_r (by omega)).trans ((si_r (by omega)).trans ((si_r (by omega)).trans ((si_r (by omega)).trans (si_r (by omega))))))
      rw [e1, e2]; exact t2 j hj
  obtain ⟨T, v1, a1, a2, p, s, t, k1, k2, k3⟩ := adv hk
  refine ⟨n, T, v1, p, s, t, n1, n2, n3, ?_, ?_, ⟨k1, ?_, k2.fl, k3.gl⟩, k2, k3⟩
  · unfold f_X8_open
    simp only [lt_eq]
    show x_bo (f_X8_advance (opT lim w)) _ = _
    rw [a1]; rfl
  · unfold f_X12_begin f_X12_take
    simp only [lt_eq]
    rw [show (x_si v 0 0 0).1 0 2 = nI n from (si_n (by omega)).trans n3]
    show x_bo (f_X12_go (opV lim n v)) _ = _
    rw [a2]; rfl
  · rw [k2.2.1 10 (by omega), k3.2.1 10 (by omega)]
    exact (((si_n (by omega)).trans si_0)).trans (((si_n (by omega)).trans si_0)).symm
end CJ
