-- the next token.
theorem p10_s (k : Nat) : 10 ^ (k + 1) = 10 * 10 ^ k := by rw [Nat.pow_succ, Nat.mul_comm]
theorem ltr_b {b : Nat} (h : ltr b = true) : 97 ≤ b ∧ b ≤ 122 := by
  unfold ltr at h; rwa [Bool.and_eq_true, decide_eq_true_eq, decide_eq_true_eq] at h
theorem dgt_b {b : Nat} (h : dgt b = true) : 48 ≤ b ∧ b ≤ 57 := by
  unfold dgt at h; rwa [Bool.and_eq_true, decide_eq_true_eq, decide_eq_true_eq] at h
theorem ltr_dgt {b : Nat} (h : dgt b = true) : ltr b = false := by
  have := dgt_b h
  unfold ltr
  rw [decide_eq_false (by omega)]; rfl
section TL
variable {n lim b p s a B : Nat} {fl g : Bool} {t : Tok} {T v T' v' T'' v'' : XM}
/-- one step of a run, class -/
theorem c_step {K : XM → Int32 → Option XM} (hp : p < 940) (hB : B < 256) (T2 : T.1 2 p = nI B) (T4 : T.1 0 4 = nI p) : (ltr B = true → f_X8_readRun_57 K T (nI a) = K (x_si (x_sl T 0 9 (T.2 0 9 * 32 + lN (B - 96))) 0 4 (nI (p + 1))) (nI (a + 1))) ∧ (dgt B = true → f_X8_readRun_57 K T (nI a) = K (x_si (x_si T 0 7 (T.1 0 7 * 10 + nI (B - 48))) 0 4 (nI (p + 1))) (nI a)) := by
  have e : r_get 940 (x_sub T 1) (T.1 0 4) = nI B := by rw [T4, rg_in hp (by omega)]; exact T2
  constructor
  · intro h
    have := ltr_b h
    unfold f_X8_readRun_57 f_X8_readRun_118
    rw [e, lt_eq, k_ltr B hB, h, lt_eq, if_neg (show ¬ bI true = 0 by decide), lt_eq, lt_eq, lt_eq, kl_97, pk_sub (by omega), nI_1, nI_1, nI_l (by omega), show B - 97 + 1 = B - 96 by omega]
    show K (x_si _ 0 4 (T.1 0 4 + 1)) _ = _
    rw [T4, nI_1]
  · intro h
    have := dgt_b h
    unfold f_X8_readRun_57 f_X8_readRun_118
    rw [e, lt_eq, k_ltr B hB, ltr_dgt h, lt_eq, if_pos bIf, lt_eq, lt_eq, lt_eq, kl_48, pk_sub (by omega), show (x_si T 0 7 (T.1 0 7 * 10 + nI (B - 48))).1 0 4 = nI p from (si_n (by omega)).trans T4, nI_1]
/-- the reference's memory behind a byte of a run -/
def rN1 (s p B : Nat) (v : XM) : XM := if p - s < 7 then x_sl v 0 12 ((27 : Int64) * v.2 0 12 + lN B - 96) else v
def rN2 (s p B : Nat) (v : XM) : XM := if p - s < 3 then x_si v 0 8 ((10 : Int32) * v.1 0 8 + nI B - 48) else v
def rN (s p B : Nat) (v : XM) : XM := x_si (rN2 s p B (rN1 s p B v)) 0 5 (nI (p + 1))
theorem rN1_1 {s p B : Nat} {v : XM} : (rN1 s p B v).1 = v.1 := by unfold rN1; split <;> rfl
theorem rN2_2 {s p B : Nat} {v : XM} : (rN2 s p B v).2 = v.2 := by unfold rN2; split <;> rfl
theorem rN2_o {s p B : Nat} {v : XM} {j : Nat} (h8 : j ≠ 8) : (rN2 s p B v).1 0 j = v.1 0 j := by
  unfold rN2; split
  · exact si_n h8
  · rfl
theorem r_step {K : XM → Int32 → Int32 → Option XM} (hp : p < 940) (hs : s ≤ p) (hB : B < 256) (v1 : v.1 1 p = nI B) (v5 : v.1 0 5 = nI p) (v6 : v.1 0 6 = nI s) : f_X12_go_243 K v (bI fl) (bI g) = K (rN s p B v) (bI fl) (bI (g && decide (ltr B = fl))) := by
  have dv : ∀ w : XM, w.1 0 5 = nI p → w.1 0 6 = nI s → w.1 0 5 - w.1 0 6 = nI (p - s) := fun w e1 e2 => by rw [e1, e2, pk_sub (by omega)]
  have h272 : ∀ q : Int32, f_X12_go_272 K v (bI fl) (nI B) q = K (rN s p B v) (bI fl) q := fun q => by
    have h337 : ∀ w : XM, w.1 0 5 = nI p → f_X12_go_337 K w (bI fl) q = K (x_si w 0 5 (nI (p + 1))) (bI fl) q := fun w e => by
      unfold f_X12_go_337; rw [e, nI_1, lt_eq]
    have h307 : ∀ w : XM, w.1 0 5 = nI p → w.1 0 6 = nI s → f_X12_go_307 K w (bI fl) q (nI B) = K (x_si (rN2 s p B w) 0 5 (nI (p + 1))) (bI fl) q := fun w e1 e2 => by
      unfold f_X12_go_307 rN2
      rw [dv w e1 e2]
      by_cases c : p - s < 3
      · rw [if_neg (show ¬ (3 : Int32) ≤ nI (p - s) from nI_ge (b := 3) c (by omega)), lt_eq, lt_eq, h337 _ ((si_n (by omega)).trans e1), if_pos c]
      · rw [if_pos (show (3 : Int32) ≤ nI (p - s) from nI_le (a := 3) (by omega) (by omega)), h337 _ e1, if_neg c]
    unfold f_X12_go_272 rN rN1
    rw [dv v v5 v6]
    by_cases c : p - s < 7
    · rw [if_neg (show ¬ (7 : Int32) ≤ nI (p - s) from nI_ge (b := 7) c (by omega)), nI_l (by omega), lt_eq, lt_eq, if_pos c]
      exact h307 _ v5 v6
    · rw [if_pos (show (7 : Int32) ≤ nI (p - s) from nI_le (a := 7) (by omega) (by omega)), h307 _ v5 v6, if_neg c]
  unfold f_X12_go_243 f_X12_go_271
  rw [v5, ck_in hp (by omega), ga_in (by omega), v1, h272, h272, q_ltr B hB, lt_eq]
  cases g with
  | false => rw [if_pos bIf]; rfl
  | true =>
    rw [if_neg (show ¬ bI true = 0 by decide)]
    by_cases c : ltr B = fl
    · rw [if_pos (by rw [c]), decide_eq_true c]; rfl
    · rw [if_neg (fun q => c (bI_inj.mp q)), decide_eq_false c]; rfl
theorem rn_step (hr : Rn s p a fl g T v) (hB : B < 256) (h0 : s = p → ltr B = fl) : (ltr B = true → Rn s (p + 1) (a + 1) fl (g && decide (ltr B = fl)) (x_si (x_sl T 0 9 (T.2 0 9 * 32 + lN (B - 96))) 0 4 (nI (p + 1))) (rN s p B v)) ∧ (dgt B = true → Rn s (p + 1) a fl (g && decide (ltr B = fl)) (x_si (x_si T 0 7 (T.1 0 7 * 10 + nI (B - 48))) 0 4 (nI (p + 1))) (rN s p B v)) := by
  obtain ⟨r1, r2, r3, r4, ⟨r5, r6⟩, r7, r8⟩ := hr
  have e5 : (rN s p B v).1 0 5 = nI (p + 1) := si_0
  have e12 : p - s < 7 → (rN s p B v).2 0 12 = (27 : Int64) * v.2 0 12 + lN B - 96 := fun c => by
    show (rN2 s p B (rN1 s p B v)).2 0 12 = _
    rw [rN2_2]
    unfold rN1
    rw [if_pos c]
    exact sl_0
  have e8 : p - s < 3 → (rN s p B v).1 0 8 = (10 : Int32) * v.1 0 8 + nI B - 48 := fun c => by
    refine (si_n (by omega)).trans ?_
    unfold rN2
    rw [if_pos c, si_0, rN1_1]
  constructor
  · intro h
    have hb := ltr_b h
    refine ⟨by omega, by omega, ?_, ?_, ⟨si_0, e5⟩, ?_, fun q => absurd q (by omega)⟩
    · rw [Bool.and_eq_true, decide_eq_true_eq, r3, h]
      cases fl with
      | true =>
        rw [if_pos rfl, if_pos rfl]
        constructor
        · rintro ⟨q, -⟩; omega
        · intro q; exact ⟨by omega, rfl⟩
      | false =>
        rw [if_neg ft, if_neg ft]
        constructor
        · rintro ⟨-, q⟩; exact absurd q (by decide)
        · intro q; omega
    · intro _
      cases fl with
      | true => rw [if_pos rfl]; omega
      | false =>
        rw [if_neg ft]
        by_cases c : s < p
        · have := r4 c; rw [if_neg ft] at this; omega
        · have := h0 (by omega); rw [h] at this; exact absurd this (by decide)
    · intro q1 q2
      obtain ⟨l, l1, l2, l3, l4⟩ := r7 (by omega) (by omega)
      refine ⟨l ++ [B - 96], fun c hc => ?_, by rw [List.length_append, l2]; rfl, ?_, ?_⟩
      · rcases List.mem_append.mp hc with hc | hc
        · exact l1 c hc
        · rw [List.mem_singleton.mp hc]; omega
      · show (x_sl T 0 9 _).2 0 9 = _
        rw [l3, eN_snoc, show (32 : Int64) = lN 32 from rfl, lN_mul, lN_add, Nat.mul_comm]; exact sl_0
      · rw [e12 (by omega), l4, eN_snoc, show (27 : Int64) = lN 27 from rfl, show (96 : Int64) = lN 96 from rfl, lN_mul, lN_add, lN_sub (by omega)]
        congr 1; omega
  · intro h
    have hb := dgt_b h
    have hl := ltr_dgt h
    refine ⟨by omega, by omega, ?_, ?_, ⟨si_0, e5⟩, fun q => ?_, ?_⟩
    · rw [Bool.and_eq_true, decide_eq_true_eq, r3, hl]
      cases fl with
      | true =>
        rw [if_pos rfl, if_pos rfl]
        constructor
        · rintro ⟨-, q⟩; exact absurd q (by decide)
        · intro q; omega
      | false =>
        rw [if_neg ft, if_neg ft]
        constructor
        · rintro ⟨q, -⟩; exact q
        · intro q; exact ⟨q, rfl⟩
    · intro _
      cases fl with
      | true =>
        rw [if_pos rfl]
        by_cases c : s < p
        · have := r4 c; rw [if_pos rfl] at this; omega
        · have := h0 (by omega); rw [hl] at this; exact absurd this (by decide)
      | false => rw [if_neg ft]; omega
    · exact absurd q (by omega)
    · intro q1 q2
      obtain ⟨m, m1, m2, m3⟩ := r8 q1 (by omega)
      refine ⟨10 * m + (B - 48), ?_, ?_, ?_⟩
      · rw [show p + 1 - s = p - s + 1 by omega, p10_s]
        generalize 10 ^ (p - s) = x at m1 ⊢
        omega
      · rw [si_n (by omega), si_0, m2, kl_10, pk_mul, nI_add, Nat.mul_comm]
      · rw [e8 (by omega), m3, kl_10, kl_48, pk_mul, nI_add, pk_sub (by omega)]
        congr 1; omega
theorem rN_FV (h : FV v v') : FV v (rN s p B v') := by
  have h1 : FV v (rN1 s p B v') := by unfold rN1; split; exact h.sl; exact h
  have h2 : FV v (rN2 s p B (rN1 s p B v')) := by
    generalize rN1 s p B v' = u at h1 ⊢
    unfold rN2; split; exact h1.si (by omega); exact h1
  exact h2.si (by omega)
theorem rN_o {j : Nat} (h5 : j ≠ 5) (h8 : j ≠ 8) : (rN s p B v).1 0 j = v.1 0 j := (si_n h5).trans ((rN2_o h8).trans (by rw [rN1_1]))
end TL
