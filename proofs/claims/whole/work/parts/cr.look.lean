-- book, the call.
theorem lp1_gen {φ σ β : Type} (ap : φ → σ → Option β) {z : φ} {b : φ → φ} (P : Nat → σ → Prop) (Q : Option β → Prop) (h : ∀ (n : Nat) (K : φ) (s : σ), P n s → (∀ (m : Nat) (s' : σ), m < n → P m s' → Q (ap K s')) → Q (ap (b K) s)) : ∀ (fu n : Nat) (s : σ), n < fu → P n s → Q (ap (x_lp z b fu) s) := by
  intro fu
  induction fu with
  | zero => intro n s hn _; exact absurd hn (Nat.not_lt_zero n)
  | succ fu ih => intro n s hn hp; exact h n _ s hp (fun m s' hm hp' => ih m s' (by omega) hp')
def StQ (v : XM) (s : Int32) (R : Option XM) : Prop := ∃ N S, (∀ j, N j = if 70 ≤ j ∧ j < 111 then v.1 6 (j - 70) else v.1 2 j) ∧ (∀ j, j < 41 → S j = v.1 2 (70 + j)) ∧ R = (if s = 0 then some (x_row (x_row v 2 N) 6 S) else x_bo (f_X12_snap (x_row (x_row v 2 N) 6 S)) (fun y1 => x_bo (f_X12_takeBack y1) (fun y2 => some y2)))
section CRR
variable {n lim b p s a k e i nS nF nT nW bB : Nat} {t : Tok} {T v T' v' T0 v0 u u' B B0 V w w' : XM}
theorem r_stay (v : XM) (s : Int32) : StQ v s (f_X12_stay v s) := by
  unfold f_X12_stay
  refine lp1_gen (σ := XM × Nat) (fun (K : XM → Int32 → Int32 → Option XM) q => K q.1 s (nI q.2)) (fun m q => q.2 + m = 41 ∧ ∃ N S, q.1 = x_row (x_row v 2 N) 6 S ∧ (∀ j, N j = if 70 ≤ j ∧ j < 70 + q.2 then v.1 6 (j - 70) else v.1 2 j) ∧ (∀ j, S j = if j < q.2 then v.1 2 (70 + j) else v.1 6 j)) (StQ v s) ?_ x_NN 41 (v, 0) (by decide) ⟨rfl, v.1 2, v.1 6, ?_, fun j => ?_, fun j => ?_⟩
  · rintro m K ⟨_, i⟩ ⟨hm, N, S, rfl, hN, hS⟩ ih
    dsimp only at hm hN hS
    show StQ v s (f_X12_stay_2 K (x_row (x_row v 2 N) 6 S) s (nI i))
    unfold f_X12_stay_2
    by_cases c : 41 ≤ i
    · have e : i = 41 := by omega
      subst e
      rw [if_pos (show (41 : Int32) ≤ nI 41 from nI_le (a := 41) (b := 41) (by omega) (by omega))]
      exact ⟨N, S, hN, fun j hj => by rw [hS, if_pos hj], rfl⟩
    · rw [if_neg (show ¬ (41 : Int32) ≤ nI i from nI_ge (b := 41) (by omega) (by omega)), kl_70, nI_add, ck_in (by omega) (by omega), lt_eq, ck_in (by omega) (by omega), ck_in (by omega) (by omega), lt_eq, ck_in (by omega) (by omega), lt_eq, pa_in (by omega), pa_in (by omega), ga_in (by omega), ga_in (by omega), nI_1]
      have e1 : (x_row (x_row v 2 N) 6 S).1 2 = N := by rw [row_off (by omega), row_at]
      have e2 : (x_row (x_row v 2 N) 6 S).1 6 = S := row_at
      rw [e1, e2, row_comm (i := 6) (k := 2) (by omega), row_row, row_at, row_row]
      refine ih (m - 1) (x_row (x_row v 2 (up N (70 + i) (S i))) 6 (up S i (N (70 + i))), i + 1) (by omega) ⟨by dsimp only; omega, _, _, rfl, fun j => ?_, fun j => ?_⟩
      · dsimp only
        by_cases cj : j = 70 + i
        · subst cj
          rw [up_eq, hS, if_neg (by omega), if_pos (by omega), Nat.add_sub_cancel_left]
        · rw [up_ne cj, hN]
          by_cases c2 : 70 ≤ j ∧ j < 70 + i
          · rw [if_pos c2, if_pos (by omega)]
          · rw [if_neg c2, if_neg (by omega)]
      · dsimp only
        by_cases cj : j = i
        · subst cj
          rw [up_eq, hN, if_neg (by omega), if_pos (by omega)]
        · rw [up_ne cj, hS]
          by_cases c2 : j < i
          · rw [if_pos c2, if_pos (by omega)]
          · rw [if_neg c2, if_neg (by omega)]
  · rw [row_self, row_self]
  · dsimp only; rw [if_neg (by omega)]
  · dsimp only; rw [if_neg (by omega)]
/-- the texts' scratch and what is told have changed -/
theorem RelN.txt3 (h : RelN nS nF nT nW bB w v) (h2 : ∀ i, i = 4 ∨ i = 21 ∨ i = 62 ∨ i = 103 → w'.2 i = w.2 i) (hc : ∀ i, i ≠ 1 → i ≠ 3 → i ≠ 282 → (i = 44 ∨ ¬ scrW i) → w'.1 i = w.1 i) (hv2 : v'.2 7 = v.2 7 ∧ v'.2 9 = v.2 9) (hv : ∀ i, i = 2 ∨ i = 4 ∨ i = 5 ∨ i = 10 ∨ i = 12 ∨ i = 15 ∨ i = 16 → v'.1 i = v.1 i) (hf : ∀ j, vF j → j ≠ 2 → j ≠ 10 → j ≠ 41 → v'.1 0 j = v.1 0 j) (hT : RTape w' v') (hTo : RTold w' v') : RelN nS nF nT nW bB w' v' := by
  have hb := h.1.1.1
  obtain ⟨a1, a6, a7, a7', -, a9, -, a11, a12⟩ := h
  refine ⟨a1.congr (fun i p q => hc _ (by omega) (by omega) (by omega) (by unfold scrW; omega)) (h2 21 (by omega)) (fun i _ => by rw [hv2.1]) (fun j _ => by rw [hv 2 (by omega)]), a6.congr ⟨by omega, by omega⟩ (fun j _ => by rw [hv 2 (by omega)]) (fun i p q => hc i (by omega) (by omega) (by omega) (by unfold scrW; omega)) ⟨hv 5 (by omega), hf 24 (by unfold vF; omega) (by omega) (by omega) (by omega)⟩, a7.congr (by omega) (fun i hi => hc _ (by omega) (by omega) (by omega) (by unfold scrW; omega)) (h2 62 (by omega)) ⟨hv 10 (by omega), hv 4 (by omega), hv2.2⟩, a7'.congr (by omega) (fun i hi => hc _ (by omega) (by omega) (by omega) (by unfold scrW; omega)) (h2 103 (by omega)) ⟨hv 10 (by omega), hv 4 (by omega), hv2.2⟩, hT, a9.congr (h2 4 (by omega)), hTo, a11.congr (fun i hi => hc i (by omega) (by omega) (by omega) (by unfold scrW; omega)) ⟨hf 27 (by unfold vF; omega) (by omega) (by omega) (by omega), hf 31 (by unfold vF; omega) (by omega) (by omega) (by omega), hf 32 (by unfold vF; omega) (by omega) (by omega) (by omega), hf 33 (by unfold vF; omega) (by omega) (by omega) (by omega), hf 34 (by unfold vF; omega) (by omega) (by omega) (by omega)⟩ ⟨hv 12 (by omega), hv 15 (by omega)⟩, a12.congr ⟨by rw [hc 315 (by omega) (by omega) (by omega) (by unfold scrW; omega)], hc 317 (by omega) (by omega) (by omega) (by unfold scrW; omega)⟩ ⟨hf 36 (by unfold vF; omega) (by omega) (by omega) (by omega), hv 16 (by omega)⟩⟩
theorem RelN.wn (h : RelN nS nF nT nW bB w v) : WN nS nT nW (x_sub w 6) v := ⟨by have := h.1.1.1; omega, h.1.2.2.1, h.1.1.2.1.1, h.1.1.2.1.2.2.1, h.1.1.2.1.2.2.2.1⟩
/-- the class's memory behind a text's reading that used the cells from o on, m of them -/
theorem read_mem {D : XM} {o m : Nat} (ho : 5 ≤ o) : (∀ i, 1 ≤ i → i < 5 → (x_put (x_put w o m D) 1 4 T).1 i = T.1 (i - 1)) ∧ (∀ i, o ≤ i → i < o + m → (x_put (x_put w o m D) 1 4 T).1 i = D.1 (i - o)) ∧ (∀ i, ¬ (1 ≤ i ∧ i < 5) → ¬ (o ≤ i ∧ i < o + m) → (x_put (x_put w o m D) 1 4 T).1 i = w.1 i) ∧ (x_put (x_put w o m D) 1 4 T).2 4 = T.2 3 ∧ (∀ i, ¬ (1 ≤ i ∧ i < 5) → ¬ (o ≤ i ∧ i < o + m) → (x_put (x_put w o m D) 1 4 T).2 i = w.2 i) := by
  refine ⟨fun i p q => put_inn (by omega), fun i p q => by rw [put_out (by omega), put_inn (by omega)], fun i p q => by rw [put_out (by omega), put_out (by omega)], put_i2 (by omega), fun i p q => by rw [put_o2 (by omega), put_o2 (by omega)]⟩
/-- the tape behind a text's reading -/
theorem read_tape {m2 M z : XM} (h : RelN nS nF nT nW bB w v) (m_T : ∀ i, 1 ≤ i → i < 5 → m2.1 i = T.1 (i - 1)) (hT : FL (opT lim w) T) (z1 : ∀ i, z.1 1 i = v.1 1 i) (z2 : z.1 0 2 = 0) (z10 : T.1 0 10 = z.1 0 10) (a1 : M.1 1 2 = 0) (a2 : M.1 1 10 = m2.1 1 10) (a3 : M.1 3 = m2.1 3) : RTape M z := by
  refine ⟨⟨0, by omega, a1, z2⟩, fun i hi => ?_, ?_⟩
  · rw [a3, m_T 3 (by omega) (by omega), hT.1 2 (by omega), opT_r (by omega), z1]; exact h.tape.2.1 i hi
  · rw [a2, m_T 1 (by omega) (by omega)]; exact z10
end CRR
