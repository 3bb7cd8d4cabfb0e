-- feed.
theorem sub_row {v : XM} {o i : Nat} {g : Nat → Int32} : x_sub (x_row v (i + o) g) o = x_row (x_sub v o) i g := by
  refine Prod.ext ?_ rfl
  funext j
  show (if j + o = i + o then g else v.1 (j + o)) = if j = i then g else v.1 (j + o)
  by_cases c : j = i
  · rw [if_pos (by omega), if_pos c]
  · rw [if_neg (by omega), if_neg c]
theorem put_sub {v u : XM} {o n : Nat} (h1 : ∀ i, ¬ (o ≤ i ∧ i < o + n) → u.1 i = v.1 i) (h2 : ∀ i, ¬ (o ≤ i ∧ i < o + n) → u.2 i = v.2 i) : x_put v o n (x_sub u o) = u := by
  refine Prod.ext ?_ ?_ <;> funext j
  · show (if o ≤ j ∧ j < o + n then u.1 (j - o + o) else v.1 j) = u.1 j
    by_cases c : o ≤ j ∧ j < o + n
    · rw [if_pos c, Nat.sub_add_cancel c.1]
    · rw [if_neg c, h1 j c]
  · show (if o ≤ j ∧ j < o + n then u.2 (j - o + o) else v.2 j) = u.2 j
    by_cases c : o ≤ j ∧ j < o + n
    · rw [if_pos c, Nat.sub_add_cancel c.1]
    · rw [if_neg c, h2 j c]
def fcc : Nat → Int32
  | 0 => -8
  | n + 1 => nI (8 * n)
theorem fcc_s : ∀ n, n < 4 → fcc (n + 1) + (-8) = fcc n ∧ ¬ fcc (n + 1) < 0 := by decide
section FD
variable {nS nF nT nW bB : Nat} {w w' v v' : XM}
theorem feed_b (h : RelN nS nF nT nW bB w v) {n b : Nat} (hn : n < 940) (hb : b < 256) : RelN nS nF nT nW bB (x_row (x_row w 3 (up (w.1 3) n (nI b))) 1 (up (w.1 1) 2 (nI (n + 1)))) (x_row (x_row v 1 (up (v.1 1) n (nI b))) 0 (up (v.1 0) 2 (nI (n + 1)))) := by
  obtain ⟨-, t2, t3⟩ := h.tape
  refine h.tp rfl (fun i a b => by rw [row_off a, row_off b]) ⟨rfl, rfl⟩ (fun i hi => by rw [row_off (by omega), row_off (by omega)]) (fun j a b c => by rw [row_at, up_ne b]) ⟨⟨n + 1, by omega, by rw [row_at, up_eq], by rw [row_at, up_eq]⟩, fun i hi => ?_, ?_⟩
  · rw [row_off (by omega), row_at, row_off (by omega), row_at]
    by_cases c : i = n
    · subst c; rw [up_eq, up_eq]; exact ⟨rfl, b, hb, rfl⟩
    · rw [up_ne c, up_ne c]; exact t2 i hi
  · rw [row_at, up_ne (by omega), row_at, up_ne (by omega)]; exact t3
theorem feed_s {K : XM → Int32 → Int32 → Option XM} {K' : XM → Int32 → Int32 → Option XM} (h : RelN nS nF nT nW bB w v) {n : Nat} (hn : n < 940) (e1 : w.1 1 2 = nI n) (e2 : v.1 0 2 = nI n) {x c : Int32} (hc : ¬ c < 0) : ∃ w' v', f_X8_addNumber_3 K (x_sub w 1) x c = K (x_sub w' 1) x (c + (-8)) ∧ f_X12_come_3 K' v x c = K' v' x (c + (-8)) ∧ RelN nS nF nT nW bB w' v' ∧ w'.1 1 2 = nI (n + 1) ∧ v'.1 0 2 = nI (n + 1) ∧ Fr [1, 3] w w' := by
  obtain ⟨b, hb, eb⟩ := pk_andE (((x : Int32).toUInt32 >>> ((c : Int32).toUInt32 &&& Int32.toUInt32 31)).toInt32) (m := 255) 8 (by decide)
  refine ⟨x_row (x_row w 3 (up (w.1 3) n (nI b))) 1 (up (w.1 1) 2 (nI (n + 1))), x_row (x_row v 1 (up (v.1 1) n (nI b))) 0 (up (v.1 0) 2 (nI (n + 1))), ?_, ?_, feed_b h hn hb, by rw [row_at, up_eq], by rw [row_at, up_eq], (Fr.rf.row (by simp)).row (by simp)⟩
  · unfold f_X8_addNumber_3
    rw [if_neg hc]
    simp only [lt_eq]
    rw [eb, show (x_sub w 1).1 0 2 = nI n from e1, rp_in hn (by omega), show x_put (x_sub w 1) 1 2 (x_row (x_sub (x_sub w 1) 1) 1 (up ((x_sub (x_sub w 1) 1).1 1) n (nI b))) = x_row (x_sub w 1) 2 (up (w.1 3) n (nI b)) from put_row (by omega), row_off (by omega), show (x_sub w 1).1 0 2 = nI n from e1, nI_1, si_row, row_off (by omega), show (x_sub w 1).1 0 = w.1 1 from rfl, ← sub_row, ← sub_row]
  · unfold f_X12_come_3
    rw [if_neg hc]
    simp only [lt_eq]
    rw [eb, e2, ck_in hn (by omega), pa_in (by omega), row_off (by omega), e2, nI_1, si_row, row_off (by omega)]
theorem feed_l : ∀ (j fu : Nat) (w v : XM) (n : Nat) (x : Int32), j ≤ 4 → j < fu → RelN nS nF nT nW bB w v → w.1 1 2 = nI n → v.1 0 2 = nI n → n + j ≤ 940 → ∃ w' v', x_lp (φ := XM → Int32 → Int32 → Option (XM)) (fun _ _ _ => none) f_X8_addNumber_3 fu (x_sub w 1) x (fcc j) = some (x_sub w' 1) ∧ x_lp (φ := XM → Int32 → Int32 → Option (XM)) (fun _ _ _ => none) f_X12_come_3 fu v x (fcc j) = some v' ∧ RelN nS nF nT nW bB w' v' ∧ w'.1 1 2 = nI (n + j) ∧ v'.1 0 2 = nI (n + j) ∧ Fr [1, 3] w w'
  | 0, fu, w, v, n, x, _, hf, h, e1, e2, _ => by
    obtain ⟨fu, rfl⟩ : ∃ q, fu = q + 1 := ⟨fu - 1, by omega⟩
    refine ⟨w, v, ?_, ?_, h, e1, e2, Fr.rf⟩
    · show f_X8_addNumber_3 _ _ _ _ = _
      unfold f_X8_addNumber_3
      rw [if_pos (show fcc 0 < 0 by decide)]
    · show f_X12_come_3 _ _ _ _ = _
      unfold f_X12_come_3
      rw [if_pos (show fcc 0 < 0 by decide)]
  | j + 1, fu, w, v, n, x, hj, hf, h, e1, e2, hn => by
    obtain ⟨fu, rfl⟩ : ∃ q, fu = q + 1 := ⟨fu - 1, by omega⟩
    obtain ⟨c1, c2⟩ := fcc_s j (by omega)
    obtain ⟨w1, v1, a1, a2, a3, a4, a5, a6⟩ := feed_s (K := x_lp (φ := XM → Int32 → Int32 → Option (XM)) (fun _ _ _ => none) f_X8_addNumber_3 fu) (K' := x_lp (φ := XM → Int32 → Int32 → Option (XM)) (fun _ _ _ => none) f_X12_come_3 fu) (x := x) h (show n < 940 by omega) e1 e2 c2
    obtain ⟨w2, v2, b1, b2, b3, b4, b5, b6⟩ := feed_l j fu w1 v1 (n + 1) x (by omega) (by omega) a3 a4 a5 (by omega)
    rw [c1] at a1 a2
    exact ⟨w2, v2, a1.trans b1, a2.trans b2, b3, by rw [b4]; exact congrArg nI (by omega), by rw [b5]; exact congrArg nI (by omega), a6.tr b6⟩
theorem feed_1 (h : RelN nS nF nT nW bB w v) {n : Nat} (hn : n + 4 ≤ 940) (e1 : w.1 1 2 = nI n) (e2 : v.1 0 2 = nI n) (x : Int32) : ∃ y w' v', f_X8_addNumber (x_sub w 1) x = some y ∧ x_put w 1 4 y = w' ∧ f_X12_come v x = some v' ∧ RelN nS nF nT nW bB w' v' ∧ w'.1 1 2 = nI (n + 4) ∧ v'.1 0 2 = nI (n + 4) := by
  obtain ⟨w', v', a1, a2, a3, a4, a5, a6⟩ := feed_l 4 x_NN w v n x (by omega) (show 4 < 1000000 by omega) h e1 e2 hn
  refine ⟨x_sub w' 1, w', v', a1, put_sub (fun i hi => a6.2 i ?_) (fun i _ => by rw [a6.1]), a2, a3, a4, a5⟩
  simp only [List.mem_cons, List.not_mem_nil, or_false]
  omega
theorem b_feed (h : RelN nS nF nT nW bB w v) (x0 x1 x2 x3 x4 : Int32) : R2 (f_X11_feed w x0 x1 x2 x3 x4) (f_X12_feed v x0 x1 x2 x3 x4) Both := by
  have h1 := h.th (x := 0)
  unfold f_X11_feed f_X12_feed
  simp only [lt_eq]
  generalize x_si v 0 0 0 = v1 at h1 ⊢
  obtain ⟨n, n1, n2, n3⟩ := h1.tape.1
  rw [n2, n3, kl_20, kl_940, nI_add]
  by_cases c : n + 20 ≤ 940
  · rw [if_pos (nI_le c (by omega)), if_pos (nI_le c (by omega))]
    obtain ⟨y, w1, v2, a1, rfl, a3, a4, a5, a6⟩ := feed_1 h1 (by omega) n2 n3 x0
    rw [a1, a3, bo_some, bo_some]
    generalize x_put w 1 4 y = w1 at a4 a5 ⊢
    obtain ⟨y, w2, v3, a1, rfl, a3, a4, a5, a6⟩ := feed_1 a4 (by omega) a5 a6 x1
    rw [a1, a3, bo_some, bo_some]
    generalize x_put w1 1 4 y = w2 at a4 a5 ⊢
    obtain ⟨y, w3, v4, a1, rfl, a3, a4, a5, a6⟩ := feed_1 a4 (by omega) a5 a6 x2
    rw [a1, a3, bo_some, bo_some]
    generalize x_put w2 1 4 y = w3 at a4 a5 ⊢
    obtain ⟨y, w4, v5, a1, rfl, a3, a4, a5, a6⟩ := feed_1 a4 (by omega) a5 a6 x3
    rw [a1, a3, bo_some, bo_some]
    generalize x_put w3 1 4 y = w4 at a4 a5 ⊢
    obtain ⟨y, w5, v6, a1, rfl, a3, a4, a5, a6⟩ := feed_1 a4 (by omega) a5 a6 x4
    rw [a1, a3, bo_some, bo_some]
    exact R2_some ⟨a5.trans a6.symm, a4.rel⟩
  · have c2 : ¬ nI (n + 20) ≤ nI 940 := fun q => by rw [nI_leI (by omega) (by omega)] at q; exact c q
    rw [if_neg c2, if_neg c2]
    exact R2_some ⟨rfl, h1.rel⟩
end FD
