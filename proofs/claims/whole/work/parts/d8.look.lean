-- tags: texts; the reference's letters.
/-- the texts " to ", " at ", " in ", " lost" -/
def tx (k : Nat) : List Nat := if k = 1 then [32, 116, 111, 32] else if k = 2 then [32, 97, 116, 32] else if k = 3 then [32, 105, 110, 32] else [32, 108, 111, 115, 116]
theorem tx_1 : ∀ k, k < 4 → x_len.getD (k + 1) 0 = (tx (k + 1)).length ∧ (tx (k + 1)).length ≤ 5 := by decide
theorem tx_2 : ∀ k, k < 4 → ∀ i, i < 5 → i < (tx (k + 1)).length → x_ch (k + 1) (nI i) = nI ((tx (k + 1)).getD i 0) := by decide +kernel
theorem drop_s {B : List Nat} {i : Nat} (h : i < B.length) : B.drop i = B.getD i 0 :: B.drop (i + 1) := by
  rw [List.drop_eq_getElem_cons h, List.getD_eq_getElem?_getD, List.getElem?_eq_getElem h, Option.getD_some]
theorem c_textL {m : XM} {k : Nat} (hk : k < 4) (fu0 : Nat) : ∀ (d i n : Nat) (g : Nat → Int32), i + d = (tx (k + 1)).length → n + d ≤ 32 → x_lp (φ := XM → Int32 → Option (XM)) (fun _ _ => none) (f_X7_addText_2 (k + 1)) (fu0 + d + 1) (TC m n g) (nI i) = some (TC m (n + d) (apB g n ((tx (k + 1)).drop i)))
  | 0, i, n, g, e, hn => by
    obtain ⟨t1, t2⟩ := tx_1 k hk
    rw [show fu0 + 0 + 1 = fu0 + 1 from rfl, lp_s]
    unfold f_X7_addText_2
    rw [t1, if_pos (show Int32.ofNat (tx (k + 1)).length ≤ nI i from nI_le (by omega) (by omega)), List.drop_eq_nil_of_le (by omega)]
    rfl
  | d + 1, i, n, g, e, hn => by
    obtain ⟨t1, t2⟩ := tx_1 k hk
    have ih := c_textL (m := m) hk fu0 d (i + 1) (n + 1) (up g n (nI ((tx (k + 1)).getD i 0))) (by omega) (by omega)
    rw [show fu0 + (d + 1) + 1 = (fu0 + d + 1) + 1 from rfl, lp_s]
    generalize x_lp (φ := XM → Int32 → Option (XM)) (fun _ _ => none) (f_X7_addText_2 (k + 1)) (fu0 + d + 1) = K at ih ⊢
    unfold f_X7_addText_2
    rw [t1, if_neg (show ¬ Int32.ofNat (tx (k + 1)).length ≤ nI i from nI_ge (by omega) (by omega)), ck_in (by omega) (by omega), lt_eq, tx_2 k hk i (by omega) (by omega), c_byte (by omega), nI_1]
    refine ih.trans ?_
    rw [drop_s (i := i) (by omega), show n + 1 + d = n + (d + 1) by omega]
    rfl
theorem c_addText {m : XM} {k n L : Nat} {g : Nat → Int32} (hk : k < 4) (hL : (tx (k + 1)).length = L) (hn : n + L ≤ 32) : f_X7_addText (TC m n g) (k + 1) = some (TC m (n + L) (apB g n (tx (k + 1)))) := by
  unfold f_X7_addText
  have h5 := (tx_1 k hk).2
  have hN : 5 < x_NN := by decide
  have := c_textL (m := m) hk (x_NN - L - 1) L 0 n g (by omega) hn
  rwa [show x_NN - L - 1 + L + 1 = x_NN by omega, show (nI 0) = 0 from rfl, List.drop_zero] at this
/-- the reference -/
theorem r_write {v : XM} {n : Nat} {g : Nat → Int32} {x : Int32} (hn : n < 64) : f_X12_write (RC7 v n g) x = some (RC7 v (n + 1) (up g n x)) := by
  have e0 : (RC7 v n g).1 0 = up (v.1 0) 36 (nI n) := row_at
  have e2 : (RC7 v n g).1 16 = g := by unfold RC7; rw [row_off (by omega), row_at]
  unfold f_X12_write
  rw [e0, up_eq, ck_in hn (by omega), lt_eq, lt_eq, pa_in (by omega), si_row, e2, row_off (by omega), e0, up_eq, up_up, nI_1]
  unfold RC7
  rw [row_comm (i := 16) (k := 0) (by omega), row_row, row_comm (i := 0) (k := 16) (by omega), row_row]
theorem lg_lt {a b : Nat} (ha : a < 2 ^ 63) (hb : b < 2 ^ 63) : lg_cmp (lN a) (lN b) < 0 ↔ a < b := by
  unfold lg_cmp
  by_cases c : lN a > lN b
  · rw [if_pos c]
    have : b < a := (pk_lLT hb ha).mp c
    exact ⟨fun q => absurd q (by decide), fun q => by omega⟩
  · rw [if_neg c]
    have c' : ¬ b < a := fun q => c ((pk_lLT hb ha).mpr q)
    by_cases d : lN a = lN b
    · rw [if_pos d]
      have := (pk_lEQ ha hb).mp d
      exact ⟨fun q => absurd q (by decide), fun q => by omega⟩
    · rw [if_neg d]
      have d' : ¬ a = b := fun q => d (by rw [q])
      exact ⟨fun _ => by omega, fun _ => by decide⟩
theorem r_wordR {v : XM} : ∀ (r : List Nat) (fu n : Nat) (g : Nat → Int32), r ≠ [] → (∀ c ∈ r, 1 ≤ c ∧ c ≤ 26) → r.length ≤ 8 → n + r.length ≤ 64 → g_ww (fu + r.length) (RC7 v n g) (lN (fr 27 r)) = some (RC7 v (n + r.length) (apB g n (mp r.reverse)))
  | [], _, _, _, h, _, _, _ => absurd rfl h
  | c :: t, fu, n, g, _, hc, h8, hn => by
    have h1 := hc c (List.mem_cons_self ..)
    have hlt := eN_lt (b := 27) (by omega) (by omega) (l := (c :: t).reverse) (fun x hx => hc x (List.mem_reverse.mp hx)) (by rw [List.length_reverse]; exact h8)
    rw [eN_fr] at hlt
    rw [List.length_cons] at h8 hn
    have eq : fr 27 (c :: t) = 27 * fr 27 t + c := rfl
    have tail : ∀ (rc : XM → Int64 → Option XM) (k : Nat) (g' : Nat → Int32), k < 64 → f_X12_writeWord_17 rc (RC7 v k g') (lN (fr 27 (c :: t))) = some (RC7 v (k + 1) (up g' k (nI (96 + c)))) := fun rc k g' hk => by
      unfold f_X12_writeWord_17
      rw [lt_eq, show (27 : Int64) = lN 27 from rfl, pk_lRem hlt (by omega) (by omega), eq, Nat.mul_add_mod, Nat.mod_eq_of_lt (show c < 27 by omega), lN_i, show (96 : Int32) = nI 96 from rfl, nI_add, r_write hk, bo_some]
    rw [List.length_cons, show fu + (t.length + 1) = (fu + t.length) + 1 from rfl]
    show f_X12_writeWord (g_ww (fu + t.length)) _ _ = _
    unfold f_X12_writeWord
    by_cases ct : t = []
    · subst ct
      have e : fr 27 [c] = c := by show 27 * 0 + c = c; omega
      rw [show (27 : Int64) = lN 27 from rfl, if_pos ((lg_lt hlt (by omega)).mpr (by rw [e]; omega)), tail _ _ _ (by omega)]
      rfl
    · have hp : 1 ≤ fr 27 t := by
        cases t with
        | nil => exact absurd rfl ct
        | cons a s =>
          have := hc a (by simp)
          show 1 ≤ 27 * fr 27 s + a
          omega
      rw [show (27 : Int64) = lN 27 from rfl, if_neg (fun q => absurd ((lg_lt hlt (by omega)).mp q) (by rw [eq]; omega)), pk_lDiv hlt (by omega) (by omega), show fr 27 (c :: t) / 27 = fr 27 t from by rw [eq, Nat.mul_add_div (by omega), Nat.div_eq_of_lt (show c < 27 by omega), Nat.add_zero], r_wordR t fu n g ct (fun x hx => hc x (List.mem_cons_of_mem _ hx)) (by omega) (by omega), bo_some, tail _ _ _ (by omega), List.reverse_cons, mp_app, apB_app, mp_len, List.length_reverse]
      rfl
theorem r_word {v : XM} {l : List Nat} {n : Nat} {g : Nat → Int32} (hl : okW l) (hn : n + l.length ≤ 64) : F_X12_writeWord (RC7 v n g) (lN (eN 27 l)) = some (RC7 v (n + l.length) (apB g n (mp l))) := by
  have h1 := hl.1
  have := r_wordR (v := v) l.reverse (40 - l.length) n g (fun q => by have := congrArg List.length q; rw [List.length_reverse, show ([] : List Nat).length = 0 from rfl] at this; omega) (fun c hc => hl.2 c (List.mem_reverse.mp hc)) (by rw [List.length_reverse]; omega) (by rw [List.length_reverse]; omega)
  rw [List.length_reverse, List.reverse_reverse, ← eN_fr, List.reverse_reverse, Nat.sub_add_cancel (by omega)] at this
  exact this
theorem r_next {v : XM} {l : List Nat} {n : Nat} {g : Nat → Int32} (hl : okW l) (hn : n + l.length + 1 ≤ 64) : f_X12_writeNext (RC7 v n g) (lN (eN 27 l)) = some (RC7 v (n + (l.length + 1)) (apB g n (32 :: mp l))) := by
  unfold f_X12_writeNext
  rw [show (32 : Int32) = nI 32 from rfl, r_write (by omega), bo_some, r_word hl (by omega), bo_some, show n + 1 + l.length = n + (l.length + 1) by omega]
  rfl
theorem r_num {v : XM} {d n : Nat} {g : Nat → Int32} (hd : d ≤ 9) (hn : n < 64) : F_X12_writeNumber (RC7 v n g) (nI d) = some (RC7 v (n + 1) (up g n (nI (48 + d)))) := by
  show f_X12_writeNumber (g_wn 19) _ _ = _
  unfold f_X12_writeNumber f_X12_writeNumber_14
  rw [if_pos (show nI d ≤ (9 : Int32) from nI_le (b := 9) (by omega) (by omega)), lt_eq, show (10 : Int32) = nI 10 from rfl, pk_rem (by omega) (by omega) (by omega), Nat.mod_eq_of_lt (by omega), show (48 : Int32) = nI 48 from rfl, nI_add, r_write hn, bo_some]
