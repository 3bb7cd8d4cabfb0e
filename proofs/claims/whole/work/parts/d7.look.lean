-- tags: letters put down.
theorem l_sh : ∀ k, k < 64 → ((nI k).toInt64 &&& 63) = lN k := by decide +kernel
theorem l_sm : ∀ k, k < 64 → ((lN k).toBitVec.smod 64).toNat = k := by decide +kernel
theorem l_bv {n : Nat} (hn : n < 2 ^ 63) : (lN n).toBitVec.toNat = n := by
  show (BitVec.ofNat 64 n).toNat = n
  rw [BitVec.toNat_ofNat, Nat.mod_eq_of_lt (by omega)]
theorem l_dig {n k : Nat} (hn : n < 2 ^ 63) (hk : k < 64) : ((lN n) >>> ((nI k).toInt64 &&& 63)) &&& (31 : Int64) = lN (n / 2 ^ k % 32) := by
  rw [l_sh k hk]
  apply Int64.toBitVec_inj.mp
  apply BitVec.eq_of_toNat_eq
  have e1 : n / 2 ^ k % 32 < 2 ^ 63 := by
    have : n / 2 ^ k % 32 < 32 := Nat.mod_lt _ (by omega)
    omega
  have hm : (lN n).toBitVec.msb = false := by
    rw [BitVec.msb_eq_decide, l_bv hn]; simp; omega
  rw [Int64.toBitVec_and, Int64.toBitVec_shiftRight, BitVec.toNat_and, l_bv e1]
  show ((lN n).toBitVec.sshiftRight ((lN k).toBitVec.smod 64).toNat).toNat &&& (31 : Nat) = _
  rw [l_sm k hk, BitVec.sshiftRight_eq_of_msb_false hm, BitVec.toNat_ushiftRight, l_bv hn, Nat.shiftRight_eq_div_pow]
  exact Nat.and_two_pow_sub_one_eq_mod _ 5
/-- bytes put down one after another -/
def apB (g : Nat → Int32) (n : Nat) : List Nat → Nat → Int32
  | [] => g
  | b :: t => apB (up g n (nI b)) (n + 1) t
theorem apB_app : ∀ (A B : List Nat) (g : Nat → Int32) (n : Nat), apB g n (A ++ B) = apB (apB g n A) (n + A.length) B
  | [], B, g, n => rfl
  | a :: A, B, g, n => by
    show apB (up g n (nI a)) (n + 1) (A ++ B) = _
    rw [apB_app A B, List.length_cons, show n + 1 + A.length = n + (A.length + 1) by omega]; rfl
theorem apB_lt : ∀ (B : List Nat) (g : Nat → Int32) (n i : Nat), i < n → apB g n B i = g i
  | [], g, n, i, _ => rfl
  | b :: t, g, n, i, h => by
    show apB (up g n (nI b)) (n + 1) t i = g i
    rw [apB_lt t _ _ i (by omega), up_ne (by omega)]
theorem apB_eq : ∀ (B : List Nat) (g h : Nat → Int32) (n i : Nat), n ≤ i → i < n + B.length → apB g n B i = apB h n B i
  | [], g, h, n, i, p, q => by rw [show ([] : List Nat).length = 0 from rfl] at q; omega
  | b :: t, g, h, n, i, p, q => by
    rw [List.length_cons] at q
    show apB (up g n (nI b)) (n + 1) t i = apB (up h n (nI b)) (n + 1) t i
    by_cases c : i = n
    · subst c; rw [apB_lt t _ _ i (by omega), apB_lt t _ _ i (by omega), up_eq, up_eq]
    · exact apB_eq t _ _ _ i (by omega) (by omega)
theorem up_up {g : Nat → Int32} {k : Nat} {x y : Int32} : up (up g k x) k y = up g k y := by
  funext j
  by_cases c : j = k
  · subst c; rw [up_eq, up_eq]
  · rw [up_ne c, up_ne c, up_ne c]
/-- letters as bytes -/
def mp (l : List Nat) : List Nat := l.map (fun c => 96 + c)
theorem mp_len (l : List Nat) : (mp l).length = l.length := List.length_map _
theorem mp_app (a b : List Nat) : mp (a ++ b) = mp a ++ mp b := List.map_append
/-- the class's tag -/
def TC (m : XM) (n : Nat) (g : Nat → Int32) : XM := x_row (x_row m 2 g) 0 (up (m.1 0) 1 (nI n))
/-- the reference's -/
def RC7 (v : XM) (n : Nat) (g : Nat → Int32) : XM := x_row (x_row v 16 g) 0 (up (v.1 0) 36 (nI n))
theorem c_byte {m : XM} {n : Nat} {g : Nat → Int32} {x : Int32} (hn : n < 32) : f_X7_addByte (TC m n g) x = TC m (n + 1) (up g n x) := by
  have e0 : (TC m n g).1 0 = up (m.1 0) 1 (nI n) := row_at
  have e2 : (TC m n g).1 2 = g := by unfold TC; rw [row_off (by omega), row_at]
  unfold f_X7_addByte
  rw [e0, up_eq, rp_in hn (by omega), lt_eq, put_row (by omega), lt_eq, lt_eq, si_row, show 1 + 1 = 2 from rfl, show (x_sub (TC m n g) 1).1 1 = g from e2, row_off (by omega), e0, up_eq, up_up, nI_1]
  unfold TC
  rw [row_comm (by omega), row_row, row_comm (i := 0) (k := 2) (by omega), row_row]
theorem eN_lb (b : Nat) : ∀ (q : List Nat) (a : Nat), q.foldl (fun a c => b * a + c) a = a * b ^ q.length + eN b q
  | [], a => by show a = a * b ^ 0 + 0; rw [Nat.pow_zero]; omega
  | c :: t, a => by
    show t.foldl _ (b * a + c) = a * b ^ (t.length + 1) + t.foldl _ (b * 0 + c)
    rw [eN_lb b t, eN_lb b t (b * 0 + c), Nat.pow_succ, Nat.mul_zero, Nat.zero_add, Nat.add_mul, Nat.add_assoc, Nat.mul_comm b a, Nat.mul_assoc a b, Nat.mul_comm b]
theorem eN_app (b : Nat) (p q : List Nat) : eN b (p ++ q) = eN b p * b ^ q.length + eN b q := by
  unfold eN; rw [List.foldl_append]; exact eN_lb b q _
theorem eN_plt {b : Nat} (hb : 27 ≤ b) {l : List Nat} (h : ∀ c ∈ l, 1 ≤ c ∧ c ≤ 26) : eN b l < b ^ l.length := by
  have := fr_lt hb l.reverse (fun c hc => h c (List.mem_reverse.mp hc))
  rwa [← eN_fr, List.reverse_reverse, List.length_reverse] at this
theorem eN_dig {p q : List Nat} {c : Nat} (h : ∀ x ∈ p ++ c :: q, 1 ≤ x ∧ x ≤ 26) : eN 32 (p ++ c :: q) / 2 ^ (5 * q.length) % 32 = c := by
  have h1 := h c (by simp)
  have h2 := eN_plt (b := 32) (by omega) (l := q) (fun x hx => h x (by simp [hx]))
  have e : 2 ^ (5 * q.length) = 32 ^ q.length := by rw [Nat.pow_mul]
  rw [show p ++ c :: q = (p ++ [c]) ++ q by simp, eN_app, e, Nat.add_comm, Nat.add_mul_div_right _ _ (Nat.pow_pos (by omega)), Nat.div_eq_of_lt h2, Nat.zero_add, eN_snoc, Nat.mul_add_mod]
  exact Nat.mod_eq_of_lt (by omega)
theorem lp_s {φ : Type} {z : φ} {b : φ → φ} {k : Nat} : x_lp z b (k + 1) = b (x_lp z b k) := rfl
/-- how far down for the j-th letter from behind -/
def shj (j : Nat) : Int32 := nI (5 * j) + (-5)
theorem shj_0 : ∀ j, j < 8 → (shj j < 0 ↔ j = 0) ∧ shj (j + 1) = nI (5 * j) ∧ nI (5 * j) + (-5) = shj j := by decide +kernel
theorem c_nameL {l : List Nat} {m : XM} (hl : okW l) (fu0 : Nat) : ∀ (j : Nat) (p q : List Nat) (n : Nat) (g : Nat → Int32), l = p ++ q → j ≤ 7 → q.length = min j l.length → n + q.length ≤ 32 → x_lp (φ := XM → Int64 → Int32 → Option (XM)) (fun _ _ _ => none) f_X7_addName_3 (fu0 + j + 1) (TC m n g) (lN (eN 32 l)) (shj j) = some (TC m (n + q.length) (apB g n (mp q)))
  | 0, p, q, n, g, e, hj, hq, hn => by
    rw [show fu0 + 0 + 1 = fu0 + 1 from rfl, lp_s]
    unfold f_X7_addName_3
    have : q = [] := List.eq_nil_of_length_eq_zero (by omega)
    subst this
    rw [if_pos ((shj_0 0 (by omega)).1.mpr rfl)]; rfl
  | j + 1, p, q, n, g, e, hj, hq, hn => by
    have hlt := eN_lt (b := 32) (by omega) (by omega) hl.2 (by have := hl.1; omega)
    rw [show fu0 + (j + 1) + 1 = (fu0 + j + 1) + 1 from rfl, lp_s]
    unfold f_X7_addName_3 f_X7_addName_33
    rw [if_neg (fun k => absurd ((shj_0 (j + 1) (by omega)).1.mp k) (by omega)), (shj_0 j (by omega)).2.1, l_dig hlt (by omega), lt_eq, (shj_0 j (by omega)).2.2]
    by_cases c : l.length ≤ j
    · have e0 : eN 32 l / 2 ^ (5 * j) % 32 = 0 := by
        have h1 := eN_plt (b := 32) (by omega) hl.2
        have h2 : 32 ^ l.length ≤ 32 ^ j := Nat.pow_le_pow_right (by omega) c
        rw [show 2 ^ (5 * j) = 32 ^ j by rw [Nat.pow_mul], Nat.div_eq_of_lt (by omega)]
      rw [e0, if_pos (by decide)]
      exact c_nameL hl fu0 j p q n g e (by omega) (by omega) hn
    · obtain ⟨x, t, rfl⟩ : ∃ x t, q = x :: t := by
        cases q with
        | nil => rw [show ([] : List Nat).length = 0 from rfl] at hq; omega
        | cons x t => exact ⟨x, t, rfl⟩
      rw [List.length_cons] at hq hn
      have ht : t.length = j := by omega
      have hx := hl.2 x (by rw [e]; simp)
      have ed : eN 32 l / 2 ^ (5 * j) % 32 = x := by
        rw [← ht, e]; exact eN_dig (fun y hy => hl.2 y (by rw [e]; exact hy))
      rw [ed, lN_i, if_neg (show ¬ nI x ≤ 0 from by rw [kl_0, nI_leI (by omega) (by omega)]; omega), lt_eq, lt_eq, show (97 : Int32) = nI 97 from rfl, nI_add, (nI_m1 (n := 97 + x) (by omega)).2, c_byte (by omega)]
      refine (c_nameL hl fu0 j (p ++ [x]) t (n + 1) (up g n (nI (97 + x - 1))) (by rw [e]; simp) (by omega) (by omega) (by omega)).trans ?_
      rw [List.length_cons, show n + 1 + t.length = n + (t.length + 1) by omega, show 97 + x - 1 = 96 + x by omega]
      rfl
theorem c_addName {l : List Nat} {m : XM} {n : Nat} {g : Nat → Int32} (hl : okW l) (hn : n + l.length ≤ 32) : f_X7_addName (TC m n g) (lN (eN 32 l)) = some (TC m (n + l.length) (apB g n (mp l))) := by
  unfold f_X7_addName
  have := c_nameL (m := m) hl (x_NN - 8) 7 [] l n g rfl (by omega) (by have := hl.1; omega) hn
  rwa [show x_NN - 8 + 7 + 1 = x_NN by decide, show shj 7 = 30 by decide] at this
