-- tags, the call.
section D9
variable {nS nF nT nW bB who s left : Nat} {v w u v' w' T : XM} {x : Int32} {lw ls : List Nat} {g : Nat → Int32}
/-- the class's tag with these bytes; the reference's -/
def SB (m : XM) (g : Nat → Int32) (A : List Nat) : XM := TC m A.length (apB g 0 A)
def RB7 (v : XM) (g : Nat → Int32) (A : List Nat) : XM := RC7 v A.length (apB g 0 A)
theorem sb_name {m : XM} {A l : List Nat} (hl : okW l) (hn : A.length + l.length ≤ 32) : f_X7_addName (SB m g A) (lN (eN 32 l)) = some (SB m g (A ++ mp l)) := by
  unfold SB
  rw [c_addName hl hn, apB_app, List.length_append, mp_len, Nat.zero_add]
theorem sb_text {m : XM} {A : List Nat} {k L : Nat} (hk : k < 4) (hL : (tx (k + 1)).length = L) (hn : A.length + L ≤ 32) : f_X7_addText (SB m g A) (k + 1) = some (SB m g (A ++ tx (k + 1))) := by
  unfold SB
  rw [c_addText hk hL hn, apB_app, List.length_append, hL, Nat.zero_add]
theorem sb_digit {m : XM} {A : List Nat} {d : Nat} (hn : A.length < 32) : f_X7_addDigit (SB m g A) (nI d) = SB m g (A ++ [48 + d]) := by
  unfold SB f_X7_addDigit
  rw [lt_eq, show (48 : Int32) = nI 48 from rfl, nI_add, c_byte hn, apB_app, List.length_append, Nat.zero_add]
  rfl
theorem rb_word {A l : List Nat} (hl : okW l) (hn : A.length + l.length ≤ 64) : F_X12_writeWord (RB7 v g A) (lN (eN 27 l)) = some (RB7 v g (A ++ mp l)) := by
  unfold RB7
  rw [r_word hl hn, apB_app, List.length_append, mp_len, Nat.zero_add]
theorem rb_next {A l : List Nat} (hl : okW l) (hn : A.length + l.length + 1 ≤ 64) : f_X12_writeNext (RB7 v g A) (lN (eN 27 l)) = some (RB7 v g (A ++ 32 :: mp l)) := by
  unfold RB7
  rw [r_next hl hn, apB_app, List.length_append, List.length_cons, mp_len, Nat.zero_add]
theorem rb_write {A : List Nat} {b : Nat} (hn : A.length < 64) : f_X12_write (RB7 v g A) (nI b) = some (RB7 v g (A ++ [b])) := by
  unfold RB7
  rw [r_write hn, apB_app, List.length_append, Nat.zero_add]
  rfl
theorem rb_num {A : List Nat} {d : Nat} (hd : d ≤ 9) (hn : A.length < 64) : F_X12_writeNumber (RB7 v g A) (nI d) = some (RB7 v g (A ++ [48 + d])) := by
  unfold RB7
  rw [r_num hd hn, apB_app, List.length_append, Nat.zero_add]
  rfl
theorem rb_0 {A : List Nat} : (RB7 v g A).1 0 36 = nI A.length := by
  unfold RB7 RC7
  rw [row_at, up_eq]
theorem rb_2 {A : List Nat} : (RB7 v g A).1 2 = v.1 2 := by
  unfold RB7 RC7
  rw [row_off (by omega), row_off (by omega)]
theorem rb_11 {A : List Nat} {G : Nat → Int32} : x_row (RB7 v g A) 11 G = RB7 (x_row v 11 G) g A := by
  unfold RB7 RC7
  rw [row_comm (i := 0) (k := 11) (by omega), row_comm (i := 16) (k := 11) (by omega), row_off (j := 0) (i := 11) (by omega)]
theorem c_nmAt {d : XM} {i : Nat} (hi : i < 19) : f_X9_nameAt d (nI i) = some (d.2 15 i) := by
  unfold f_X9_nameAt
  rw [if_neg (nI_pos (by omega)), if_neg (show ¬ (19 : Int32) ≤ nI i from nI_ge (b := 19) (by omega) (by omega)), ck_in hi (by omega), show x_gl d 15 (nI i) = d.2 15 i from by unfold x_gl; rw [nI_clamp (by omega)]]
theorem sp_at : f_X12_wordOf (23 : Int32) = lN (eN 27 [1, 20]) := by decide +kernel
theorem sp_lost : f_X12_wordOf (22 : Int32) = lN (eN 27 [12, 15, 19, 20]) := by decide +kernel
theorem sp_to : f_X12_spelt (116 : Int32) (111 : Int32) (0 : Int32) (0 : Int32) (0 : Int32) (0 : Int32) = lN (eN 27 [20, 15]) := by decide +kernel
theorem sp_in : f_X12_spelt (105 : Int32) (110 : Int32) (0 : Int32) (0 : Int32) (0 : Int32) (0 : Int32) = lN (eN 27 [9, 14]) := by decide +kernel
/-- what a tag says behind the spot -/
def tgL (b : Bool) : List Nat := if b = true then tx 4 else []
def tgD (b : Bool) (left : Nat) : List Nat := if b = true then tx 3 ++ [48 + left] else []
def tgT (b : Bool) : List Nat := if b = true then tx 1 else tx 2
def tgB (go lo : Bool) (lw ls : List Nat) (left : Nat) : List Nat := mp lw ++ tgT go ++ mp ls ++ tgD go left ++ tgL lo
theorem tg_len {go lo : Bool} (h1 : okW lw) (h2 : okW ls) : (tgB go lo lw ls left).length ≤ 32 := by
  have := h1.1
  have := h2.1
  unfold tgB
  rw [List.length_append, List.length_append, List.length_append, List.length_append, mp_len, mp_len]
  have e1 : (tgT go).length = 4 := by cases go <;> rfl
  have e2 : (tgD go left).length ≤ 5 := by cases go <;> simp [tgD, tx]
  have e3 : (tgL lo).length ≤ 5 := by cases lo <;> simp [tgL, tx]
  omega
theorem c_92 {A : List Nat} {lo : Bool} (hn : A.length ≤ 27) : f_X7_write_92 u (SB T g A) (bI lo) = some (SB T g (A ++ tgL lo)) := by
  unfold f_X7_write_92 tgL
  cases lo with
  | false => rw [if_pos bIf, if_neg ft, List.append_nil]
  | true => rw [if_neg (show ¬ bI true = 0 by decide), sb_text (k := 3) (L := 5) (by omega) rfl (by omega), bo_some, if_pos rfl]
theorem c_write (h : RW nS nF nT nW bB u v) (hw : who < nW) (es : v.1 2 (74 + who) = nI s) (hs : s < nS) (el : v.1 2 (84 + who) = nI left) (h1 : okW lw) (h2 : okW ls) (e1 : u.2 16 (14 + who) = lN (eN 32 lw)) (e2 : u.2 16 s = lN (eN 32 ls)) (lo : Bool) : f_X7_write T u (nI who) (bI lo) = some (SB T (T.1 2) (tgB (goB v who) lo lw ls left)) := by
  have hb := h.b
  have l1 := h1.1
  have l2 := h2.1
  have z0 : x_si T 0 1 (0 : Int32) = SB T (T.1 2) [] := by
    unfold SB TC
    rw [si_row]
    show _ = x_row (x_row T 2 (T.1 2)) 0 (up (T.1 0) 1 (nI 0))
    rw [row_self]; rfl
  have n1 : f_X9_nameAt (x_sub u 1) ((14 : Int32) + nI who) = some (lN (eN 32 lw)) := by
    rw [show (14 : Int32) = nI 14 from rfl, nI_add, c_nmAt (by omega)]; exact congrArg some e1
  have r5 : r_get 5 (x_sub u 18) (nI who) = nI s := by rw [rg_in (by omega) (by omega), ← es]; exact h.at_ hw
  have r6 : r_get 5 (x_sub u 22) (nI who) = nI left := by rw [rg_in (by omega) (by omega), ← el]; exact h.left hw
  have n2 : f_X9_nameAt (x_sub u 1) ((0 : Int32) + nI s) = some (lN (eN 32 ls)) := by
    rw [show (0 : Int32) = nI 0 from rfl, nI_add, Nat.zero_add, c_nmAt (by omega)]; exact congrArg some e2
  unfold f_X7_write
  simp only [lt_eq]
  rw [z0, n1, bo_some, sb_name h1 (by rw [List.length_nil]; omega), bo_some, List.nil_append, c_isGoing h hw, r5, n2, r6]
  cases hg : goB v who with
  | false =>
    rw [if_pos bIf, sb_text (k := 1) (L := 4) (by omega) rfl (by rw [mp_len]; omega), bo_some, bo_some, sb_name h2 (by rw [List.length_append, mp_len]; show _ + 4 + _ ≤ _; omega), bo_some, if_pos bIf, c_92 (by rw [List.length_append, List.length_append, mp_len, mp_len]; show _ + 4 + _ ≤ _; omega)]
    unfold tgB tgD tgT
    rw [if_neg ft, if_neg ft, List.append_nil]
  | true =>
    rw [if_neg (show ¬ bI true = 0 by decide), sb_text (k := 0) (L := 4) (by omega) rfl (by rw [mp_len]; omega), bo_some, bo_some, sb_name h2 (by rw [List.length_append, mp_len]; show _ + 4 + _ ≤ _; omega), bo_some, if_neg (show ¬ bI true = 0 by decide), sb_text (k := 2) (L := 4) (by omega) rfl (by rw [List.length_append, List.length_append, mp_len, mp_len]; show _ + 4 + _ + _ ≤ _; omega), bo_some, sb_digit (by rw [List.length_append, List.length_append, List.length_append, mp_len, mp_len]; show _ + 4 + _ + 4 < _; omega), c_92 (by rw [List.length_append, List.length_append, List.length_append, List.length_append, mp_len, mp_len]; show _ + 4 + _ + 4 + 1 ≤ _; omega)]
    unfold tgB tgD tgT
    rw [if_pos rfl, if_pos rfl, List.append_assoc (_ ++ _ ++ _) (tx 3)]
end D9
