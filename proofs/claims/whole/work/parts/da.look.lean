-- tags, the call.
section DA
variable {nS nF nT nW bB who s left : Nat} {v w u v' w' T : XM} {x : Int32} {lw ls : List Nat} {g : Nat → Int32}
theorem r_124 (h : RW nS nF nT nW bB u v) (hw : who < nW) {A : List Nat} (hn : A.length + 5 ≤ 64) : wp (f_X12_tag_124 (RB7 v g A) (nI who)) (fun r => ∃ G, r = (nI (A ++ tgL (lsB nS v who)).length, RB7 (x_row v 11 G) g (A ++ tgL (lsB nS v who)))) := by
  have h' : RW nS nF nT nW bB u (RB7 v g A) := h.cong (fun _ _ _ => rfl) (fun _ _ => by rw [rb_2])
  obtain ⟨r, e, G, rfl⟩ := r_isLost h' hw
  rw [lsB_congr (v' := RB7 v g A) h rb_2 hw] at e
  unfold f_X12_tag_124
  rw [e, bo_some, rb_11]
  dsimp only
  cases lsB nS v who with
  | false =>
    rw [if_pos bIf, wp_some, rb_0]
    refine ⟨G, ?_⟩
    rw [show tgL false = [] from rfl, List.append_nil]
  | true =>
    rw [if_neg (show ¬ bI true = 0 by decide), lt_eq, sp_lost, rb_next (by unfold okW; decide) (by show A.length + 4 + 1 ≤ 64; omega), bo_some, wp_some, rb_0]
    exact ⟨G, rfl⟩
theorem r_61 (h : RW nS nF nT nW bB u v) (hw : who < nW) (es : v.1 2 (74 + who) = nI s) (hs : s < nS) (el : v.1 2 (84 + who) = nI left) (hl : left ≤ 9) (h2 : okW ls) (e2 : v.2 7 s = lN (eN 27 ls)) {A wd : List Nat} (hn : A.length ≤ 7) (hd : okW wd) (hd2 : wd.length = 2) : wp (f_X12_tag_61 (RB7 v g A) (nI who) (lN (eN 27 wd))) (fun r => ∃ G, r = (nI (A ++ (32 :: mp wd) ++ (32 :: mp ls) ++ tgD (goB v who) left ++ tgL (lsB nS v who)).length, RB7 (x_row v 11 G) g (A ++ (32 :: mp wd) ++ (32 :: mp ls) ++ tgD (goB v who) left ++ tgL (lsB nS v who)))) := by
  have hb := h.b
  have l2 := h2.1
  have ga : ∀ B, x_ga (RB7 v g B) 2 (nI (74 + who)) = nI s := fun B => by rw [ga_in (by omega), rb_2]; exact es
  have gb : ∀ B, x_ga (RB7 v g B) 2 (nI (84 + who)) = nI left := fun B => by rw [ga_in (by omega), rb_2]; exact el
  have gl : ∀ B, x_gl (RB7 v g B) 7 (nI s) = lN (eN 27 ls) := fun B => by
    unfold x_gl; rw [nI_clamp (by omega)]; exact e2
  have gg : ∀ B, f_X12_isGoing (RB7 v g B) (nI who) = some (bI (goB v who)) := fun B => by
    rw [r_isGoing (by omega)]; unfold goB; rw [rb_2]
  unfold f_X12_tag_61
  rw [rb_next hd (by omega), bo_some, show (74 : Int32) = nI 74 from rfl, nI_add, ck_in (by omega) (by omega), ga, ck_in (by omega) (by omega), gl, rb_next h2 (by rw [List.length_append, List.length_cons, mp_len]; omega), bo_some, gg, bo_some]
  have len : (A ++ (32 :: mp wd) ++ (32 :: mp ls)).length ≤ 18 := by
    rw [List.length_append, List.length_append, List.length_cons, List.length_cons, mp_len, mp_len]; omega
  generalize A ++ (32 :: mp wd) ++ (32 :: mp ls) = B at len ⊢
  cases hg : goB v who with
  | false =>
    rw [if_pos bIf, show tgD false left = [] from rfl, List.append_nil]
    exact r_124 h hw (by omega)
  | true =>
    rw [if_neg (show ¬ bI true = 0 by decide), lt_eq, sp_in, rb_next (by unfold okW; decide) (by show B.length + 2 + 1 ≤ 64; omega), bo_some, show (32 : Int32) = nI 32 from rfl, rb_write (by rw [List.length_append]; show B.length + 3 < 64; omega), bo_some, show (84 : Int32) = nI 84 from rfl, nI_add, ck_in (by omega) (by omega), gb, rb_num hl (by rw [List.length_append, List.length_append]; show B.length + 3 + 1 < 64; omega), bo_some]
    have e : B ++ 32 :: mp [9, 14] ++ [32] ++ [48 + left] = B ++ tgD true left := by
      rw [List.append_assoc, List.append_assoc]; rfl
    rw [e]
    refine r_124 h hw ?_
    rw [List.length_append]
    show B.length + 5 + 5 ≤ 64
    omega
theorem r_tag (h : RW nS nF nT nW bB u v) (hw : who < nW) (es : v.1 2 (74 + who) = nI s) (hs : s < nS) (el : v.1 2 (84 + who) = nI left) (hl : left ≤ 9) (h1 : okW lw) (h2 : okW ls) (e1 : v.2 7 (14 + who) = lN (eN 27 lw)) (e2 : v.2 7 s = lN (eN 27 ls)) : wp (x_lt (x_si v 0 36 (0 : Int32)) (fun m13 => x_ck ((14 : Int32) + nI who) 19 (x_bo (F_X12_writeWord m13 (x_gl m13 7 ((14 : Int32) + nI who))) (fun y14 => x_bo (f_X12_isGoing y14 (nI who)) (fun y15 => if y15 = (0 : Int32) then (x_lt (f_X12_wordOf (23 : Int32)) (fun y16 => f_X12_tag_61 y14 (nI who) y16)) else (x_lt (f_X12_spelt (116 : Int32) (111 : Int32) (0 : Int32) (0 : Int32) (0 : Int32) (0 : Int32)) (fun y17 => f_X12_tag_61 y14 (nI who) y17))))))) (fun r => ∃ G, r = (nI (tgB (goB v who) (lsB nS v who) lw ls left).length, RB7 (x_row v 11 G) (v.1 16) (tgB (goB v who) (lsB nS v who) lw ls left))) := by
  have hb := h.b
  have l1 := h1.1
  have z0 : x_si v 0 36 (0 : Int32) = RB7 v (v.1 16) [] := by
    unfold RB7 RC7
    rw [si_row]
    show _ = x_row (x_row v 16 (v.1 16)) 0 (up (v.1 0) 36 (nI 0))
    rw [row_self]; rfl
  have gl : x_gl (RB7 v (v.1 16) []) 7 (nI (14 + who)) = lN (eN 27 lw) := by
    unfold x_gl; rw [nI_clamp (by omega)]; exact e1
  have gg : f_X12_isGoing (RB7 v (v.1 16) (mp lw)) (nI who) = some (bI (goB v who)) := by
    rw [r_isGoing (by omega)]; unfold goB; rw [rb_2]
  have hm : (mp lw).length ≤ 7 := by rw [mp_len]; omega
  rw [lt_eq, z0, show (14 : Int32) = nI 14 from rfl, nI_add, ck_in (by omega) (by omega), gl, rb_word h1 (by rw [List.length_nil]; omega), bo_some, List.nil_append, gg, bo_some, sp_to, sp_at]
  cases hg : goB v who with
  | false =>
    rw [if_pos bIf, lt_eq]
    have := r_61 (g := v.1 16) h hw es hs el hl h2 e2 (A := mp lw) (wd := [1, 20]) hm (by unfold okW; decide) rfl
    rw [hg] at this
    have e : mp lw ++ 32 :: mp [1, 20] ++ 32 :: mp ls = mp lw ++ tgT false ++ mp ls := by
      rw [List.append_assoc, List.append_assoc]; rfl
    rw [e] at this
    exact this
  | true =>
    rw [if_neg (show ¬ bI true = 0 by decide), lt_eq]
    have := r_61 (g := v.1 16) h hw es hs el hl h2 e2 (A := mp lw) (wd := [20, 15]) hm (by unfold okW; decide) rfl
    rw [hg] at this
    have e : mp lw ++ 32 :: mp [20, 15] ++ 32 :: mp ls = mp lw ++ tgT true ++ mp ls := by
      rw [List.append_assoc, List.append_assoc]; rfl
    rw [e] at this
    exact this
/-- another tag -/
theorem RelN.tg (h : RelN nS nF nT nW bB w v) (h2 : w'.2 = w.2) (hc : ∀ i, i ≠ 315 → i ≠ 317 → w'.1 i = w.1 i) (hv2 : v'.2 = v.2) (hv : ∀ i, i ≠ 0 → i ≠ 16 → v'.1 i = v.1 i) (hf : ∀ j, j ≠ 36 → v'.1 0 j = v.1 0 j) (hR : RTag w' v') : RelN nS nF nT nW bB w' v' := by
  obtain ⟨a1, a6, a7, a7', a8, a9, a10, a11, -⟩ := h
  have hb := a1.1.1
  refine ⟨a1.congr (fun i p q => hc _ (by omega) (by omega)) (by rw [h2]) (fun i _ => by rw [hv2]) (fun j _ => by rw [hv 2 (by omega) (by omega)]), ?_, a7.congr (by omega) (fun i hi => hc _ (by omega) (by omega)) (by rw [h2]) ⟨hv 10 (by omega) (by omega), hv 4 (by omega) (by omega), by rw [hv2]⟩, a7'.congr (by omega) (fun i hi => hc _ (by omega) (by omega)) (by rw [h2]) ⟨hv 10 (by omega) (by omega), hv 4 (by omega) (by omega), by rw [hv2]⟩, a8.congr ?_ ?_, a9.congr (by rw [h2]), a10.congr ?_ ?_, a11.congr (fun i hi => hc i (by omega) (by omega)) ⟨hf 27 (by omega), hf 31 (by omega), hf 32 (by omega), hf 33 (by omega), hf 34 (by omega)⟩ ⟨hv 12 (by omega) (by omega), hv 15 (by omega) (by omega)⟩, hR⟩
  · rw [hv 2 (by omega) (by omega)]
    exact a6.congr ⟨by omega, by omega⟩ (fun _ _ => rfl) (fun i p q => hc i (by omega) (by omega)) ⟨hv 5 (by omega) (by omega), hf 24 (by omega)⟩
  · rw [hc 1 (by omega) (by omega), hc 3 (by omega) (by omega)]; exact ⟨rfl, rfl, rfl⟩
  · exact ⟨hf 2 (by omega), hf 10 (by omega), hv 1 (by omega) (by omega)⟩
  · exact hc 282 (by omega) (by omega)
  · exact ⟨hf 41 (by omega), hv 18 (by omega) (by omega)⟩
theorem b_tag (h : RelN nS nF nT nW bB w v) (x : Int32) : R2 (f_X11_tag w x) (f_X12_tag v x) Both := by
  have h1 := h.th (x := 0)
  have hb := h.1.1.1
  unfold f_X11_tag f_X12_tag
  rw [show ∀ (f : XM → Option (Int32 × XM)), x_lt (x_si v 0 0 0) f = f (x_si v 0 0 0) from fun f => rfl]
  generalize x_si v 0 0 0 = v1 at h1 ⊢
  rcases h_Walker h1.rw x with ⟨k, hk, rfl, e1, e2⟩ | ⟨-, e1, e2⟩
  · rw [lt_eq, lt_eq, show f_X9_hasWalker (x_sub w 6) (nI k) = 1 from e1, if_neg one0, e2, if_neg one0]
    obtain ⟨r, e3, C, rfl⟩ := c_lost (W := x_sub w 300) h1.rw
    rw [e3, bo_some, lt_eq, put_row (by omega)]
    obtain ⟨s, left, t, hs, hl, -, es, el, -, -⟩ := h1.rw.wlk hk
    have hN := h1.wn.2.1.1
    obtain ⟨lw, o1, a1, b1⟩ := hN (14 + k) (by omega) (Or.inr (Or.inr ⟨by omega, by omega⟩))
    obtain ⟨ls, o2, a2, b2⟩ := hN s (by omega) (Or.inl hs)
    have hu : RW nS nF nT nW bB (x_sub (x_row w (2 + 300) C) 5) v1 := h1.rw.cong (fun i a b => by
      show (x_row w (2 + 300) C).1 (i + 5) = w.1 (i + 5)
      rw [row_off (by omega)]) (fun _ _ => rfl)
    have key := c_write (T := x_sub (x_row w (2 + 300) C) 315) hu hk es hs el o1 o2 a1 a2 (lsB nS v1 k)
    have hrr := r_tag hu hk es hs el hl o1 o2 b1 b2
    obtain ⟨r, e5, G, rfl⟩ := hrr
    rw [e5]
    have len := tg_len (left := left) (go := goB v1 k) (lo := lsB nS v1 k) o1 o2
    have e6 : f_X11_tag_49 (x_row w (2 + 300) C) (nI k) (bI (lsB nS v1 k)) = some (nI (tgB (goB v1 k) (lsB nS v1 k) lw ls left).length, x_put (x_row w (2 + 300) C) 315 3 (SB (x_sub (x_row w (2 + 300) C) 315) ((x_sub (x_row w (2 + 300) C) 315).1 2) (tgB (goB v1 k) (lsB nS v1 k) lw ls left))) := by
      unfold f_X11_tag_49
      rw [key, bo_some, lt_eq, put_inn (by omega)]
      unfold SB TC
      rw [show 315 - 315 = 0 from rfl, row_at, up_eq]
    have e7 : (if (((bs (lsB nS v1) nW >>> (nI k &&& 31)) &&& (1 : Int32)) : Int32) = (1 : Int32) then f_X11_tag_49 (x_row w (2 + 300) C) (nI k) (1 : Int32) else f_X11_tag_49 (x_row w (2 + 300) C) (nI k) (0 : Int32)) = f_X11_tag_49 (x_row w (2 + 300) C) (nI k) (bI (lsB nS v1 k)) := by
      rw [b_get (by omega), b_bs (by omega) (by omega), decide_eq_true hk, Bool.true_and]
      cases lsB nS v1 k with
      | true => rw [if_pos (by decide)]; rfl
      | false => rw [if_neg (by decide)]; rfl
    rw [e7, e6]
    generalize tgB (goB v1 k) (lsB nS v1 k) lw ls left = B at len ⊢
    refine R2_some ⟨rfl, ?_⟩
    have hr : RelN nS nF nT nW bB (x_row w (2 + 300) C) (x_row v1 11 G) := h1.scr C G
    clear e7 e6 key hu e5 e3
    generalize x_row w (2 + 300) C = w1 at hr ⊢
    generalize x_row v1 11 G = v2 at hr ⊢
    have q2 : (SB (x_sub w1 315) ((x_sub w1 315).1 2) B).2 = (x_sub w1 315).2 := rfl
    have q3 : (RB7 v2 (v1.1 16) B).2 = v2.2 := rfl
    refine (hr.tg (put_2 q2) (fun i p q => ?_) q3 (fun i p q => ?_) (fun j p => ?_) ?_).rel
    · by_cases c : 315 ≤ i ∧ i < 318
      · have : i = 316 := by omega
        subst this
        rw [put_inn (by omega)]
        unfold SB TC
        rw [row_off (by omega), row_off (by omega)]; rfl
      · rw [put_out (by omega)]
    · unfold RB7 RC7
      rw [row_off p, row_off q]
    · unfold RB7 RC7
      rw [row_at, up_ne p]
    · refine ⟨B.length, len, ?_, rb_0, fun i hi => ?_⟩
      · rw [put_inn (by omega)]
        unfold SB TC
        rw [show 315 - 315 = 0 from rfl, row_at, up_eq]
      · rw [put_inn (by omega)]
        unfold SB TC RB7 RC7
        rw [show 317 - 315 = 2 from rfl, row_off (by omega), row_at, row_off (by omega), row_at]
        exact apB_eq B _ _ 0 i (Nat.zero_le _) (by omega)
  · rw [lt_eq, lt_eq, show f_X9_hasWalker (x_sub w 6) x = 0 from e1, if_pos rfl, e2, if_pos rfl]
    exact R2_some ⟨rfl, h1.rel⟩
end DA
