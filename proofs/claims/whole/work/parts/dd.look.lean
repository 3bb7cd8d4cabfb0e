-- the law comes to its end with true.
section LAW2
variable {nS nF nT nW bB i L : Nat} {xs : Nat → Int32} {w v w2 : XM} {k : XM → XM → XM → Int32 → Option (Int32)}
theorem l_end6 : ∀ L, L < 6 → (Int32.ofNat L) - (6 : Int32) < nI 0 := by decide
theorem l_end (hL : L ≤ 3072) (h : L < i + 6) (hi : i ≤ 3072) (h6 : i = 0 ∨ 6 ≤ L) : f_L_law_23 L xs k w v w2 (nI i) = some 1 := by
  unfold f_L_law_23
  refine if_pos ?_
  by_cases c : L < 6
  · rcases h6 with rfl | h6
    · exact l_end6 L c
    · omega
  · show nI L - nI 6 < nI i
    rw [pk_sub (by omega)]
    exact nI_lt (by omega) (by omega)
theorem l_step (h : Rel w v) (hi : i + 6 ≤ L) (hL : L ≤ 3072) (hk : Kp i k) : f_L_law_23 L xs k w v w2 (nI i) = some 1 := by
  have h0 := h
  obtain ⟨nS, nF, nT, nW, bB, h⟩ := h
  have c0 : ¬ (Int32.ofNat L) - (6 : Int32) < nI i := by
    show ¬ nI L - nI 6 < nI i
    rw [pk_sub (by omega)]
    exact nI_ge' (show i ≤ L - 6 by omega) (by omega)
  unfold f_L_law_23
  rw [if_neg c0, ck_in (by omega) (by omega)]
  refine l_ite (l_220 h hi hL hk) ?_
  refine l_ite (l_293 h hi hL hk) ?_
  refine l_ite (l_318 h hi hL hk) ?_
  refine l_ite (l_331 h hi hL hk) ?_
  refine l_ite (l_344 h hi hL hk) ?_
  refine l_ite (l_412 h hi hL hk) ?_
  refine l_ite (l_449 h hi hL hk) ?_
  refine l_ite (l_486 h hi hL hk) ?_
  refine l_ite (l_511 h hi hL hk) ?_
  refine l_ite (l_548 h hi hL hk) ?_
  refine l_ite (l_585 h hi hL hk) ?_
  refine l_ite (l_622 h hi hL hk) ?_
  refine l_ite (l_647 h hi hL hk) ?_
  refine l_ite (l_672 h hi hL hk) ?_
  refine l_ite (l_709 h hi hL hk) ?_
  refine l_ite (l_734 h hi hL hk) ?_
  refine l_ite (l_759 h hi hL hk) ?_
  refine l_ite (l_772 h hi hL hk) ?_
  refine l_ite (l_809 h hi hL hk) ?_
  refine l_ite (l_846 h hi hL hk) ?_
  refine l_ite (l_871 h hi hL hk) ?_
  refine l_ite (l_896 h hi hL hk) ?_
  refine l_ite (l_921 h hi hL hk) ?_
  refine l_ite (l_946 h hi hL hk) ?_
  refine l_ite (l_983 h hi hL hk) ?_
  refine l_ite (l_996 h hi hL hk) ?_
  refine l_ite (l_1021 h hi hL hk) ?_
  refine l_ite (l_1034 h hi hL hk) ?_
  refine l_ite (l_1047 h hi hL hk) ?_
  refine l_ite (l_1060 h hi hL hk) ?_
  refine l_ite (l_1128 h hi hL hk) ?_
  refine l_ite (l_1153 h hi hL hk) ?_
  refine l_ite (l_1178 h hi hL hk) ?_
  refine l_ite (l_1215 h hi hL hk) ?_
  refine l_ite (l_1264 h hi hL hk) ?_
  refine l_ite (l_1289 h hi hL hk) ?_
  refine l_ite (l_1314 h hi hL hk) ?_
  refine l_ite (l_1327 h hi hL hk) ?_
  refine l_ite (l_1352 h hi hL hk) ?_
  refine l_ite (l_1377 h hi hL hk) ?_
  refine l_ite (l_1402 h hi hL hk) ?_
  exact l_1427 h0 hk
theorem l_all (hL : L ≤ 3072) : ∀ (d fu i : Nat) (w v w2 : XM), Rel w v → (i = 0 ∨ (6 ≤ L ∧ i ≤ L)) → L < i + 6 * d + 6 → d < fu → x_lp (φ := XM → XM → XM → Int32 → Option (Int32)) (fun _ _ _ _ => none) (f_L_law_23 L xs) fu w v w2 (nI i) = some 1
  | d, 0, i, w, v, w2, h, h6, hd, hf => absurd hf (Nat.not_lt_zero _)
  | d, fu + 1, i, w, v, w2, h, h6, hd, hf => by
    rw [lp_s]
    by_cases c : L < i + 6
    · exact l_end hL c (by omega) (by omega)
    · obtain ⟨d, rfl⟩ : ∃ e, d = e + 1 := ⟨d - 1, by omega⟩
      have ih := l_all hL d fu (i + 6)
      generalize x_lp (φ := XM → XM → XM → Int32 → Option (Int32)) (fun _ _ _ _ => none) (f_L_law_23 L xs) fu = K at ih ⊢
      refine l_step h (by omega) hL (fun w v w2 hr => ?_)
      rw [show nI i + 6 = nI (i + 6) from nI_add i 6]
      exact ih w v w2 hr (by omega) (by omega) (by omega)
theorem law_true (hL : L ≤ 3072) : F_law L xs = some 1 := l_all hL 512 1000 0 y_V0 y_V1 y_V2 rel0 (Or.inl rfl) (by omega) (by omega)
end LAW2
