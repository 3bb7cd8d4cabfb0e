-- images.
section D1
variable {nS nF nT nW bB nS' nF' nT' nW' bB' R k : Nat} {v v' w w' M u d U : XM} {cu cu' : Nat → Nat → Int32} {cl cl' rn rn' : Nat → Int64} {nw nw' : Nat → Int32}
/-- two worlds of the class alike -/
def WEq (a b : Nat → Nat → Int32) : Prop := (∀ j, j < 6 → a 1 j = b 1 j) ∧ (∀ j, j < 12 → a 3 j = b 3 j ∧ a 5 j = b 5 j ∧ a 7 j = b 7 j ∧ a 9 j = b 9 j) ∧ (∀ j, j < 6 → a 11 j = b 11 j) ∧ (∀ j, j < 5 → a 13 j = b 13 j ∧ a 15 j = b 15 j) ∧ StEq (fun i => a (i + 17)) (fun i => b (i + 17)) ∧ a 32 0 = b 32 0 ∧ a 32 1 = b 32 1 ∧ ∀ j, j < 40 → a 34 j = b 34 j ∧ a 36 j = b 36 j ∧ a 38 j = b 38 j
theorem c_become10 (u d : XM) : wp (f_X10_become u d) (fun U => WEq U.1 d.1 ∧ (∀ i, i < 19 → U.2 16 i = d.2 16 i) ∧ U.1 0 = u.1 0) := by
  obtain ⟨V, e, h1, h2, h3, h4, h5⟩ := c_becomeV (x_sub u 1) (x_sub d 1)
  unfold f_X10_become
  rw [e, bo_some, lt_eq, lt_eq, lt_eq, lt_eq, lt_eq, wp_some]
  have eS := become_st (x_sub (x_put u 1 16 V) 17) (x_sub d 17)
  generalize f_X5_become (x_sub (x_put u 1 16 V) 17) (x_sub d 17) = B at eS ⊢
  have eY := c_becomeS (x_sub (x_put (x_put u 1 16 V) 17 15 B) 32) (x_sub d 32)
  generalize f_X4_become (x_sub (x_put (x_put u 1 16 V) 17 15 B) 32) (x_sub d 32) = Y at eY ⊢
  have eV : ∀ i, 1 ≤ i → i < 17 → (x_put (x_put (x_put u 1 16 V) 17 15 B) 32 9 Y).1 i = V.1 (i - 1) := fun i p q => by
    rw [put_out (by omega), put_out (by omega), put_inn (by omega)]
  have eB : ∀ i, i < 15 → (x_put (x_put (x_put u 1 16 V) 17 15 B) 32 9 Y).1 (i + 17) = B.1 i := fun i p => by
    rw [put_out (by omega), put_inn (by omega), Nat.add_sub_cancel]
  have eC : ∀ i, i < 9 → (x_put (x_put (x_put u 1 16 V) 17 15 B) 32 9 Y).1 (i + 32) = Y.1 i := fun i p => by
    rw [put_inn (by omega), Nat.add_sub_cancel]
  obtain ⟨y0, y1, y2, -⟩ := eY
  refine ⟨⟨fun j hj => ?_, fun j hj => ?_, fun j hj => ?_, fun j hj => ?_, ⟨fun j hj => ?_, fun j hj => ?_, fun j hj => ?_⟩, ?_, ?_, fun j hj => ?_⟩, fun i hi => ?_, ?_⟩
  · rw [eV 1 (by omega) (by omega)]; exact h1 j hj
  · rw [eV 3 (by omega) (by omega), eV 5 (by omega) (by omega), eV 7 (by omega) (by omega), eV 9 (by omega) (by omega)]; exact h2 j hj
  · rw [eV 11 (by omega) (by omega)]; exact h3 j hj
  · rw [eV 13 (by omega) (by omega), eV 15 (by omega) (by omega)]; exact h4 j hj
  · show (x_put (x_put (x_put u 1 16 V) 17 15 B) 32 9 Y).1 (0 + 17) j = _
    rw [eB 0 (by omega)]; exact eS.1 j hj
  · show (x_put (x_put (x_put u 1 16 V) 17 15 B) 32 9 Y).1 (2 + 17) j = _ ∧ (x_put (x_put (x_put u 1 16 V) 17 15 B) 32 9 Y).1 (4 + 17) j = _ ∧ (x_put (x_put (x_put u 1 16 V) 17 15 B) 32 9 Y).1 (6 + 17) j = _ ∧ (x_put (x_put (x_put u 1 16 V) 17 15 B) 32 9 Y).1 (8 + 17) j = _ ∧ (x_put (x_put (x_put u 1 16 V) 17 15 B) 32 9 Y).1 (10 + 17) j = _
    rw [eB 2 (by omega), eB 4 (by omega), eB 6 (by omega), eB 8 (by omega), eB 10 (by omega)]; exact eS.2.1 j hj
  · show (x_put (x_put (x_put u 1 16 V) 17 15 B) 32 9 Y).1 (12 + 17) j = _ ∧ (x_put (x_put (x_put u 1 16 V) 17 15 B) 32 9 Y).1 (14 + 17) j = _
    rw [eB 12 (by omega), eB 14 (by omega)]; exact eS.2.2 j hj
  · exact (congrFun (eC 0 (by omega)) 0).trans y0
  · exact (congrFun (eC 0 (by omega)) 1).trans y1
  · rw [show (x_put (x_put (x_put u 1 16 V) 17 15 B) 32 9 Y).1 34 = Y.1 2 from eC 2 (by omega), show (x_put (x_put (x_put u 1 16 V) 17 15 B) 32 9 Y).1 36 = Y.1 4 from eC 4 (by omega), show (x_put (x_put (x_put u 1 16 V) 17 15 B) 32 9 Y).1 38 = Y.1 6 from eC 6 (by omega)]; exact y2 j hj
  · refine Eq.trans ?_ (h5 i hi)
    rw [put_o2 (by omega), put_o2 (by omega), put_i2 (by omega)]
  · rw [put_out (by omega), put_out (by omega), put_out (by omega)]
theorem RWorld.weq (h : RWorld nS nF nT nW bB cu cl nw rn) (e : WEq cu' cu) (hl : ∀ i, i < 19 → cl' i = cl i) (hn : ∀ j, j < 353 → nw' j = nw j) (hr : ∀ i, i < 19 → rn' i = rn i) : RWorld nS nF nT nW bB cu' cl' nw' rn' := by
  obtain ⟨h1, h2, ⟨r1, r2, r3⟩, h4⟩ := h
  obtain ⟨e1, e2, e3, e4, e5, e6, e7, e8⟩ := e
  have hb := h1.1
  refine ⟨h1.cg e1 e2 e3 e4 (fun j hj => hn j (by omega)), (h2.steq e5 (by omega) (by omega)).congr (fun _ _ => rfl) (fun j hj => hn j (by omega)) (fun j hj => hn _ (by omega)) (by omega) (by omega), ⟨fun i hi hu => ?_, fun i hi hu => ?_, fun i j hi hj ui uj q => ?_⟩, h4.congr ⟨e6, e7, fun j hj => e8 j hj⟩ (fun j hj => hn _ (by omega))⟩
  · rw [hl i hi, hr i hi]; exact r1 i hi hu
  · rw [hl i hi]; exact r2 i hi hu
  · rw [hl i hi, hl j hj] at q; exact r3 i j hi hj ui uj q
theorem RImg.cg (h : RImg R k w v) (hw : ∀ i, i < 41 → w'.1 (i + R) = w.1 (i + R)) (hl : w'.2 (16 + R) = w.2 (16 + R)) (h10 : v'.1 10 k = v.1 10 k) (h4 : ∀ j, j < 353 → v'.1 4 (353 * k + j) = v.1 4 (353 * k + j)) (h9 : ∀ i, i < 19 → v'.2 9 (19 * k + i) = v.2 9 (19 * k + i)) : RImg R k w' v' := by
  have e0 : w'.1 R = w.1 R := by have := hw 0 (by omega); rwa [Nat.zero_add] at this
  unfold RImg at h ⊢
  rw [e0, h10, hl]
  rcases h with h | ⟨a, b, nS, nF, nT, nW, bB, c⟩
  · exact Or.inl h
  · exact Or.inr ⟨a, b, nS, nF, nT, nW, bB, c.congr (fun i p q => hw i (by omega)) rfl (fun i hi => h9 i hi) (fun j hj => h4 j hj)⟩
/-- the reference copies a world -/
theorem r_image {k : Nat} (hk : k < 2) : wp (x_lp (φ := XM → Int32 → Int32 → Option (Int32 × XM)) (fun _ _ _ => none) (f_X12_image_18) x_NN v (nI k) (0 : Int32)) (fun r => r.1 = 1 ∧ (∀ i, i ≠ 4 → i ≠ 10 → r.2.1 i = v.1 i) ∧ (∀ j, j < 353 → r.2.1 4 (353 * k + j) = v.1 2 j) ∧ (∀ j, j < 353 * k ∨ 353 * k + 353 ≤ j → r.2.1 4 j = v.1 4 j) ∧ r.2.1 10 = up (v.1 10) k 1 ∧ (∀ i, i ≠ 9 → r.2.2 i = v.2 i) ∧ (∀ j, j < 19 → r.2.2 9 (19 * k + j) = v.2 7 j) ∧ ∀ j, j < 19 * k ∨ 19 * k + 19 ≤ j → r.2.2 9 j = v.2 9 j) := by
  refine lp_fora (σ := XM) (n := 353) (fun (K : XM → Int32 → Int32 → Option (Int32 × XM)) q c => K q (nI k) c) (fun i q => Fr [4] v q ∧ (∀ j, j < i → q.1 4 (353 * k + j) = v.1 2 j) ∧ (∀ j, j < 353 * k ∨ 353 * k + 353 ≤ j → q.1 4 j = v.1 4 j)) _ ?_ ?_ x_NN v (by decide) ⟨Fr.rf, fun j q => absurd q (Nat.not_lt_zero _), fun _ _ => rfl⟩
  · rintro K i q hi ⟨g1, g2, g3⟩ ih
    show wp (f_X12_image_18 K q (nI k) (nI i)) _
    unfold f_X12_image_18
    rw [if_neg (show ¬ (353 : Int32) ≤ nI i from nI_ge (b := 353) (by omega) (by omega)), ck_in hi (by omega), kl_353, pk_mul, nI_add, ck_in (by omega) (by omega), lt_eq, pa_in (by omega), ga_in (by omega), nI_1]
    refine ih _ ⟨g1.row (by simp), fun j hj => ?_, fun j hj => ?_⟩
    · rw [row_at]
      by_cases c : j = i
      · subst c; rw [up_eq, g1.2 2 (by simp)]
      · rw [up_ne (by omega)]; exact g2 j (by omega)
    · rw [row_at, up_ne (by omega)]; exact g3 j hj
  · rintro K q ⟨g1, g2, g3⟩
    show wp (f_X12_image_18 K q (nI k) (nI 353)) _
    unfold f_X12_image_18
    rw [if_pos (show (353 : Int32) ≤ nI 353 from nI_le (a := 353) (b := 353) (by omega) (by omega))]
    refine lp_fora (σ := XM) (n := 19) (fun (K : XM → Int32 → Int32 → Option (Int32 × XM)) m c => K m (nI k) c) (fun i m => m.1 = q.1 ∧ (∀ i, i ≠ 9 → m.2 i = v.2 i) ∧ (∀ j, j < i → m.2 9 (19 * k + j) = v.2 7 j) ∧ (∀ j, j < 19 * k ∨ 19 * k + 19 ≤ j → m.2 9 j = v.2 9 j)) _ ?_ ?_ x_NN q (by decide) ⟨rfl, fun i _ => by rw [g1.1], fun j q => absurd q (Nat.not_lt_zero _), fun j _ => by rw [g1.1]⟩
    · rintro K' i m hi ⟨k1, k2, k3, k4⟩ ih
      show wp (f_X12_image_51 K' m (nI k) (nI i)) _
      unfold f_X12_image_51
      rw [if_neg (show ¬ (19 : Int32) ≤ nI i from nI_ge (b := 19) (by omega) (by omega)), ck_in hi (by omega), kl_19, pk_mul, nI_add, ck_in (by omega) (by omega), lt_eq, show x_pl m 9 (nI (19 * k + i)) (x_gl m 7 (nI i)) = x_sl m 9 (19 * k + i) (v.2 7 i) from by
        unfold x_pl x_gl
        rw [nI_clamp (by omega), nI_clamp (by omega), k2 7 (by omega)], nI_1]
      refine ih _ ⟨k1, fun i' hi' => (sl_r hi').trans (k2 i' hi'), fun j hj => ?_, fun j hj => ?_⟩
      · by_cases c : j = i
        · subst c; exact sl_0
        · show (if 9 = 9 ∧ 19 * k + j = 19 * k + i then _ else m.2 9 (19 * k + j)) = _
          rw [if_neg (by omega)]; exact k3 j (by omega)
      · show (if 9 = 9 ∧ j = 19 * k + i then _ else m.2 9 j) = _
        rw [if_neg (by omega)]; exact k4 j hj
    · rintro K' m ⟨k1, k2, k3, k4⟩
      show wp (f_X12_image_51 K' m (nI k) (nI 19)) _
      unfold f_X12_image_51
      rw [if_pos (show (19 : Int32) ≤ nI 19 from nI_le (a := 19) (b := 19) (by omega) (by omega)), ck_in hk (by omega), lt_eq, wp_some, pa_si (by omega)]
      refine ⟨rfl, fun i i4 i10 => ?_, fun j hj => ?_, fun j hj => ?_, ?_, k2, k3, k4⟩
      · rw [si_r i10, k1]; exact g1.2 i (by simp; omega)
      · rw [si_r (by omega), k1]; exact g2 j hj
      · rw [si_r (by omega), k1]; exact g3 j hj
      · rw [si_s, k1, g1.2 10 (by simp)]
theorem r_restore {k : Nat} (hk : k < 2) : wp (x_lp (φ := XM → Int32 → Int32 → Option (Int32 × XM)) (fun _ _ _ => none) (f_X12_restore_27) x_NN v (nI k) (0 : Int32)) (fun r => r.1 = 1 ∧ (∀ i, i ≠ 0 → i ≠ 2 → r.2.1 i = v.1 i) ∧ (∀ j, j < 353 → r.2.1 2 j = v.1 4 (353 * k + j)) ∧ r.2.1 0 = up (v.1 0) 24 0 ∧ (∀ i, i ≠ 7 → r.2.2 i = v.2 i) ∧ (∀ j, j < 19 → r.2.2 7 j = v.2 9 (19 * k + j))) := by
  refine lp_fora (σ := XM) (n := 353) (fun (K : XM → Int32 → Int32 → Option (Int32 × XM)) q c => K q (nI k) c) (fun i q => Fr [2] v q ∧ (∀ j, j < i → q.1 2 j = v.1 4 (353 * k + j))) _ ?_ ?_ x_NN v (by decide) ⟨Fr.rf, fun j q => absurd q (Nat.not_lt_zero _)⟩
  · rintro K i q hi ⟨g1, g2⟩ ih
    show wp (f_X12_restore_27 K q (nI k) (nI i)) _
    unfold f_X12_restore_27
    rw [if_neg (show ¬ (353 : Int32) ≤ nI i from nI_ge (b := 353) (by omega) (by omega)), kl_353, pk_mul, nI_add, ck_in (by omega) (by omega), ck_in hi (by omega), lt_eq, pa_in (by omega), ga_in (by omega), nI_1]
    refine ih _ ⟨g1.row (by simp), fun j hj => ?_⟩
    rw [row_at]
    by_cases c : j = i
    · subst c; rw [up_eq, g1.2 4 (by simp)]
    · rw [up_ne c]; exact g2 j (by omega)
  · rintro K q ⟨g1, g2⟩
    show wp (f_X12_restore_27 K q (nI k) (nI 353)) _
    unfold f_X12_restore_27
    rw [if_pos (show (353 : Int32) ≤ nI 353 from nI_le (a := 353) (b := 353) (by omega) (by omega))]
    refine lp_fora (σ := XM) (n := 19) (fun (K : XM → Int32 → Int32 → Option (Int32 × XM)) m c => K m (nI k) c) (fun i m => m.1 = q.1 ∧ (∀ i, i ≠ 7 → m.2 i = v.2 i) ∧ (∀ j, j < i → m.2 7 j = v.2 9 (19 * k + j))) _ ?_ ?_ x_NN q (by decide) ⟨rfl, fun i _ => by rw [g1.1], fun j q => absurd q (Nat.not_lt_zero _)⟩
    · rintro K' i m hi ⟨k1, k2, k3⟩ ih
      show wp (f_X12_restore_60 K' m (nI k) (nI i)) _
      unfold f_X12_restore_60
      rw [if_neg (show ¬ (19 : Int32) ≤ nI i from nI_ge (b := 19) (by omega) (by omega)), kl_19, pk_mul, nI_add, ck_in (by omega) (by omega), ck_in hi (by omega), lt_eq, show x_pl m 7 (nI i) (x_gl m 9 (nI (19 * k + i))) = x_sl m 7 i (v.2 9 (19 * k + i)) from by
        unfold x_pl x_gl
        rw [nI_clamp (by omega), nI_clamp (by omega), k2 9 (by omega)], nI_1]
      refine ih _ ⟨k1, fun i' hi' => (sl_r hi').trans (k2 i' hi'), fun j hj => ?_⟩
      by_cases c : j = i
      · subst c; exact sl_0
      · show (if 7 = 7 ∧ j = i then _ else m.2 7 j) = _
        rw [if_neg (fun q => c q.2)]; exact k3 j (by omega)
    · rintro K' m ⟨k1, k2, k3⟩
      show wp (f_X12_restore_60 K' m (nI k) (nI 19)) _
      unfold f_X12_restore_60
      rw [if_pos (show (19 : Int32) ≤ nI 19 from nI_le (a := 19) (b := 19) (by omega) (by omega)), lt_eq, wp_some]
      refine ⟨rfl, fun i i0 i2 => ?_, fun j hj => ?_, ?_, k2, k3⟩
      · rw [si_r i0, k1]; exact g1.2 i (by simp; omega)
      · rw [si_r (by omega), k1]; exact g2 j hj
      · rw [si_s, k1, g1.2 0 (by simp)]
end D1
