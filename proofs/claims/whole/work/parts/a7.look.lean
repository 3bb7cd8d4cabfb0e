-- gather.
theorem ones_n : ∀ n, n < 7 → (((1 : Int32) <<< (nI n &&& 31)) - 1).toBitVec.toNat = 2 ^ n - 1 := by decide
theorem i_andc (x y : Int32) : x &&& y = y &&& x := by
  apply b_ext
  intro i hi
  rw [b_and, b_and, Bool.and_comm]
section GA
variable {nS nF nT nW bB : Nat} {u w v m : XM}
theorem f_LK (h : RW nS nF nT nW bB u v) {p k s t : Nat} (hp : 1 ≤ p) (hp2 : p ≤ 5) (hk : k < 64) (hs : s < nS) (ht : t < nT) (hbt : bt (nI k) t = true) : LK k (fC v nT p k s t) (fR v nT p k s t) := by
  have hb := h.b
  obtain ⟨y1, y2⟩ := ysN_s h ht
  have b1 := (m_bit k hk t (by omega) hbt).1
  have b2 := p2_pos t
  have l1 := T_LK h hp hp2 (m := k - 2 ^ t) (s := ysN v t) (by omega) y1
  have l2 : LK 1 (cH (farO v s p (ysN v t))) (hN (farO v (ysN v t) p s)) := by
    rw [far_back h hp hp2 y1 hs]
    have := far_le h hp hp2 hs y1
    unfold cH hN LK
    split <;> omega
  exact (l2.add l1).mono (by omega)
theorem r_firstT (h : RW nS nF nT nW bB u v) {p k s : Nat} (hp : 1 ≤ p) (hp2 : p ≤ 5) {hh : Int32} {cn : Nat} (em : m.1 2 = v.1 2) (h13 : ∀ g s, g < nS → s < nS → m.1 13 (8 * s + g) = nI (hN (farO v g p s))) (h14 : ∀ k, k < 2 ^ nT → ∀ s, s < nS → m.1 14 (8 * k + s) = nI (TR_ v nT p k s)) (hk : k < 2 ^ nT) (h0 : k ≠ 0) (hs : s < nS) (hc : TC_ v nT p k s < 65536) (hn : m.1 0 31 = nI cn) (h6 : cn < 6) {k93 : XM → Int32 → Int32 → Int32 → Option (Int32 × XM)} {f0 : Nat} (hf0 : f0 < nT) (hb0 : bt (nI k) f0 = true) (he0 : fC v nT p k s f0 = TC_ v nT p k s) (hm0 : ∀ t, t < f0 → bt (nI k) t = true → fC v nT p k s t ≠ TC_ v nT p k s) : x_lp (φ := XM → Int32 → Int32 → Int32 → Int32 → Option (Int32 × XM)) (fun _ _ _ _ _ => none) (f_X12_gather_100 k93) x_NN m (nI k) (nI s) hh 0 = k93 (x_row (x_row m 15 (up (m.1 15) cn (nI f0))) 0 (up (m.1 0) 31 (nI (cn + 1)))) (nI (k - 2 ^ f0)) (nI (ysN v f0)) hh := by
  have hb := h.b
  have h64 := p2_64 hb.2.2.1
  have lT := T_LK h hp hp2 (show k < 64 by omega) hs
  have hTR : TR_ v nT p k s = TC_ v nT p k s := by unfold LK at lT; omega
  have hmb := fun (t : Nat) (ht : t < nT) (hbt : bt (nI k) t = true) => r_moreBy h hp hp2 em h13 hk hs ht hbt (h14 (k - 2 ^ t) (by have := p2_pos t; omega))
  refine lp_eq (n := f0) (fun (K : XM → Int32 → Int32 → Int32 → Int32 → Option (Int32 × XM)) (_ : Unit) i => K m (nI k) (nI s) hh i) (fun _ a => a) (fun _ => k93 (x_row (x_row m 15 (up (m.1 15) cn (nI f0))) 0 (up (m.1 0) 31 (nI (cn + 1)))) (nI (k - 2 ^ f0)) (nI (ysN v f0)) hh) ?_ ?_ x_NN () (by show f0 < 1000000; omega)
  · intro K _ t ht
    show f_X12_gather_100 k93 K m (nI k) (nI s) hh (nI t) = K m (nI k) (nI s) hh (nI (t + 1))
    unfold f_X12_gather_100 f_X12_gather_131
    rw [lt_eq, r_has (by omega), nI_1]
    cases c : bt (nI k) t with
    | false => rw [if_pos bIf]
    | true =>
      have lf := f_LK h hp hp2 (show k < 64 by omega) hs (show t < nT by omega) c
      have hne := hm0 t ht c
      rw [if_neg (show ¬ bI true = 0 by decide), hmb t (by omega) c, bo_some, kl_8, pk_mul, nI_add, ck_in (by omega) (by omega), ga_in (by omega), h14 k hk s hs, hTR]
      have e1 : fR v nT p k s t = hN (farO v (ysN v t) p s) + TR_ v nT p (k - 2 ^ t) (ysN v t) := rfl
      rw [← e1]
      rw [if_neg (fun q => by
        have q := nI_iff (by split <;> omega) (by omega) q
        unfold LK at lf
        split at q <;> omega)]
  · intro K _
    show f_X12_gather_100 k93 K m (nI k) (nI s) hh (nI f0) = _
    have lf := f_LK h hp hp2 (show k < 64 by omega) hs hf0 hb0
    unfold f_X12_gather_100
    have e1 : fR v nT p k s f0 = hN (farO v (ysN v f0) p s) + TR_ v nT p (k - 2 ^ f0) (ysN v f0) := rfl
    have e2 : fR v nT p k s f0 = TC_ v nT p k s := by unfold LK at lf; omega
    rw [lt_eq, r_has (by omega), hb0, if_neg (show ¬ bI true = 0 by decide), hmb f0 hf0 hb0, ← e1, e2, if_pos (show TC_ v nT p k s ≤ 100000 by omega), bo_some, kl_8, pk_mul, nI_add, ck_in (by omega) (by omega), ga_in (by omega), h14 k hk s hs, hTR, if_pos rfl, hn, ck_in h6 (by omega), lt_eq, pa_in (by omega), lt_eq, si_row, row_off (by omega), hn, nI_1, lt_eq, kl_54, nI_add, ck_in (by omega) (by omega), lt_eq, ga_in (by omega), (m_bit k (by omega) f0 (by omega) hb0).2, show (x_row (x_row m 15 (up (m.1 15) cn (nI f0))) 0 (up (m.1 0) 31 (nI (cn + 1)))).1 2 (54 + f0) = nI (ysN v f0) from (congrFun em _).trans (ysN_s h hf0).2]
end GA
