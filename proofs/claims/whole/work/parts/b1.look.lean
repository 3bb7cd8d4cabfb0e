-- Bits counted on both sides.
def p8 (k : Nat) : Nat := cnt (fun t => bt (nI k) t) 8
theorem p8_le (k : Nat) : p8 k ≤ 8 := cnt_le 8
theorem c_bits : ∀ k, k < 256 → f_J6_bitCount_0f7a4 (nI k) = nI (p8 k) := by decide +kernel
theorem b_drop : ∀ k, k < 256 → k ≠ 0 → nI k &&& (nI k - 1) = nI (nI k &&& (nI k - 1)).toNatClampNeg ∧ (nI k &&& (nI k - 1)).toNatClampNeg < k ∧ p8 (nI k &&& (nI k - 1)).toNatClampNeg + 1 = p8 k := by decide +kernel
theorem p8_0 : p8 0 = 0 := by decide
theorem r_bits {k : Nat} (hk : k < 256) : f_X12_bits (nI k) = some (nI (p8 k)) := by
  unfold f_X12_bits
  refine wp_eq.mp (lp_ind (σ := Int32 × Int32) (fun (K : Int32 → Int32 → Option (Int32)) s => K s.1 s.2) (fun n s => ∃ a, n < 256 ∧ s = (nI a, nI n) ∧ a + p8 n = p8 k) _ ?_ x_NN k (0, nI k) (by show k < 1000000; omega) ⟨0, hk, rfl, by omega⟩)
  rintro n K _ ⟨a, hn, rfl, ha⟩ ih
  show wp (f_X12_bits_4 K (nI a) (nI n)) _
  unfold f_X12_bits_4
  by_cases c : n = 0
  · subst c
    rw [p8_0] at ha
    rw [if_pos (show nI 0 = 0 from rfl), wp_some, ← ha]; rfl
  · obtain ⟨h1, h2, h3⟩ := b_drop n hn c
    rw [if_neg (nI_ne0 (by omega) (by omega)), lt_eq, nI_1]
    exact ih _ (nI (a + 1), nI n &&& (nI n - 1)) h2 ⟨a + 1, by omega, by rw [← h1], by omega⟩
