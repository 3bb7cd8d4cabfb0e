-- gather, as a call.
section GB
variable {nS nF nT nW bB : Nat} {u w v m : XM}
def GInv (W v : XM) (nS nT p n0 : Nat) (M m : XM) (k s cn : Nat) : Prop := Fr [0, 2, 6, 8, 14] W M ∧ (∀ j, j ≠ 8 → M.1 0 j = W.1 0 j) ∧ M.1 0 8 = nI cn ∧ Fr [0, 11, 13, 14, 15] v m ∧ (∀ j, j ≠ 31 → m.1 0 j = v.1 0 j) ∧ m.1 0 31 = nI cn ∧ (∀ i, i < cn → M.1 14 i = m.1 15 i) ∧ (∀ s, s < 8 → M.1 8 s = 0)
theorem gather_end (h : RelN nS nF nT nW bB w v) {M m : XM} {p n0 k s cn : Nat} (hI : GInv (x_sub w 300) v nS nT p n0 M m k s cn) (hc : cn ≤ 6) : RelN nS nF nT nW bB (x_put w 300 15 M) m := by
  obtain ⟨i1, i3, i4, i5, i7, i8, i9, i10⟩ := hI
  obtain ⟨r1, r2, r3, r4⟩ := h.road
  have e300 : (x_put w 300 15 M).1 300 = M.1 0 := put_inn (by omega)
  have e314 : (x_put w 300 15 M).1 314 = M.1 14 := put_inn (by omega)
  refine h.rd (put_2 i1.1) (fun i a b c c' d e => ?_) ⟨by rw [i5.1], by rw [i5.1]⟩ ⟨i5.2 1 (by simp), i5.2 2 (by simp), i5.2 4 (by simp), i5.2 5 (by simp), i5.2 10 (by simp), i5.2 16 (by simp), i5.2 18 (by simp)⟩ (fun j hj a b c d e => i7 j b) ⟨?_, ⟨cn, hc, by rw [e300]; exact i4, i8, fun i hi => by rw [e314]; exact i9 i hi⟩, ?_, ?_⟩
  · by_cases q : 300 ≤ i ∧ i < 300 + 15
    · rw [put_inn q, i1.2 (i - 300) (by
        have : i ≠ 302 := fun z => by subst z; unfold scrW at b; omega
        have : i ≠ 306 := fun z => by subst z; unfold scrW at b; omega
        simp only [List.mem_cons, List.not_mem_nil, or_false]; omega)]
      show w.1 (i - 300 + 300) = _
      rw [Nat.sub_add_cancel q.1]
    · exact put_out q
  · rw [e300, i3 6 (by omega), i7 27 (by omega), i5.2 12 (by simp), show (x_put w 300 15 M).1 312 = w.1 312 from (put_inn (by omega)).trans (i1.2 12 (by simp))]; exact r1
  · rw [e300, i3 9 (by omega), i3 10 (by omega), i3 11 (by omega), i7 32 (by omega), i7 33 (by omega), i7 34 (by omega)]; exact r3
  · rw [show (x_put w 300 15 M).1 308 = M.1 8 from put_inn (by omega)]; exact i10
end GB
