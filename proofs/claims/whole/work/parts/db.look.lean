-- the beginning.
theorem b0_n : y_V1.1 2 0 = nI 0 ∧ y_V1.1 2 1 = nI 0 ∧ y_V1.1 2 2 = nI 0 ∧ y_V1.1 2 3 = nI 0 ∧ y_V1.1 2 4 = nI 12 := by decide +kernel
theorem b0_v : y_V0.1 6 0 = nI 0 ∧ y_V0.1 6 1 = nI 0 ∧ y_V0.1 6 2 = nI 0 ∧ y_V0.1 6 3 = nI 0 ∧ y_V0.1 6 4 = nI 12 ∧ y_V0.1 6 5 = y_V1.1 2 5 := by decide +kernel
theorem b0_s : y_V1.1 2 70 = nI 0 ∧ y_V0.1 22 0 = y_V1.1 2 70 ∧ y_V0.1 22 1 = y_V1.1 2 71 ∧ y_V0.1 22 2 = y_V1.1 2 73 := by decide +kernel
theorem b0_w : ∀ w, w < 5 → y_V1.1 2 (70 + (19 + w)) = 0 ∧ y_V1.1 2 (70 + (24 + w)) = 0 := by decide +kernel
theorem b0_f : ∀ f, f < 12 → y_V1.1 2 (70 + (29 + f)) = 0 := by decide +kernel
theorem b0_m : ∀ i, i < 19 → y_V0.2 21 i = 0 := by decide +kernel
theorem b0_e : y_V1.1 2 111 = 0 ∧ y_V0.1 37 0 = 0 := by decide +kernel
theorem b0_h : y_V0.1 143 2 = nI 0 ∧ y_V0.1 143 1 = nI 0 ∧ y_V1.1 0 24 = nI 0 := by decide +kernel
theorem b0_i : y_V0.1 46 3 = 0 ∧ y_V1.1 10 0 = 0 ∧ y_V0.1 87 3 = 0 ∧ y_V1.1 10 1 = 0 := by decide +kernel
theorem b0_t : y_V0.1 1 2 = nI 0 ∧ y_V1.1 0 2 = nI 0 ∧ y_V0.1 1 10 = y_V1.1 0 10 := by decide +kernel
theorem b0_r : ∀ i, i < 940 → y_V0.1 3 i = y_V1.1 1 i ∧ y_V1.1 1 i = nI 0 := by decide +kernel
theorem b0_d : ∀ i, i < 29 → y_V0.2 4 i = lN (eN 32 (x_wd.getD i [])) := by decide +kernel
theorem b0_o : y_V0.1 282 5 = 0 ∧ y_V1.1 0 41 = 0 := by decide +kernel
theorem b0_p : y_V0.1 300 6 = nI 0 ∧ y_V1.1 0 27 = nI 0 ∧ y_V0.1 300 8 = nI 0 ∧ y_V1.1 0 31 = nI 0 ∧ y_V0.1 300 9 = y_V1.1 0 32 ∧ y_V0.1 300 10 = y_V1.1 0 33 ∧ y_V0.1 300 11 = y_V1.1 0 34 := by decide +kernel
theorem b0_q : ∀ i, i < 8 → y_V0.1 308 i = 0 := by decide +kernel
theorem b0_g : y_V0.1 315 1 = nI 0 ∧ y_V1.1 0 36 = nI 0 := by decide +kernel
theorem rel0_of {w v : XM} (b0_n : v.1 2 0 = nI 0 ∧ v.1 2 1 = nI 0 ∧ v.1 2 2 = nI 0 ∧ v.1 2 3 = nI 0 ∧ v.1 2 4 = nI 12) (b0_v : w.1 6 0 = nI 0 ∧ w.1 6 1 = nI 0 ∧ w.1 6 2 = nI 0 ∧ w.1 6 3 = nI 0 ∧ w.1 6 4 = nI 12 ∧ w.1 6 5 = v.1 2 5) (b0_s : v.1 2 70 = nI 0 ∧ w.1 22 0 = v.1 2 70 ∧ w.1 22 1 = v.1 2 71 ∧ w.1 22 2 = v.1 2 73) (b0_w : ∀ w, w < 5 → v.1 2 (70 + (19 + w)) = 0 ∧ v.1 2 (70 + (24 + w)) = 0) (b0_f : ∀ f, f < 12 → v.1 2 (70 + (29 + f)) = 0) (b0_m : ∀ i, i < 19 → w.2 21 i = 0) (b0_e : v.1 2 111 = 0 ∧ w.1 37 0 = 0) (b0_h : w.1 143 2 = nI 0 ∧ w.1 143 1 = nI 0 ∧ v.1 0 24 = nI 0) (b0_i : w.1 46 3 = 0 ∧ v.1 10 0 = 0 ∧ w.1 87 3 = 0 ∧ v.1 10 1 = 0) (b0_t : w.1 1 2 = nI 0 ∧ v.1 0 2 = nI 0 ∧ w.1 1 10 = v.1 0 10) (b0_r : ∀ i, i < 940 → w.1 3 i = v.1 1 i ∧ v.1 1 i = nI 0) (b0_d : ∀ i, i < 29 → w.2 4 i = lN (eN 32 (x_wd.getD i []))) (b0_o : w.1 282 5 = 0 ∧ v.1 0 41 = 0) (b0_p : w.1 300 6 = nI 0 ∧ v.1 0 27 = nI 0 ∧ w.1 300 8 = nI 0 ∧ v.1 0 31 = nI 0 ∧ w.1 300 9 = v.1 0 32 ∧ w.1 300 10 = v.1 0 33 ∧ w.1 300 11 = v.1 0 34) (b0_q : ∀ i, i < 8 → w.1 308 i = 0) (b0_g : w.1 315 1 = nI 0 ∧ v.1 0 36 = nI 0) : Rel w v := by
  have n0 : ∀ {P : Prop} {k : Nat}, k < 0 → P := fun h => absurd h (Nat.not_lt_zero _)
  have hu : ∀ i, ¬ usd 0 0 0 i := fun i => by unfold usd; omega
  refine ⟨0, 0, 0, 0, 12, ⟨⟨by omega, b0_n, b0_v, fun f h => n0 h, fun f h => n0 h, fun f h => n0 h, fun f h => n0 h⟩, ⟨⟨0, by omega, b0_s.1⟩, b0_s.2, fun f h => n0 h, fun f h => n0 h, fun w _ h => b0_w w h, fun f h => n0 h, fun f _ h => b0_f f h⟩, ⟨fun i _ h => absurd h (hu i), fun i h _ => b0_m i h, fun i _ _ _ h => absurd h (hu i)⟩, Or.inl b0_e⟩, ⟨0, 0, by omega, by omega, b0_h.1, b0_h.2.1, b0_h.2.2, fun k h => n0 h⟩, Or.inl ⟨b0_i.1, b0_i.2.1⟩, Or.inl ⟨b0_i.2.2.1, b0_i.2.2.2⟩, ⟨⟨0, by omega, b0_t.1, b0_t.2.1⟩, fun i h => ⟨(b0_r i h).1, 0, by omega, (b0_r i h).2⟩, b0_t.2.2⟩, b0_d, Or.inl b0_o, ⟨⟨0, by omega, b0_p.1, b0_p.2.1, fun i h => n0 h⟩, ⟨0, by omega, b0_p.2.2.1, b0_p.2.2.2.1, fun i h => n0 h⟩, b0_p.2.2.2.2, b0_q⟩, ⟨0, by omega, b0_g.1, b0_g.2, fun i h => n0 h⟩⟩
theorem rel0 : Rel y_V0 y_V1 := rel0_of b0_n b0_v b0_s b0_w b0_f b0_m b0_e b0_h b0_i b0_t b0_r b0_d b0_o b0_p b0_q b0_g
