-- the law's loop.
section LAW
variable {nS nF nT nW bB i L : Nat} {xs : Nat → Int32} {w v w2 : XM} {k : XM → XM → XM → Int32 → Option (Int32)}
theorem l_ck (hi : i + 6 ≤ L) (hL : L ≤ 3072) (j : Nat) (hj : j < 6) {f : Option Int32} : x_ck (nI i + nI j) L f = f := by
  rw [nI_add]; exact ck_in (by omega) (by omega)
theorem l_ite {c : Prop} [Decidable c] {f g r : Option Int32} (h1 : f = r) (h2 : g = r) : (if c then f else g) = r := by
  split
  · exact h1
  · exact h2
theorem l_gl {x : XM} {a : Int64} : x_gl (x_pl x 0 (0 : Int32) a) 0 (0 : Int32) = a := by
  show x_gl (x_pl x 0 (nI 0) a) 0 (nI 0) = a
  unfold x_gl x_pl
  rw [nI_clamp (by omega)]; exact sl_0
def Kp (i : Nat) (k : XM → XM → XM → Int32 → Option (Int32)) : Prop := ∀ w v w2, Rel w v → k w v w2 (nI i + 6) = some 1

def T01 {β : Type} (f : Option (Int32 × β)) : Prop := ∀ r, f = some r → r.1 = 0 ∨ r.1 = 1
theorem t_0 {β : Type} {b : β} : T01 (some ((0 : Int32), b)) := fun r h => by cases h; exact Or.inl rfl
theorem t_1 {β : Type} {b : β} : T01 (some ((1 : Int32), b)) := fun r h => by cases h; exact Or.inr rfl
theorem t_ite {β : Type} {c : Prop} [Decidable c] {f g : Option (Int32 × β)} (h1 : T01 f) (h2 : T01 g) : T01 (if c then f else g) := by
  split
  · exact h1
  · exact h2
theorem t_bo {α β : Type} {a : Option α} {f : α → Option (Int32 × β)} (h : ∀ y, T01 (f y)) : T01 (x_bo a f) := fun r e => by
  obtain ⟨y, -, e⟩ := x_bo_elim e
  exact h y r e
theorem t_lt {α β : Type} {a : α} {f : α → Option (Int32 × β)} (h : ∀ y, T01 (f y)) : T01 (x_lt a f) := fun r e => h a r e
theorem t_no {β : Type} : T01 (none : Option (Int32 × β)) := fun r e => by cases e
theorem t_nz {β : Type} {x : Int32} {f : Option (Int32 × β)} (h : T01 f) : T01 (x_nz x f) := by
  unfold x_nz
  exact t_ite t_no h
theorem t_walker {x y : Int32} : T01 (f_X11_walker w x y) := by
  unfold f_X11_walker
  exact t_lt fun _ => t_ite t_1 (t_ite (t_lt fun _ => t_0) (t_ite (t_lt fun _ => t_0) (t_ite (t_lt fun _ => t_0) (t_ite (t_lt fun _ => t_0) (t_ite (t_lt fun _ => t_0) (t_ite (t_lt fun _ => t_0) (t_ite (t_bo fun _ => t_lt fun _ => t_0) t_1)))))))
theorem t_loop : ∀ (fu : Nat) (a b c d : Int32), T01 (x_lp (φ := Int32 → Int32 → Int32 → Int32 → Option (Int32 × Int32)) (fun _ _ _ _ => none) (f_X11_mean_79 w) fu a b c d)
  | 0, _, _, _, _ => t_no
  | fu + 1, a, b, c, d => by
    have ih := t_loop fu
    rw [lp_s]
    generalize x_lp (φ := Int32 → Int32 → Int32 → Int32 → Option (Int32 × Int32)) (fun _ _ _ _ => none) (f_X11_mean_79 w) fu = K at ih ⊢
    unfold f_X11_mean_79 f_X11_mean_106
    exact t_ite t_0 (t_nz (t_ite (t_nz (t_ite (t_nz t_0) (ih _ _ _ _))) (ih _ _ _ _)))
theorem t_mean32 {a b c : Int32} : T01 (f_X11_mean_32 w a b c) := by
  unfold f_X11_mean_32 f_X11_mean_74
  exact t_ite t_1 (t_ite t_1 (t_ite (t_bo fun _ => t_ite (t_loop _ _ _ _ _) (t_loop _ _ _ _ _)) t_1))
theorem t_mean {x y : Int32} : T01 (f_X11_mean w x y) := by
  unfold f_X11_mean
  exact t_lt fun _ => t_ite t_mean32 (t_bo fun _ => t_lt fun _ => t_mean32)

theorem l_220 (h : RelN nS nF nT nW bB w v) (hi : i + 6 ≤ L) (hL : L ≤ 3072) (hk : Kp i k) : f_L_law_220 L xs k w v w2 (nI i) = some 1 := by
  have c1 : ∀ f : Option Int32, x_ck (nI i + (1 : Int32)) L f = f := fun f => l_ck hi hL 1 (by omega)
  have c2 : ∀ f : Option Int32, x_ck (nI i + (2 : Int32)) L f = f := fun f => l_ck hi hL 2 (by omega)
  have c3 : ∀ f : Option Int32, x_ck (nI i + (3 : Int32)) L f = f := fun f => l_ck hi hL 3 (by omega)
  have c4 : ∀ f : Option Int32, x_ck (nI i + (4 : Int32)) L f = f := fun f => l_ck hi hL 4 (by omega)
  have c5 : ∀ f : Option Int32, x_ck (nI i + (5 : Int32)) L f = f := fun f => l_ck hi hL 5 (by omega)
  obtain ⟨r, s, e1, e2, q1, q2⟩ := b_feed h (xs (nI i + (1 : Int32)).toNatClampNeg) (xs (nI i + (2 : Int32)).toNatClampNeg) (xs (nI i + (3 : Int32)).toNatClampNeg) (xs (nI i + (4 : Int32)).toNatClampNeg) (xs (nI i + (5 : Int32)).toNatClampNeg)
  unfold f_L_law_220 f_L_law_1427
  simp only [c1, c2, c3, c4, c5]
  rw [e1, bo_some, e2, bo_some, if_pos q1]
  exact hk _ _ _ q2
theorem l_318 (h : RelN nS nF nT nW bB w v) (hi : i + 6 ≤ L) (hL : L ≤ 3072) (hk : Kp i k) : f_L_law_318 L xs k w v w2 (nI i) = some 1 := by
  obtain ⟨r, s, e1, e2, q1, q2⟩ := b_valley h 
  unfold f_L_law_318 f_L_law_1427
  rw [e1, bo_some, e2, bo_some, if_pos q1]
  exact hk _ _ _ q2
theorem l_486 (h : RelN nS nF nT nW bB w v) (hi : i + 6 ≤ L) (hL : L ≤ 3072) (hk : Kp i k) : f_L_law_486 L xs k w v w2 (nI i) = some 1 := by
  have c1 : ∀ f : Option Int32, x_ck (nI i + (1 : Int32)) L f = f := fun f => l_ck hi hL 1 (by omega)
  obtain ⟨r, s, e1, e2, q1, q2⟩ := b_now h (xs (nI i + (1 : Int32)).toNatClampNeg)
  unfold f_L_law_486 f_L_law_1427
  simp only [c1]
  rw [e1, bo_some, e2, bo_some, if_pos q1]
  exact hk _ _ _ q2
theorem l_511 (h : RelN nS nF nT nW bB w v) (hi : i + 6 ≤ L) (hL : L ≤ 3072) (hk : Kp i k) : f_L_law_511 L xs k w v w2 (nI i) = some 1 := by
  have c1 : ∀ f : Option Int32, x_ck (nI i + (1 : Int32)) L f = f := fun f => l_ck hi hL 1 (by omega)
  have c2 : ∀ f : Option Int32, x_ck (nI i + (2 : Int32)) L f = f := fun f => l_ck hi hL 2 (by omega)
  obtain ⟨r, s, e1, e2, q1, q2⟩ := b_walk h (xs (nI i + (1 : Int32)).toNatClampNeg) (xs (nI i + (2 : Int32)).toNatClampNeg)
  unfold f_L_law_511 f_L_law_1427
  simp only [c1, c2]
  rw [e1, bo_some, e2, bo_some, if_pos q1]
  exact hk _ _ _ q2
theorem l_548 (h : RelN nS nF nT nW bB w v) (hi : i + 6 ≤ L) (hL : L ≤ 3072) (hk : Kp i k) : f_L_law_548 L xs k w v w2 (nI i) = some 1 := by
  have c1 : ∀ f : Option Int32, x_ck (nI i + (1 : Int32)) L f = f := fun f => l_ck hi hL 1 (by omega)
  have c2 : ∀ f : Option Int32, x_ck (nI i + (2 : Int32)) L f = f := fun f => l_ck hi hL 2 (by omega)
  obtain ⟨r, s, e1, e2, q1, q2⟩ := b_learn h (xs (nI i + (1 : Int32)).toNatClampNeg) (xs (nI i + (2 : Int32)).toNatClampNeg)
  unfold f_L_law_548 f_L_law_1427
  simp only [c1, c2]
  rw [e1, bo_some, e2, bo_some, if_pos q1]
  exact hk _ _ _ q2
theorem l_585 (h : RelN nS nF nT nW bB w v) (hi : i + 6 ≤ L) (hL : L ≤ 3072) (hk : Kp i k) : f_L_law_585 L xs k w v w2 (nI i) = some 1 := by
  have c1 : ∀ f : Option Int32, x_ck (nI i + (1 : Int32)) L f = f := fun f => l_ck hi hL 1 (by omega)
  have c2 : ∀ f : Option Int32, x_ck (nI i + (2 : Int32)) L f = f := fun f => l_ck hi hL 2 (by omega)
  obtain ⟨r, s, e1, e2, q1, q2⟩ := b_tell h (xs (nI i + (1 : Int32)).toNatClampNeg) (xs (nI i + (2 : Int32)).toNatClampNeg)
  unfold f_L_law_585 f_L_law_1427
  simp only [c1, c2]
  rw [e1, bo_some, e2, bo_some, if_pos q1]
  exact hk _ _ _ q2
theorem l_622 (h : RelN nS nF nT nW bB w v) (hi : i + 6 ≤ L) (hL : L ≤ 3072) (hk : Kp i k) : f_L_law_622 L xs k w v w2 (nI i) = some 1 := by
  have c1 : ∀ f : Option Int32, x_ck (nI i + (1 : Int32)) L f = f := fun f => l_ck hi hL 1 (by omega)
  obtain ⟨r, s, e1, e2, q1, q2⟩ := b_rest h (xs (nI i + (1 : Int32)).toNatClampNeg)
  unfold f_L_law_622 f_L_law_1427
  simp only [c1]
  rw [e1, bo_some, e2, bo_some, if_pos q1]
  exact hk _ _ _ q2
theorem l_647 (h : RelN nS nF nT nW bB w v) (hi : i + 6 ≤ L) (hL : L ≤ 3072) (hk : Kp i k) : f_L_law_647 L xs k w v w2 (nI i) = some 1 := by
  have c1 : ∀ f : Option Int32, x_ck (nI i + (1 : Int32)) L f = f := fun f => l_ck hi hL 1 (by omega)
  obtain ⟨r, s, e1, e2, q1, q2⟩ := b_cream h (xs (nI i + (1 : Int32)).toNatClampNeg)
  unfold f_L_law_647 f_L_law_1427
  simp only [c1]
  rw [e1, bo_some, e2, bo_some, if_pos q1]
  exact hk _ _ _ q2
theorem l_672 (h : RelN nS nF nT nW bB w v) (hi : i + 6 ≤ L) (hL : L ≤ 3072) (hk : Kp i k) : f_L_law_672 L xs k w v w2 (nI i) = some 1 := by
  have c1 : ∀ f : Option Int32, x_ck (nI i + (1 : Int32)) L f = f := fun f => l_ck hi hL 1 (by omega)
  have c2 : ∀ f : Option Int32, x_ck (nI i + (2 : Int32)) L f = f := fun f => l_ck hi hL 2 (by omega)
  obtain ⟨r, s, e1, e2, q1, q2⟩ := b_slip h (xs (nI i + (1 : Int32)).toNatClampNeg) (xs (nI i + (2 : Int32)).toNatClampNeg)
  unfold f_L_law_672 f_L_law_1427
  simp only [c1, c2]
  rw [e1, bo_some, e2, bo_some, if_pos q1]
  exact hk _ _ _ q2
theorem l_709 (h : RelN nS nF nT nW bB w v) (hi : i + 6 ≤ L) (hL : L ≤ 3072) (hk : Kp i k) : f_L_law_709 L xs k w v w2 (nI i) = some 1 := by
  have c1 : ∀ f : Option Int32, x_ck (nI i + (1 : Int32)) L f = f := fun f => l_ck hi hL 1 (by omega)
  obtain ⟨r, s, e1, e2, q1, q2⟩ := b_mood h (xs (nI i + (1 : Int32)).toNatClampNeg)
  unfold f_L_law_709 f_L_law_1427
  simp only [c1]
  rw [e1, bo_some, e2, bo_some, if_pos q1]
  exact hk _ _ _ q2
theorem l_734 (h : RelN nS nF nT nW bB w v) (hi : i + 6 ≤ L) (hL : L ≤ 3072) (hk : Kp i k) : f_L_law_734 L xs k w v w2 (nI i) = some 1 := by
  have c1 : ∀ f : Option Int32, x_ck (nI i + (1 : Int32)) L f = f := fun f => l_ck hi hL 1 (by omega)
  obtain ⟨r, s, e1, e2, q1, q2⟩ := b_hours h (xs (nI i + (1 : Int32)).toNatClampNeg)
  unfold f_L_law_734 f_L_law_1427
  simp only [c1]
  rw [e1, bo_some, e2, bo_some, if_pos q1]
  exact hk _ _ _ q2
theorem l_809 (h : RelN nS nF nT nW bB w v) (hi : i + 6 ≤ L) (hL : L ≤ 3072) (hk : Kp i k) : f_L_law_809 L xs k w v w2 (nI i) = some 1 := by
  have c1 : ∀ f : Option Int32, x_ck (nI i + (1 : Int32)) L f = f := fun f => l_ck hi hL 1 (by omega)
  have c2 : ∀ f : Option Int32, x_ck (nI i + (2 : Int32)) L f = f := fun f => l_ck hi hL 2 (by omega)
  obtain ⟨r, s, e1, e2, q1, q2⟩ := b_way h (xs (nI i + (1 : Int32)).toNatClampNeg) (xs (nI i + (2 : Int32)).toNatClampNeg)
  unfold f_L_law_809 f_L_law_1427
  simp only [c1, c2]
  rw [e1, bo_some, e2, bo_some, if_pos q1]
  exact hk _ _ _ q2
theorem l_871 (h : RelN nS nF nT nW bB w v) (hi : i + 6 ≤ L) (hL : L ≤ 3072) (hk : Kp i k) : f_L_law_871 L xs k w v w2 (nI i) = some 1 := by
  have c1 : ∀ f : Option Int32, x_ck (nI i + (1 : Int32)) L f = f := fun f => l_ck hi hL 1 (by omega)
  obtain ⟨r, s, e1, e2, q1, q2⟩ := b_reaches h (xs (nI i + (1 : Int32)).toNatClampNeg)
  unfold f_L_law_871 f_L_law_1427
  simp only [c1]
  rw [e1, bo_some, e2, bo_some, if_pos q1]
  exact hk _ _ _ q2
theorem l_896 (h : RelN nS nF nT nW bB w v) (hi : i + 6 ≤ L) (hL : L ≤ 3072) (hk : Kp i k) : f_L_law_896 L xs k w v w2 (nI i) = some 1 := by
  have c1 : ∀ f : Option Int32, x_ck (nI i + (1 : Int32)) L f = f := fun f => l_ck hi hL 1 (by omega)
  obtain ⟨r, s, e1, e2, q1, q2⟩ := b_gather h (xs (nI i + (1 : Int32)).toNatClampNeg)
  unfold f_L_law_896 f_L_law_1427
  simp only [c1]
  rw [e1, bo_some, e2, bo_some, if_pos q1]
  exact hk _ _ _ q2
theorem l_946 (h : RelN nS nF nT nW bB w v) (hi : i + 6 ≤ L) (hL : L ≤ 3072) (hk : Kp i k) : f_L_law_946 L xs k w v w2 (nI i) = some 1 := by
  have c1 : ∀ f : Option Int32, x_ck (nI i + (1 : Int32)) L f = f := fun f => l_ck hi hL 1 (by omega)
  have c2 : ∀ f : Option Int32, x_ck (nI i + (2 : Int32)) L f = f := fun f => l_ck hi hL 2 (by omega)
  obtain ⟨r, s, e1, e2, q1, q2⟩ := b_meet h (xs (nI i + (1 : Int32)).toNatClampNeg) (xs (nI i + (2 : Int32)).toNatClampNeg)
  unfold f_L_law_946 f_L_law_1427
  simp only [c1, c2]
  rw [e1, bo_some, e2, bo_some, if_pos q1]
  exact hk _ _ _ q2
theorem l_996 (h : RelN nS nF nT nW bB w v) (hi : i + 6 ≤ L) (hL : L ≤ 3072) (hk : Kp i k) : f_L_law_996 L xs k w v w2 (nI i) = some 1 := by
  have c1 : ∀ f : Option Int32, x_ck (nI i + (1 : Int32)) L f = f := fun f => l_ck hi hL 1 (by omega)
  obtain ⟨r, s, e1, e2, q1, q2⟩ := b_inns h (xs (nI i + (1 : Int32)).toNatClampNeg)
  unfold f_L_law_996 f_L_law_1427
  simp only [c1]
  rw [e1, bo_some, e2, bo_some, if_pos q1]
  exact hk _ _ _ q2
theorem l_1034 (h : RelN nS nF nT nW bB w v) (hi : i + 6 ≤ L) (hL : L ≤ 3072) (hk : Kp i k) : f_L_law_1034 L xs k w v w2 (nI i) = some 1 := by
  obtain ⟨r, s, e1, e2, q1, q2⟩ := b_came h 
  unfold f_L_law_1034 f_L_law_1427
  rw [e1, bo_some, e2, bo_some, if_pos q1]
  exact hk _ _ _ q2
theorem l_1128 (h : RelN nS nF nT nW bB w v) (hi : i + 6 ≤ L) (hL : L ≤ 3072) (hk : Kp i k) : f_L_law_1128 L xs k w v w2 (nI i) = some 1 := by
  have c1 : ∀ f : Option Int32, x_ck (nI i + (1 : Int32)) L f = f := fun f => l_ck hi hL 1 (by omega)
  obtain ⟨r, s, e1, e2, q1, q2⟩ := b_tag h (xs (nI i + (1 : Int32)).toNatClampNeg)
  unfold f_L_law_1128 f_L_law_1427
  simp only [c1]
  rw [e1, bo_some, e2, bo_some, if_pos q1]
  exact hk _ _ _ q2
theorem l_1178 (h : RelN nS nF nT nW bB w v) (hi : i + 6 ≤ L) (hL : L ≤ 3072) (hk : Kp i k) : f_L_law_1178 L xs k w v w2 (nI i) = some 1 := by
  have c1 : ∀ f : Option Int32, x_ck (nI i + (1 : Int32)) L f = f := fun f => l_ck hi hL 1 (by omega)
  have c2 : ∀ f : Option Int32, x_ck (nI i + (2 : Int32)) L f = f := fun f => l_ck hi hL 2 (by omega)
  obtain ⟨r, s, e1, e2, q1, q2⟩ := b_drawn h (xs (nI i + (1 : Int32)).toNatClampNeg) (xs (nI i + (2 : Int32)).toNatClampNeg)
  unfold f_L_law_1178 f_L_law_1427
  simp only [c1, c2]
  rw [e1, bo_some, e2, bo_some, if_pos q1]
  exact hk _ _ _ q2
theorem l_1215 (h : RelN nS nF nT nW bB w v) (hi : i + 6 ≤ L) (hL : L ≤ 3072) (hk : Kp i k) : f_L_law_1215 L xs k w v w2 (nI i) = some 1 := by
  have c1 : ∀ f : Option Int32, x_ck (nI i + (1 : Int32)) L f = f := fun f => l_ck hi hL 1 (by omega)
  have c2 : ∀ f : Option Int32, x_ck (nI i + (2 : Int32)) L f = f := fun f => l_ck hi hL 2 (by omega)
  have c3 : ∀ f : Option Int32, x_ck (nI i + (3 : Int32)) L f = f := fun f => l_ck hi hL 3 (by omega)
  obtain ⟨r, s, e1, e2, q1, q2⟩ := b_odds h (xs (nI i + (1 : Int32)).toNatClampNeg) (xs (nI i + (2 : Int32)).toNatClampNeg) (xs (nI i + (3 : Int32)).toNatClampNeg)
  unfold f_L_law_1215 f_L_law_1427
  simp only [c1, c2, c3]
  rw [e1, bo_some, e2, bo_some, if_pos q1]
  exact hk _ _ _ q2
theorem l_1264 (h : RelN nS nF nT nW bB w v) (hi : i + 6 ≤ L) (hL : L ≤ 3072) (hk : Kp i k) : f_L_law_1264 L xs k w v w2 (nI i) = some 1 := by
  have c1 : ∀ f : Option Int32, x_ck (nI i + (1 : Int32)) L f = f := fun f => l_ck hi hL 1 (by omega)
  obtain ⟨r, s, e1, e2, q1, q2⟩ := b_book h (xs (nI i + (1 : Int32)).toNatClampNeg)
  unfold f_L_law_1264 f_L_law_1427
  simp only [c1]
  rw [e1, bo_some, e2, bo_some, if_pos q1]
  exact hk _ _ _ q2
theorem l_1314 (h : RelN nS nF nT nW bB w v) (hi : i + 6 ≤ L) (hL : L ≤ 3072) (hk : Kp i k) : f_L_law_1314 L xs k w v w2 (nI i) = some 1 := by
  obtain ⟨r, s, e1, e2, q1, q2⟩ := b_sentence h 
  unfold f_L_law_1314 f_L_law_1427
  rw [e1, bo_some, e2, bo_some, if_pos q1]
  exact hk _ _ _ q2
theorem l_1327 (h : RelN nS nF nT nW bB w v) (hi : i + 6 ≤ L) (hL : L ≤ 3072) (hk : Kp i k) : f_L_law_1327 L xs k w v w2 (nI i) = some 1 := by
  have c1 : ∀ f : Option Int32, x_ck (nI i + (1 : Int32)) L f = f := fun f => l_ck hi hL 1 (by omega)
  obtain ⟨r, s, e1, e2, q1, q2⟩ := b_said h (xs (nI i + (1 : Int32)).toNatClampNeg)
  unfold f_L_law_1327 f_L_law_1427
  simp only [c1]
  rw [e1, bo_some, e2, bo_some, if_pos q1]
  exact hk _ _ _ q2
theorem l_1352 (h : RelN nS nF nT nW bB w v) (hi : i + 6 ≤ L) (hL : L ≤ 3072) (hk : Kp i k) : f_L_law_1352 L xs k w v w2 (nI i) = some 1 := by
  have c1 : ∀ f : Option Int32, x_ck (nI i + (1 : Int32)) L f = f := fun f => l_ck hi hL 1 (by omega)
  obtain ⟨r, s, e1, e2, q1, q2⟩ := b_image h (xs (nI i + (1 : Int32)).toNatClampNeg)
  unfold f_L_law_1352 f_L_law_1427
  simp only [c1]
  rw [e1, bo_some, e2, bo_some, if_pos q1]
  exact hk _ _ _ q2
theorem l_1377 (h : RelN nS nF nT nW bB w v) (hi : i + 6 ≤ L) (hL : L ≤ 3072) (hk : Kp i k) : f_L_law_1377 L xs k w v w2 (nI i) = some 1 := by
  have c1 : ∀ f : Option Int32, x_ck (nI i + (1 : Int32)) L f = f := fun f => l_ck hi hL 1 (by omega)
  obtain ⟨r, s, e1, e2, q1, q2⟩ := b_restore h (xs (nI i + (1 : Int32)).toNatClampNeg)
  unfold f_L_law_1377 f_L_law_1427
  simp only [c1]
  rw [e1, bo_some, e2, bo_some, if_pos q1]
  exact hk _ _ _ q2
theorem l_412 (h : RelN nS nF nT nW bB w v) (hi : i + 6 ≤ L) (hL : L ≤ 3072) (hk : Kp i k) : f_L_law_412 L xs k w v w2 (nI i) = some 1 := by
  have c1 : ∀ f : Option Int32, x_ck (nI i + (1 : Int32)) L f = f := fun f => l_ck hi hL 1 (by omega)
  have c2 : ∀ f : Option Int32, x_ck (nI i + (2 : Int32)) L f = f := fun f => l_ck hi hL 2 (by omega)
  obtain ⟨r, s, e1, e2, q1, q2⟩ := b_fold h (xs (nI i + (1 : Int32)).toNatClampNeg) (xs (nI i + (2 : Int32)).toNatClampNeg)
  unfold f_L_law_412 f_L_law_1427
  simp only [c1, c2]
  rw [e1, bo_some, e2, bo_some, if_pos q1]
  exact hk _ _ _ q2
theorem l_449 (h : RelN nS nF nT nW bB w v) (hi : i + 6 ≤ L) (hL : L ≤ 3072) (hk : Kp i k) : f_L_law_449 L xs k w v w2 (nI i) = some 1 := by
  have c1 : ∀ f : Option Int32, x_ck (nI i + (1 : Int32)) L f = f := fun f => l_ck hi hL 1 (by omega)
  have c2 : ∀ f : Option Int32, x_ck (nI i + (2 : Int32)) L f = f := fun f => l_ck hi hL 2 (by omega)
  obtain ⟨r, s, e1, e2, q1, q2⟩ := b_spot h (xs (nI i + (1 : Int32)).toNatClampNeg) (xs (nI i + (2 : Int32)).toNatClampNeg)
  unfold f_L_law_449 f_L_law_1427
  simp only [c1, c2]
  rw [e1, bo_some, e2, bo_some, if_pos q1]
  exact hk _ _ _ q2
theorem l_772 (h : RelN nS nF nT nW bB w v) (hi : i + 6 ≤ L) (hL : L ≤ 3072) (hk : Kp i k) : f_L_law_772 L xs k w v w2 (nI i) = some 1 := by
  have c1 : ∀ f : Option Int32, x_ck (nI i + (1 : Int32)) L f = f := fun f => l_ck hi hL 1 (by omega)
  have c2 : ∀ f : Option Int32, x_ck (nI i + (2 : Int32)) L f = f := fun f => l_ck hi hL 2 (by omega)
  obtain ⟨r, s, e1, e2, q1, q2⟩ := b_takes h (xs (nI i + (1 : Int32)).toNatClampNeg) (xs (nI i + (2 : Int32)).toNatClampNeg)
  unfold f_L_law_772 f_L_law_1427
  simp only [c1, c2]
  rw [e1, bo_some, e2, bo_some, if_pos q1]
  exact hk _ _ _ q2
theorem l_846 (h : RelN nS nF nT nW bB w v) (hi : i + 6 ≤ L) (hL : L ≤ 3072) (hk : Kp i k) : f_L_law_846 L xs k w v w2 (nI i) = some 1 := by
  have c1 : ∀ f : Option Int32, x_ck (nI i + (1 : Int32)) L f = f := fun f => l_ck hi hL 1 (by omega)
  obtain ⟨s, e2, q1, q2⟩ := b_wayAt h (xs (nI i + (1 : Int32)).toNatClampNeg)
  unfold f_L_law_846 f_L_law_1427
  simp only [c1]
  rw [lt_eq, e2, bo_some, if_pos q1]
  exact hk _ _ _ q2
theorem l_921 (h : RelN nS nF nT nW bB w v) (hi : i + 6 ≤ L) (hL : L ≤ 3072) (hk : Kp i k) : f_L_law_921 L xs k w v w2 (nI i) = some 1 := by
  have c1 : ∀ f : Option Int32, x_ck (nI i + (1 : Int32)) L f = f := fun f => l_ck hi hL 1 (by omega)
  obtain ⟨s, e2, q1, q2⟩ := b_gatherAt h (xs (nI i + (1 : Int32)).toNatClampNeg)
  unfold f_L_law_921 f_L_law_1427
  simp only [c1]
  rw [lt_eq, e2, bo_some, if_pos q1]
  exact hk _ _ _ q2
theorem l_1153 (h : RelN nS nF nT nW bB w v) (hi : i + 6 ≤ L) (hL : L ≤ 3072) (hk : Kp i k) : f_L_law_1153 L xs k w v w2 (nI i) = some 1 := by
  have c1 : ∀ f : Option Int32, x_ck (nI i + (1 : Int32)) L f = f := fun f => l_ck hi hL 1 (by omega)
  obtain ⟨s, e2, q1, q2⟩ := b_byteAt h (xs (nI i + (1 : Int32)).toNatClampNeg)
  unfold f_L_law_1153 f_L_law_1427
  simp only [c1]
  rw [lt_eq, e2, bo_some, if_pos q1]
  exact hk _ _ _ q2
theorem l_1289 (h : RelN nS nF nT nW bB w v) (hi : i + 6 ≤ L) (hL : L ≤ 3072) (hk : Kp i k) : f_L_law_1289 L xs k w v w2 (nI i) = some 1 := by
  have c1 : ∀ f : Option Int32, x_ck (nI i + (1 : Int32)) L f = f := fun f => l_ck hi hL 1 (by omega)
  obtain ⟨s, e2, q1, q2⟩ := b_told h (xs (nI i + (1 : Int32)).toNatClampNeg)
  unfold f_L_law_1289 f_L_law_1427
  simp only [c1]
  rw [lt_eq, e2, bo_some, if_pos q1]
  exact hk _ _ _ q2
theorem l_331 (h : RelN nS nF nT nW bB w v) (hi : i + 6 ≤ L) (hL : L ≤ 3072) (hk : Kp i k) : f_L_law_331 L xs k w v w2 (nI i) = some 1 := by
  obtain ⟨q1, q2⟩ := b_fault h 
  unfold f_L_law_331 f_L_law_1427
  rw [lt_eq, lt_eq, if_pos q1]
  exact hk _ _ _ q2
theorem l_983 (h : RelN nS nF nT nW bB w v) (hi : i + 6 ≤ L) (hL : L ≤ 3072) (hk : Kp i k) : f_L_law_983 L xs k w v w2 (nI i) = some 1 := by
  obtain ⟨q1, q2⟩ := b_meetAt h 
  unfold f_L_law_983 f_L_law_1427
  rw [lt_eq, lt_eq, if_pos q1]
  exact hk _ _ _ q2
theorem l_1021 (h : RelN nS nF nT nW bB w v) (hi : i + 6 ≤ L) (hL : L ≤ 3072) (hk : Kp i k) : f_L_law_1021 L xs k w v w2 (nI i) = some 1 := by
  obtain ⟨q1, q2⟩ := b_innsAt h 
  unfold f_L_law_1021 f_L_law_1427
  rw [lt_eq, lt_eq, if_pos q1]
  exact hk _ _ _ q2
theorem l_1047 (h : RelN nS nF nT nW bB w v) (hi : i + 6 ≤ L) (hL : L ≤ 3072) (hk : Kp i k) : f_L_law_1047 L xs k w v w2 (nI i) = some 1 := by
  obtain ⟨q1, q2⟩ := b_ask h 
  unfold f_L_law_1047 f_L_law_1427
  rw [lt_eq, lt_eq, if_pos q1]
  exact hk _ _ _ q2
theorem l_1402 (h : RelN nS nF nT nW bB w v) (hi : i + 6 ≤ L) (hL : L ≤ 3072) (hk : Kp i k) : f_L_law_1402 L xs k w v w2 (nI i) = some 1 := by
  have c1 : ∀ f : Option Int32, x_ck (nI i + (1 : Int32)) L f = f := fun f => l_ck hi hL 1 (by omega)
  obtain ⟨q1, q2⟩ := b_count h (xs (nI i + (1 : Int32)).toNatClampNeg)
  unfold f_L_law_1402 f_L_law_1427
  simp only [c1]
  rw [lt_eq, lt_eq, if_pos q1]
  exact hk _ _ _ q2
theorem l_293 (h : RelN nS nF nT nW bB w v) (hi : i + 6 ≤ L) (hL : L ≤ 3072) (hk : Kp i k) : f_L_law_293 L xs k w v w2 (nI i) = some 1 := by
  have c1 : ∀ f : Option Int32, x_ck (nI i + (1 : Int32)) L f = f := fun f => l_ck hi hL 1 (by omega)
  obtain ⟨q1, q2⟩ := b_end h (xs (nI i + (1 : Int32)).toNatClampNeg)
  unfold f_L_law_293 f_L_law_1427
  simp only [c1]
  rw [lt_eq, lt_eq, if_pos q1]
  exact hk _ _ _ q2
theorem l_759 (h : RelN nS nF nT nW bB w v) (hi : i + 6 ≤ L) (hL : L ≤ 3072) (hk : Kp i k) : f_L_law_759 L xs k w v w2 (nI i) = some 1 := by
  obtain ⟨r, s, e1, e2, q1, q2⟩ := b_undo h
  cases e1
  unfold f_L_law_759 f_L_law_1427
  rw [lt_eq, e2, bo_some, if_pos q1]
  exact hk _ _ _ q2
theorem l_344 (h : RelN nS nF nT nW bB w v) (hi : i + 6 ≤ L) (hL : L ≤ 3072) (hk : Kp i k) : f_L_law_344 L xs k w v w2 (nI i) = some 1 := by
  have c1 : ∀ f : Option Int32, x_ck (nI i + (1 : Int32)) L f = f := fun f => l_ck hi hL 1 (by omega)
  have c2 : ∀ f : Option Int32, x_ck (nI i + (2 : Int32)) L f = f := fun f => l_ck hi hL 2 (by omega)
  obtain ⟨r, s, e1, e2, q1, q2, q3⟩ := b_walker h (xs (nI i + (1 : Int32)).toNatClampNeg) (xs (nI i + (2 : Int32)).toNatClampNeg)
  unfold f_L_law_344 f_L_law_409 f_L_walker f_L_law_1427
  simp only [c1, c2]
  rw [e1, bo_some]
  by_cases c : r.1 = 0
  · rw [if_pos c, bo_some, e2, bo_some, lt_eq]
    dsimp only
    rw [q1, if_pos c, if_pos rfl, l_gl, if_pos (lg0.mpr (by rw [q2 c]))]
    exact hk _ _ _ q3
  · rw [if_neg c, bo_some, e2, bo_some, lt_eq]
    dsimp only
    have c1 : r.1 = 1 := (t_walker r e1).resolve_left c
    rw [q1, if_pos c1, if_neg one0]
    exact hk _ _ _ q3
theorem l_1060 (h : RelN nS nF nT nW bB w v) (hi : i + 6 ≤ L) (hL : L ≤ 3072) (hk : Kp i k) : f_L_law_1060 L xs k w v w2 (nI i) = some 1 := by
  have c1 : ∀ f : Option Int32, x_ck (nI i + (1 : Int32)) L f = f := fun f => l_ck hi hL 1 (by omega)
  have c2 : ∀ f : Option Int32, x_ck (nI i + (2 : Int32)) L f = f := fun f => l_ck hi hL 2 (by omega)
  obtain ⟨r, s, e1, e2, q1, q2, q3⟩ := b_mean h (xs (nI i + (1 : Int32)).toNatClampNeg) (xs (nI i + (2 : Int32)).toNatClampNeg)
  unfold f_L_law_1060 f_L_law_1125 f_L_mean f_L_law_1427
  simp only [c1, c2]
  rw [e1, bo_some]
  by_cases c : r.1 = 0
  · rw [if_pos c, bo_some, e2, bo_some, lt_eq]
    dsimp only
    rw [q1, if_pos c, if_pos rfl, l_gl, if_pos (lg0.mpr (by rw [q2 c]))]
    exact hk _ _ _ q3
  · rw [if_neg c, bo_some, e2, bo_some, lt_eq]
    dsimp only
    have c1 : r.1 = 1 := (t_mean r e1).resolve_left c
    rw [q1, if_pos c1, if_neg one0]
    exact hk _ _ _ q3
theorem l_1427 (h : Rel w v) (hk : Kp i k) : f_L_law_1427 L xs k w v w2 (nI i) = some 1 := by
  unfold f_L_law_1427
  exact hk _ _ _ h
end LAW
