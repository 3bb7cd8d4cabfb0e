-- of whom it may be said: the whole tree.
theorem TR_ne {g : Nat → Int32} {n k : Nat} : ¬ TR g n k [] := by
  intro h
  cases n with
  | zero => exact h
  | succ n =>
    unfold TR at h
    rcases h with ⟨-, a, Q, -, -, -, h⟩ | ⟨-, a, b, Q1, Q2, -, -, -, -, -, -, h⟩ | ⟨-, a, b, Q1, Q2, -, -, -, -, -, -, h⟩ | ⟨w, s, x, -, -, -, h, -⟩
    · exact absurd (congrArg List.length h) (by rw [len_1]; simp)
    · exact absurd (congrArg List.length h) (by rw [len_1]; simp)
    · exact absurd (congrArg List.length h) (by rw [len_1]; simp)
    · exact absurd h (by simp)
theorem TR_pos {g : Nat → Int32} {n k : Nat} {P : List (Int32 × Int32 × Int32)} (h : TR g n k P) : 0 < P.length := by
  rcases Nat.eq_zero_or_pos P.length with z | z
  · rw [List.eq_nil_of_length_eq_zero z] at h; exact absurd h TR_ne
  · exact z
section D5
variable {nS nF nT nW bB : Nat} {v u : XM}
def EvC (u : XM) (m : Nat) (lost : Int32) (P : List (Int32 × Int32 × Int32)) (val : Int32) : Prop := ∀ (S : List Int32) (D : XM) (i : Nat), S.length ≤ i → i + P.length ≤ m → D.1 0 1 = nI m → Hl (D.1 8) S → (∀ j x, P[j]? = some x → D.1 2 (i + j) = x.1 ∧ D.1 4 (i + j) = x.2.1 ∧ D.1 6 (i + j) = x.2.2) → ∃ D', (∀ N, CT4 u (N + P.length) D lost (nI S.length) (nI i) = CT4 u N D' lost (nI (S.length + 1)) (nI (i + P.length))) ∧ Hl (D'.1 8) (S ++ [val]) ∧ (∀ q, q ≠ 8 → D'.1 q = D.1 q) ∧ D'.2 = D.2
def EvR (v : XM) (nW n k : Nat) (val : Int32) : Prop := ∀ p, p < nW → ∀ d, n ≤ d → ∀ G, ∃ G', g_holds d (x_row v 11 G) (nI k) (nI p) = some (bI (bt val p), x_row v 11 G')
theorem those_w {D : XM} {K : XM → Int32 → Int32 → Int32 → Option (Int32 × XM)} {lost hi w : Int32} {m i : Nat} (h1 : D.1 0 1 = nI m) (hi2 : i < m) (hm : m ≤ 40) (hw : D.1 2 i = w) : f_X4_those_5 u K D lost hi (nI i) = if w = 19 then x_lt (r_get 40 (x_sub D 7) (hi - 1)) (fun y15 => x_lt (r_put 40 (x_sub D 7) (hi - 1) (y15 ^^^ (-1))) (fun y16 => x_lt (x_put D 7 2 y16) (fun m17 => K m17 lost hi (nI (i + 1))))) else if w = 18 then x_lt (r_get 40 (x_sub D 7) ((hi + (-1)) - 1)) (fun y11 => x_lt (r_get 40 (x_sub D 7) (hi + (-1))) (fun y12 => x_lt (r_put 40 (x_sub D 7) ((hi + (-1)) - 1) (y11 &&& y12)) (fun y13 => x_lt (x_put D 7 2 y13) (fun m14 => K m14 lost (hi + (-1)) (nI (i + 1)))))) else if w = 17 then x_lt (r_get 40 (x_sub D 7) ((hi + (-1)) - 1)) (fun y7 => x_lt (r_get 40 (x_sub D 7) (hi + (-1))) (fun y8 => x_lt (r_put 40 (x_sub D 7) ((hi + (-1)) - 1) (y7 ||| y8)) (fun y9 => x_lt (x_put D 7 2 y9) (fun m10 => K m10 lost (hi + (-1)) (nI (i + 1)))))) else if w = 22 then f_X4_those_164 u K D lost hi (nI i) hi lost else x_bo (f_X4_fitting D u (nI i)) (fun y6 => f_X4_those_164 u K D lost hi (nI i) hi y6) := by
  have g : r_get 40 (x_sub D 1) (nI i) = w := (rg_in (by omega) (by omega)).trans hw
  unfold f_X4_those_5 f_X4_those_170
  rw [h1, if_neg (nI_ge hi2 (by omega)), g, nI_1]; rfl
theorem bt_and (a b : Int32) (p : Nat) : bI (bt (a &&& b) p) = if bI (bt a p) = 0 then 0 else bI (bt b p) := by
  rw [b_and]
  cases bt a p <;> rfl
theorem bt_or (a b : Int32) (p : Nat) : bI (bt (a ||| b) p) = if bI (bt a p) = 0 then bI (bt b p) else 1 := by
  rw [b_or]
  cases bt a p <;> rfl
theorem Hl.two {g : Nat → Int32} {S : List Int32} {a b : Int32} (h : Hl g (S ++ [a] ++ [b])) : Hl g S ∧ g S.length = a ∧ g (S.length + 1) = b := by
  refine ⟨h.pre.pre, h.pre.last, ?_⟩
  have := h.last
  rwa [len_1] at this
theorem ev (h : RW nS nF nT nW bB u v) {m : Nat} (hm : m ≤ 40) : ∀ (n k : Nat) (P : List (Int32 × Int32 × Int32)), TR (fun j => v.1 2 (113 + j)) n k P → k < 60 → ∃ val : Int32, EvC u m (bs (lsB nS v) nW) P val ∧ EvR v nW n k val
  | 0, _, _, ht, _ => absurd ht id
  | n + 1, k, P, ht, hk => by
    have hb := h.b
    unfold TR at ht
    rcases ht with ⟨h0, a, Q, ha, h1, h2, rfl⟩ | ⟨h0, a, b, Q1, Q2, ha, hb', h1, h1', h2, h3, rfl⟩ | ⟨h0, a, b, Q1, Q2, ha, hb', h1, h1', h2, h3, rfl⟩ | ⟨w, s, x, w20, w28, h0, rfl, h23, h25⟩
    · -- not
      obtain ⟨va, c1, c2⟩ := ev h hm n a Q h2 (by omega)
      refine ⟨va ^^^ (-1), fun S D i hS hi hD hp hst => ?_, fun p hp d hd G => ?_⟩
      · rw [len_1] at hi
        obtain ⟨D1, e1, e2, e3, e4⟩ := c1 S D i hS (by omega) hD hp (fun j x hx => hst j x (by
          have : j < Q.length := (List.getElem?_eq_some_iff.mp hx).1
          rw [List.getElem?_append_left this]; exact hx))
        have hw := (hst Q.length (19, 0, 0) (by rw [List.getElem?_append_right (Nat.le_refl _), Nat.sub_self]; rfl)).1
        have hw1 : D1.1 2 (i + Q.length) = 19 := (congrFun (e3 2 (by omega)) _).trans hw
        have hg : r_get 40 (x_sub D1 7) (nI S.length) = va := (rg_in (by omega) (by omega)).trans e2.last
        refine ⟨x_row D1 8 (up (D1.1 8) S.length (va ^^^ (-1))), fun N => ?_, ?_, fun q hq => by rw [row_off hq]; exact e3 q hq, e4⟩
        · rw [len_1, show N + (Q.length + 1) = N + 1 + Q.length by omega, e1, CT4_s, those_w (m := m) ((congrFun (e3 0 (by omega)) 1).trans hD) (by omega) hm hw1, if_pos rfl, (nI_m1 (by omega)).2, Nat.add_sub_cancel, hg]
          simp only [lt_eq]
          rw [put_rput (by omega) (by omega)]; rfl
        · rw [row_at]; exact e2.pre.snoc _
      · obtain ⟨d, rfl⟩ : ∃ q, d = q + 1 := ⟨d - 1, by omega⟩
        obtain ⟨G', e⟩ := c2 p hp d (by omega) G
        refine ⟨G', ?_⟩
        show f_X12_holds (g_holds d) (x_row v 11 G) (nI k) (nI p) = _
        rw [(r_holds (rc := g_holds d) (v := x_row v 11 G) (k := k) hk rfl rfl rfl).1 h0, show (x_row v 11 G).1 2 (113 + 4 * k + 1) = nI a from h1, e, bo_some, b_not va (by omega)]
        cases bt va p <;> rfl
    · -- and
      obtain ⟨va, c1, c2⟩ := ev h hm n a Q1 h2 (by omega)
      obtain ⟨vb, c3, c4⟩ := ev h hm n b Q2 h3 (by omega)
      refine ⟨va &&& vb, fun S D i hS hi hD hp hst => ?_, fun p hp d hd G => ?_⟩
      · rw [len_1, List.length_append] at hi
        obtain ⟨D1, e1, e2, e3, e4⟩ := c1 S D i hS (by omega) hD hp (fun j x hx => hst j x (by
          have : j < Q1.length := (List.getElem?_eq_some_iff.mp hx).1
          rw [List.append_assoc, List.getElem?_append_left this]; exact hx))
        obtain ⟨D2, f1, f2, f3, f4⟩ := c3 (S ++ [va]) D1 (i + Q1.length) (by rw [len_1]; have := TR_pos h2; omega) (by omega) ((congrFun (e3 0 (by omega)) 1).trans hD) e2 (fun j x hx => by
          have hj : j < Q2.length := (List.getElem?_eq_some_iff.mp hx).1
          have := hst (Q1.length + j) x (by
            rw [List.getElem?_append_left (by rw [List.length_append]; omega), List.getElem?_append_right (by omega), Nat.add_sub_cancel_left]; exact hx)
          rw [e3 2 (by omega), e3 4 (by omega), e3 6 (by omega), Nat.add_assoc]; exact this)
        rw [len_1] at f1
        have hw := (hst (Q1 ++ Q2).length (18, 0, 0) (by rw [List.getElem?_append_right (Nat.le_refl _), Nat.sub_self]; rfl)).1
        have hw1 : D2.1 2 (i + Q1.length + Q2.length) = 18 := by
          rw [f3 2 (by omega), e3 2 (by omega)]
          rw [List.length_append, ← Nat.add_assoc] at hw; exact hw
        obtain ⟨p1, p2, p3⟩ := f2.two
        have hga : r_get 40 (x_sub D2 7) (nI S.length) = va := (rg_in (by omega) (by omega)).trans p2
        have hgb : r_get 40 (x_sub D2 7) (nI (S.length + 1)) = vb := (rg_in (by have := TR_pos h2; omega) (by omega)).trans p3
        refine ⟨x_row D2 8 (up (D2.1 8) S.length (va &&& vb)), fun N => ?_, ?_, fun q hq => by rw [row_off hq, f3 q hq]; exact e3 q hq, by rw [← e4, ← f4]; rfl⟩
        · rw [len_1, List.length_append, show N + (Q1.length + Q2.length + 1) = N + 1 + Q2.length + Q1.length by omega, e1, f1, CT4_s, those_w (m := m) (by rw [f3 0 (by omega), e3 0 (by omega)]; exact hD) (by omega) hm hw1, if_neg (by decide), if_pos rfl, (nI_m1 (n := S.length + 1 + 1) (by omega)).1, Nat.add_sub_cancel, (nI_m1 (n := S.length + 1) (by omega)).2, Nat.add_sub_cancel, hga, hgb]
          simp only [lt_eq]
          rw [put_rput (by omega) (by omega), show i + (Q1.length + Q2.length + 1) = i + Q1.length + Q2.length + 1 by omega]
        · rw [row_at]; exact p1.snoc _
      · obtain ⟨d, rfl⟩ : ∃ q, d = q + 1 := ⟨d - 1, by omega⟩
        obtain ⟨G1, e⟩ := c2 p hp d (by omega) G
        obtain ⟨G2, e'⟩ := c4 p hp d (by omega) G1
        show ∃ G', f_X12_holds (g_holds d) (x_row v 11 G) (nI k) (nI p) = _
        rw [(r_holds (rc := g_holds d) (v := x_row v 11 G) (k := k) hk rfl rfl rfl).2.1 h0, show (x_row v 11 G).1 2 (113 + 4 * k + 1) = nI a from h1, show (x_row v 11 G).1 2 (113 + 4 * k + 2) = nI b from h1', e, bo_some, bt_and]
        dsimp only
        by_cases z : bI (bt va p) = 0
        · rw [if_pos z, if_pos z]; exact ⟨G1, rfl⟩
        · rw [if_neg z, if_neg z, e', bo_some]
          cases bt vb p
          · exact ⟨G2, rfl⟩
          · exact ⟨G2, rfl⟩
    · -- or
      obtain ⟨va, c1, c2⟩ := ev h hm n a Q1 h2 (by omega)
      obtain ⟨vb, c3, c4⟩ := ev h hm n b Q2 h3 (by omega)
      refine ⟨va ||| vb, fun S D i hS hi hD hp hst => ?_, fun p hp d hd G => ?_⟩
      · rw [len_1, List.length_append] at hi
        obtain ⟨D1, e1, e2, e3, e4⟩ := c1 S D i hS (by omega) hD hp (fun j x hx => hst j x (by
          have : j < Q1.length := (List.getElem?_eq_some_iff.mp hx).1
          rw [List.append_assoc, List.getElem?_append_left this]; exact hx))
        obtain ⟨D2, f1, f2, f3, f4⟩ := c3 (S ++ [va]) D1 (i + Q1.length) (by rw [len_1]; have := TR_pos h2; omega) (by omega) ((congrFun (e3 0 (by omega)) 1).trans hD) e2 (fun j x hx => by
          have hj : j < Q2.length := (List.getElem?_eq_some_iff.mp hx).1
          have := hst (Q1.length + j) x (by
            rw [List.getElem?_append_left (by rw [List.length_append]; omega), List.getElem?_append_right (by omega), Nat.add_sub_cancel_left]; exact hx)
          rw [e3 2 (by omega), e3 4 (by omega), e3 6 (by omega), Nat.add_assoc]; exact this)
        rw [len_1] at f1
        have hw := (hst (Q1 ++ Q2).length (17, 0, 0) (by rw [List.getElem?_append_right (Nat.le_refl _), Nat.sub_self]; rfl)).1
        have hw1 : D2.1 2 (i + Q1.length + Q2.length) = 17 := by
          rw [f3 2 (by omega), e3 2 (by omega)]
          rw [List.length_append, ← Nat.add_assoc] at hw; exact hw
        obtain ⟨p1, p2, p3⟩ := f2.two
        have hga : r_get 40 (x_sub D2 7) (nI S.length) = va := (rg_in (by omega) (by omega)).trans p2
        have hgb : r_get 40 (x_sub D2 7) (nI (S.length + 1)) = vb := (rg_in (by have := TR_pos h2; omega) (by omega)).trans p3
        refine ⟨x_row D2 8 (up (D2.1 8) S.length (va ||| vb)), fun N => ?_, ?_, fun q hq => by rw [row_off hq, f3 q hq]; exact e3 q hq, by rw [← e4, ← f4]; rfl⟩
        · rw [len_1, List.length_append, show N + (Q1.length + Q2.length + 1) = N + 1 + Q2.length + Q1.length by omega, e1, f1, CT4_s, those_w (m := m) (by rw [f3 0 (by omega), e3 0 (by omega)]; exact hD) (by omega) hm hw1, if_neg (by decide), if_neg (by decide), if_pos rfl, (nI_m1 (n := S.length + 1 + 1) (by omega)).1, Nat.add_sub_cancel, (nI_m1 (n := S.length + 1) (by omega)).2, Nat.add_sub_cancel, hga, hgb]
          simp only [lt_eq]
          rw [put_rput (by omega) (by omega), show i + (Q1.length + Q2.length + 1) = i + Q1.length + Q2.length + 1 by omega]
        · rw [row_at]; exact p1.snoc _
      · obtain ⟨d, rfl⟩ : ∃ q, d = q + 1 := ⟨d - 1, by omega⟩
        obtain ⟨G1, e⟩ := c2 p hp d (by omega) G
        obtain ⟨G2, e'⟩ := c4 p hp d (by omega) G1
        show ∃ G', f_X12_holds (g_holds d) (x_row v 11 G) (nI k) (nI p) = _
        rw [(r_holds (rc := g_holds d) (v := x_row v 11 G) (k := k) hk rfl rfl rfl).2.2 h0, show (x_row v 11 G).1 2 (113 + 4 * k + 1) = nI a from h1, show (x_row v 11 G).1 2 (113 + 4 * k + 2) = nI b from h1', e, bo_some, bt_or]
        dsimp only
        by_cases z : bI (bt va p) = 0
        · rw [if_pos z, if_pos z, e', bo_some]
          cases bt vb p
          · exact ⟨G2, rfl⟩
          · exact ⟨G2, rfl⟩
        · rw [if_neg z, if_neg z]; exact ⟨G1, rfl⟩
    · -- a plain ONE
      refine ⟨bs (oneB nS v w s x) nW, fun S D i hS hi hD hp hst => ?_, fun p hp d hd G => ?_⟩
      · have hi1 : i + 1 ≤ m := hi
        obtain ⟨z2, z4, z6⟩ := hst 0 (nI w, s, x) rfl
        rw [Nat.add_zero] at z2 z4 z6
        have n19 : ¬ nI w = 19 := fun q => by have := nI_iff (b := 19) (by omega) (by omega) q; omega
        have n18 : ¬ nI w = 18 := fun q => by have := nI_iff (b := 18) (by omega) (by omega) q; omega
        have n17 : ¬ nI w = 17 := fun q => by have := nI_iff (b := 17) (by omega) (by omega) q; omega
        have e164 : ∀ (N : Nat) (z : Int32), f_X4_those_164 u (CT4 u N) D (bs (lsB nS v) nW) (nI S.length) (nI i) (nI S.length) z = CT4 u N (x_row D 8 (up (D.1 8) S.length z)) (bs (lsB nS v) nW) (nI (S.length + 1)) (nI (i + 1)) := fun N z => by
          unfold f_X4_those_164 f_X4_those_170
          rw [lt_eq, lt_eq, put_rput (by omega) (by omega), nI_1, nI_1]
        refine ⟨x_row D 8 (up (D.1 8) S.length (bs (oneB nS v w s x) nW)), fun N => ?_, by rw [row_at]; exact hp.snoc _, fun q hq => row_off hq, rfl⟩
        show CT4 u (N + 1) D _ _ _ = CT4 u N _ _ _ (nI (i + 1))
        rw [CT4_s, those_w (m := m) hD (by omega) hm z2, if_neg n19, if_neg n18, if_neg n17]
        by_cases c : w = 22
        · subst c
          rw [if_pos (show nI 22 = 22 from rfl), e164]
          rfl
        · rw [if_neg (show ¬ nI w = 22 from fun q => c (nI_iff (b := 22) (by omega) (by omega) q)), c_fitting h (by omega) w20 w28 c z2 z4 z6, bo_some, e164]
      · obtain ⟨d, rfl⟩ : ∃ q, d = q + 1 := ⟨d - 1, by omega⟩
        obtain ⟨G', e⟩ := r_one (rc := g_holds d) (G := G) h hp hk w20 w28 (show v.1 2 (113 + 4 * k) = nI (50 + w) from h0) (fun q => h23 q) (fun q => h25 q)
        refine ⟨G', ?_⟩
        show f_X12_holds (g_holds d) (x_row v 11 G) (nI k) (nI p) = _
        rw [e, b_bs (by omega) (by omega), decide_eq_true hp, Bool.true_and]
end D5
