-- a LINE of a BOOK.
def Eb (q : XM) : Option (Int32 × XM) := x_bo (f_X12_readEnd q) (fun y6 => if y6.1 = (0 : Int32) then some ((0 : Int32), y6.2) else some ((1 : Int32), y6.2))
def RK (R : Option (Int32 × XM)) (j : Nat) : Option (Int32 × XM) := x_bo R (fun y => x_bo (f_X12_keep y.2 (nI j) y.1) (fun z => if z.1 = (0 : Int32) then some ((0 : Int32), z.2) else Eb z.2))
def LB (n lim b : Nat) (T0 v0 : XM) (nT nW k : Nat) (B : XM) (C : Option (Int32 × XM × XM)) (R : Option (Int32 × XM)) : Prop := (∃ T' v', C = some (0, B, T') ∧ R = some (0, v') ∧ Bd T0 v0 T' v') ∨ (∃ (B' T' v' : XM) (b' p' s' : Nat) (t' : Tok), C = some (1, B', T') ∧ R = Eb v' ∧ b ≤ b' ∧ k < 40 ∧ BKr nT nW (k + 1) B' v' ∧ (∀ j, j ≠ 4 → B'.1 0 j = B.1 0 j) ∧ v'.1 0 40 = nI k ∧ St n lim b' p' s' t' T0 v0 T' v')
section CMM
variable {n lim b p s a k e nS nF nT nW bB : Nat} {t : Tok} {T v T' v' T'' v'' T0 v0 V B D' w y3 : XM} {l : List Nat}
theorem LB.mono {C : Option (Int32 × XM × XM)} {R : Option (Int32 × XM)} (h : LB n lim b T0 v0 nT nW k B C R) (hb : a ≤ b) : LB n lim a T0 v0 nT nW k B C R := by
  rcases h with h | ⟨B', T', v', b', p', s', t', h1, h2, h3, h4⟩
  · exact Or.inl h
  · exact Or.inr ⟨B', T', v', b', p', s', t', h1, h2, by omega, h4⟩
theorem rk_bad {R : Option (Int32 × XM)} {j : Nat} (h : R = some (0, v')) : RK R j = some (0, v') := by
  unfold RK; rw [h, bo_some, r_keep0, bo_some, if_pos rfl]
theorem rk_ok {R : Option (Int32 × XM)} {j x : Nat} (hj : j < 120) (h : R = some (1, v')) (h13 : v'.1 0 13 = nI x) : RK R j = Eb (x_si v' 17 j (nI x)) := by
  unfold RK; rw [h, bo_some, r_keep1 hj, bo_some, if_neg one0, h13]
theorem c103_bad {d : Int32} (h : f_X8_advance T = some T') (h2 : f_X0_takeWhat T' V d = some (-1, T'')) {w : Int32} : f_X0_readLine_103 V B T w d = some (0, B, T'') := by
  unfold f_X0_readLine_103 f_X0_readLine_139 f_X0_readLine_140
  rw [h, bo_some, h2, bo_some, if_pos rfl, if_pos rfl]
theorem c103_ok {d w : Int32} {x : Nat} (hx : x < 1000) (h : f_X8_advance T = some T') (h2 : f_X0_takeWhat T' V d = some (nI x, T'')) (hd : ¬ d = 14) : f_X0_readLine_103 V B T w d = f_X0_readLine_140 V B T'' w d (nI x) 0 := by
  unfold f_X0_readLine_103 f_X0_readLine_139
  rw [h, bo_some, h2, bo_some, if_neg (nI_nm1 (by omega)), if_neg hd]
theorem c103_slip {w : Int32} {x : Nat} (hx : x < 1000) (h : f_X8_advance T = some T') (h2 : f_X0_takeWhat T' V 14 = some (nI x, T'')) : f_X0_readLine_103 V B T w 14 = x_bo (f_X8_takeNumber T'' 1 30) (fun y13 => f_X0_readLine_140 V B y13.2 w 14 (nI x) y13.1) := by
  unfold f_X0_readLine_103
  rw [h, bo_some, h2, bo_some, if_neg (nI_nm1 (by omega)), if_pos rfl]
theorem r165_0 {s2 : Int32} (hk : k < 40) (hg : f_X12_go (x_si (x_si w 17 (3 * k + 1) s2) 17 (3 * k + 2) 0) = some y3) : f_X12_readBookLine_165 w 0 (nI (3 * k)) (nI (3 * k) + 1) s2 = x_bo (f_X12_readDoes y3 (nI (3 * k))) (fun y5 => if y5.1 = (0 : Int32) then some ((0 : Int32), y5.2) else Eb y5.2) := by
  have a2 : nI (3 * k) + 2 = nI (3 * k + 2) := by rw [kl_2, nI_add]
  unfold f_X12_readBookLine_165
  rw [nI_1, a2, ck_in (by omega) (by omega), pa_si (by omega), lt_eq, ck_in (by omega) (by omega), pa_si (by omega), lt_eq, hg, bo_some, if_pos rfl]; rfl
theorem r165_4 {s2 : Int32} (hk : k < 40) (hg : f_X12_go (x_si (x_si w 17 (3 * k + 1) s2) 17 (3 * k + 2) 0) = some y3) : f_X12_readBookLine_165 w 4 (nI (3 * k)) (nI (3 * k) + 1) s2 = RK (f_X12_readFoldNumber y3) (3 * k + 1) := by
  have a2 : nI (3 * k) + 2 = nI (3 * k + 2) := by rw [kl_2, nI_add]
  unfold f_X12_readBookLine_165
  rw [nI_1, a2, ck_in (by omega) (by omega), pa_si (by omega), lt_eq, ck_in (by omega) (by omega), pa_si (by omega), lt_eq, hg, bo_some, if_neg (by decide), if_neg (by decide), if_neg (by decide), if_neg (by decide), if_pos rfl]; rfl
theorem r165_5 {s2 : Int32} (hk : k < 40) (hg : f_X12_go (x_si (x_si w 17 (3 * k + 1) s2) 17 (3 * k + 2) 0) = some y3) : f_X12_readBookLine_165 w 5 (nI (3 * k)) (nI (3 * k) + 1) s2 = x_bo (f_X12_readFoldNumber y3) (fun y => x_bo (f_X12_keep y.2 (nI (3 * k + 1)) y.1) (fun z => if z.1 = (0 : Int32) then some ((0 : Int32), z.2) else RK (f_X12_readNumber z.2 1 30) (3 * k + 2))) := by
  have a2 : nI (3 * k) + 2 = nI (3 * k + 2) := by rw [kl_2, nI_add]
  unfold f_X12_readBookLine_165
  rw [nI_1, a2, ck_in (by omega) (by omega), pa_si (by omega), lt_eq, ck_in (by omega) (by omega), pa_si (by omega), lt_eq, hg, bo_some, if_neg (by decide), if_neg (by decide), if_neg (by decide), if_neg (by decide), if_neg (by decide), if_pos rfl]; rfl
theorem r165_6 {s2 : Int32} (hk : k < 40) (hg : f_X12_go (x_si (x_si w 17 (3 * k + 1) s2) 17 (3 * k + 2) 0) = some y3) : f_X12_readBookLine_165 w 6 (nI (3 * k)) (nI (3 * k) + 1) s2 = RK (f_X12_readKind y3) (3 * k + 1) := by
  have a2 : nI (3 * k) + 2 = nI (3 * k + 2) := by rw [kl_2, nI_add]
  unfold f_X12_readBookLine_165
  rw [nI_1, a2, ck_in (by omega) (by omega), pa_si (by omega), lt_eq, ck_in (by omega) (by omega), pa_si (by omega), lt_eq, hg, bo_some, if_neg (by decide), if_neg (by decide), if_neg (by decide), if_neg (by decide), if_neg (by decide), if_neg (by decide), if_pos rfl]; rfl
theorem r165_7 {s2 : Int32} (hk : k < 40) (hg : f_X12_go (x_si (x_si w 17 (3 * k + 1) s2) 17 (3 * k + 2) 0) = some y3) : f_X12_readBookLine_165 w 7 (nI (3 * k)) (nI (3 * k) + 1) s2 = RK (f_X12_readNumber y3 1 60) (3 * k + 1) := by
  have a2 : nI (3 * k) + 2 = nI (3 * k + 2) := by rw [kl_2, nI_add]
  unfold f_X12_readBookLine_165
  rw [nI_1, a2, ck_in (by omega) (by omega), pa_si (by omega), lt_eq, ck_in (by omega) (by omega), pa_si (by omega), lt_eq, hg, bo_some, if_neg (by decide), if_neg (by decide), if_neg (by decide), if_neg (by decide), if_neg (by decide), if_neg (by decide), if_neg (by decide)]; rfl
theorem fold_no : f_X12_readFoldNumber v = f_X12_readNumber v 0 11 := by
  unfold f_X12_readFoldNumber
  cases f_X12_readNumber v 0 11 with
  | none => rfl
  | some r => rfl
/-- deeds with one thing behind them -/
theorem tail1 {T1 v3 : XM} {p1 s1 : Nat} {t1 : Tok} (hs : St n lim p p1 s1 t1 T0 v0 T1 v3) (ha : f_X8_advance T = some T1) (hk : BKr nT nW k B v) (k40 : k < 40) (e40 : v3.1 0 40 = nI k) {C R : Option (Int32 × XM)} {rg : Nat → Prop} (hrd : RD n lim p1 T0 v0 v3 C R rg) (hC : f_X0_takeWhat T1 V (nI (9 + e)) = x_bo C (fun y => some (y.1, y.2))) (he : e < 8) (he5 : e ≠ 5) {wh : Int32} {j : Nat} {who z : Nat} (hj : j = 3 * k + 1 ∧ 4 ≤ e ∨ j = 3 * k + 2 ∧ e < 4) (h17 : ∀ i, i < 3 * k → v3.1 17 i = v.1 17 i) (h0 : v3.1 17 (3 * k) = nI e) (h1 : e < 4 → v3.1 17 (3 * k + 1) = nI who ∧ who < nW ∧ wh = nI who) (h2 : 4 ≤ e → v3.1 17 (3 * k + 2) = 0 ∧ wh = 0) (hrg : ∀ x, rg x → (e = 1 → x < nT) ∧ (e = 2 → x < nW) ∧ (e = 3 → x = 0) ∧ (e = 6 → x < 3) ∧ (e = 7 → 1 ≤ x ∧ x ≤ 60)) (hnW : nW ≤ 5) : LB n lim p T0 v0 nT nW k B (f_X0_readLine_103 V B T wh (nI (9 + e))) (RK R j) := by
  rcases hrd with ⟨T', v', q1, q2, q3⟩ | ⟨x, T', v', p', s', t', qx, qx2, q1, q2, q3, q4, q5, q6⟩
  · rw [q1] at hC
    exact Or.inl ⟨T', v', c103_bad ha hC, rk_bad q2, q3⟩
  · rw [q1] at hC
    have hd : ¬ nI (9 + e) = 14 := fun z => he5 (by have := nI_iff (b := 14) (by omega) (by omega) z; omega)
    have hj2 : j < 120 := by omega
    have hp : p ≤ p1 := hs.1.2.1.2.2.2
    obtain ⟨-, -, -, -, -, w6⟩ := bk4_at (B := B) (k := k) (d := nI (9 + e)) (w := wh) (x := nI x) (l := 0)
    refine Or.inr ⟨bk4 B k (nI (9 + e)) wh (nI x) 0, T', x_si v' 17 j (nI x), p1, p', s', t', ?_, rk_ok hj2 q2 q3, hp, k40, ?_, w6, ?_, q6.s17⟩
    · rw [c103_ok qx2 ha hC hd, c_140 hk.1 k40 (nI_nm1 (by omega)) (show ¬ (0 : Int32) = -1 by decide)]
    · obtain ⟨g1, g2, g3, g6, g7⟩ := hrg x qx
      rcases hj with ⟨hj, hj4⟩ | ⟨hj, hj4⟩
      · obtain ⟨w1, w2⟩ := h2 hj4
        refine hk.more (x := x) (y := 0) he (fun i hi => ?_) ?_ ?_ ?_ ⟨qx2, by omega⟩ (fun z => absurd z (by omega)) (fun _ => ⟨w2, rfl, rfl, fun _ => rfl, fun z => absurd z he5, g6, g7⟩)
        · rw [si_n (by omega), q4, h17 i hi]
        · rw [si_n (by omega), q4, h0]
        · rw [hj, si_0]
        · rw [si_n (by omega), q4, w1]; rfl
      · obtain ⟨w1, w2, w3⟩ := h1 hj4
        refine hk.more (x := who) (y := x) he (fun i hi => ?_) ?_ ?_ ?_ ⟨by omega, qx2⟩ (fun _ => ⟨w2, w3, rfl, rfl, g1, g2, g3⟩) (fun z => absurd z (by omega))
        · rw [si_n (by omega), q4, h17 i hi]
        · rw [si_n (by omega), q4, h0]
        · rw [si_n (by omega), q4, w1]
        · rw [hj, si_0]
    · rw [congrFun (si_r (show 0 ≠ 17 by omega)) 40, q5]; exact e40
end CMM
