-- tokens.
theorem nI_ge' {a b : Nat} (h : b ≤ a) (ha : a < 2 ^ 31) : ¬ nI a < nI b := fun q => by rw [nI_ltI (by omega) (by omega)] at q; omega
abbrev Tok : Type := Nat × Nat × List Nat
def TB (T v : XM) : Prop := (∀ j, j < 940 → T.1 2 j = v.1 1 j ∧ ∃ b, b < 256 ∧ v.1 1 j = nI b) ∧ ∀ i, i < 29 → T.2 3 i = lN (eN 32 (x_wd.getD i []))
def TkC (t : Tok) (T v : XM) : Prop := (t.1 ≤ 4 ∧ v.1 0 7 = nI t.1 ∧ T.1 0 6 = (if t.1 = 4 then nI t.2.1 else nI t.1)) ∧ (t.1 = 4 → v.1 0 9 = nI t.2.1 ∧ sgn t.2.1 = true) ∧ (t.1 = 3 → T.1 0 7 = nI t.2.1 ∧ v.1 0 8 = nI t.2.1 ∧ t.2.1 < 1000) ∧ (t.1 = 2 → okW t.2.2 ∧ T.2 0 9 = lN (eN 32 t.2.2) ∧ v.2 0 12 = lN (eN 27 t.2.2)) ∧ T.1 0 8 = (if t.1 = 2 ∧ wi t.2.2 < 29 then nI (wi t.2.2) else -1)
def Tk0 (n lim p : Nat) (T v : XM) : Prop := (n ≤ 940 ∧ lim ≤ 940 ∧ p ≤ n) ∧ (T.1 0 2 = nI n ∧ v.1 0 3 = nI n ∧ T.1 0 3 = nI lim ∧ v.1 0 4 = nI lim ∧ T.1 0 4 = nI p ∧ v.1 0 5 = nI p) ∧ TB T v
/-- a token t, read from b on: it begins at s, what is behind it begins at p -/
def Tk (n lim b p s : Nat) (t : Tok) (T v : XM) : Prop := Tk0 n lim p T v ∧ (T.1 0 5 = nI s ∧ v.1 0 6 = nI s ∧ s ≤ 940 ∧ b ≤ p) ∧ TkC t T v ∧ (2 ≤ t.1 → b ≤ s ∧ s < p ∧ s < lim) ∧ (t.1 = 4 → p = s + 1)
def FT (T T' : XM) : Prop := (∀ i, i ≠ 0 → T'.1 i = T.1 i) ∧ (∀ j, ¬ (4 ≤ j ∧ j ≤ 8) → T'.1 0 j = T.1 0 j) ∧ ∀ i, i ≠ 0 → T'.2 i = T.2 i
def FV (v v' : XM) : Prop := (∀ i, i ≠ 0 → v'.1 i = v.1 i) ∧ (∀ j, ¬ (5 ≤ j ∧ j ≤ 9) → v'.1 0 j = v.1 0 j) ∧ ∀ i, i ≠ 0 → v'.2 i = v.2 i
theorem si_0 {v : XM} {i k : Nat} {x : Int32} : (x_si v i k x).1 i k = x := if_pos ⟨rfl, rfl⟩
theorem si_n {v : XM} {i k j : Nat} {x : Int32} (h : j ≠ k) : (x_si v i k x).1 i j = v.1 i j := if_neg (fun q => h q.2)
theorem si_r {v : XM} {i k i' : Nat} {x : Int32} (h : i' ≠ i) : (x_si v i k x).1 i' = v.1 i' := by
  funext j; exact if_neg (fun q => h q.1)
theorem sl_0 {v : XM} {i k : Nat} {x : Int64} : (x_sl v i k x).2 i k = x := if_pos ⟨rfl, rfl⟩
theorem sl_r {v : XM} {i k i' : Nat} {x : Int64} (h : i' ≠ i) : (x_sl v i k x).2 i' = v.2 i' := by
  funext j; exact if_neg (fun q => h q.1)
section TK
variable {n lim b p s : Nat} {t : Tok} {T v T' v' T'' v'' : XM}
theorem FT.rf : FT T T := ⟨fun _ _ => rfl, fun _ _ => rfl, fun _ _ => rfl⟩
theorem FV.rf : FV v v := ⟨fun _ _ => rfl, fun _ _ => rfl, fun _ _ => rfl⟩
theorem FT.si (h : FT T T') {j : Nat} {x : Int32} (hj : 4 ≤ j ∧ j ≤ 8) : FT T (x_si T' 0 j x) := ⟨fun i hi => (si_r hi).trans (h.1 i hi), fun k hk => (si_n (fun q => hk (by rw [q]; exact hj))).trans (h.2.1 k hk), h.2.2⟩
theorem FV.si (h : FV v v') {j : Nat} {x : Int32} (hj : 5 ≤ j ∧ j ≤ 9) : FV v (x_si v' 0 j x) := ⟨fun i hi => (si_r hi).trans (h.1 i hi), fun k hk => (si_n (fun q => hk (by rw [q]; exact hj))).trans (h.2.1 k hk), h.2.2⟩
theorem FT.sl (h : FT T T') {j : Nat} {x : Int64} : FT T (x_sl T' 0 j x) := ⟨h.1, h.2.1, fun i hi => (sl_r hi).trans (h.2.2 i hi)⟩
theorem FV.sl (h : FV v v') {j : Nat} {x : Int64} : FV v (x_sl v' 0 j x) := ⟨h.1, h.2.1, fun i hi => (sl_r hi).trans (h.2.2 i hi)⟩
theorem FT.tr (h : FT T T') (g : FT T' T'') : FT T T'' := ⟨fun i hi => (g.1 i hi).trans (h.1 i hi), fun i hi => (g.2.1 i hi).trans (h.2.1 i hi), fun i hi => (g.2.2 i hi).trans (h.2.2 i hi)⟩
theorem FV.tr (h : FV v v') (g : FV v' v'') : FV v v'' := ⟨fun i hi => (g.1 i hi).trans (h.1 i hi), fun i hi => (g.2.1 i hi).trans (h.2.1 i hi), fun i hi => (g.2.2 i hi).trans (h.2.2 i hi)⟩
theorem TB.fr (h : TB T v) (f : FT T T') (g : FV v v') : TB T' v' := by
  refine ⟨fun j hj => ?_, fun i hi => ?_⟩
  · rw [f.1 2 (by omega), g.1 1 (by omega)]; exact h.1 j hj
  · rw [f.2.2 3 (by omega)]; exact h.2 i hi
theorem TB.at (h : TB T v) {j : Nat} (hj : j < 940) : ∃ b, b < 256 ∧ T.1 2 j = nI b ∧ v.1 1 j = nI b := by
  obtain ⟨e, b, h1, h2⟩ := h.1 j hj
  exact ⟨b, h1, e.trans h2, h2⟩
/-- which of the 29 words the token is, for the class -/
theorem c_findWord {l : List Nat} (h : ∀ i, i < 29 → T.2 3 i = lN (eN 32 (x_wd.getD i []))) (h9 : T.2 0 9 = lN (eN 32 l)) (hl : okW l) : f_X8_findWord T = some (if wi l < 29 then x_si T 0 8 (nI (wi l)) else T) := by
  unfold f_X8_findWord
  refine wp_eq.mp (lp_fora (σ := XM) (n := 29) (fun (K : XM → Int32 → Option (XM)) a c => K a c) (fun i a => a = if wi l < i then x_si T 0 8 (nI (wi l)) else T) _ ?_ ?_ x_NN T (by decide) (if_neg (Nat.not_lt_zero _)).symm)
  · rintro K i a hi ha ih
    show wp (f_X8_findWord_2 K a (nI i)) _
    have e1 : x_gl a 3 (nI i) = lN (eN 32 (x_wd.getD i [])) := by
      unfold x_gl
      rw [nI_clamp (by omega), ← h i hi, ha]; split <;> rfl
    have e2 : a.2 0 9 = lN (eN 32 l) := by rw [← h9, ha]; split <;> rfl
    unfold f_X8_findWord_2 f_X8_findWord_30
    rw [if_neg (show ¬ (29 : Int32) ≤ nI i from nI_ge (b := 29) (by omega) (by omega)), ck_in hi (by omega), e1, e2, nI_1]
    by_cases c : wi l = i
    · have e3 := (wi_i hi).mp c
      rw [if_pos (lg0.mpr (by rw [← e3])), lt_eq]
      refine ih _ ?_
      rw [ha, if_neg (by omega), if_pos (by omega), c]
    · rw [if_neg (fun q => c ((wi_i hi).mpr ((okW_inj (by omega) (by omega) (wd_ok hi) hl).mp (lg0.mp q)).symm))]
      refine ih _ ?_
      rw [ha]
      by_cases d : wi l < i
      · rw [if_pos d, if_pos (by omega)]
      · rw [if_neg d, if_neg (by omega)]
  · rintro K a ha
    show wp (f_X8_findWord_2 K a (nI 29)) _
    unfold f_X8_findWord_2
    rw [if_pos (show (29 : Int32) ≤ nI 29 from nI_le (a := 29) (b := 29) (by omega) (by omega)), wp_some]
    exact ha
/-- what is known at place p of a run that began at s: a letters, good as long as all are alike -/
def RnL (s p a : Nat) (T v : XM) : Prop := a = p - s → a ≤ 7 → ∃ l : List Nat, (∀ c ∈ l, 1 ≤ c ∧ c ≤ 26) ∧ l.length = a ∧ T.2 0 9 = lN (eN 32 l) ∧ v.2 0 12 = lN (eN 27 l)
def RnN (s p a : Nat) (T v : XM) : Prop := a = 0 → p - s ≤ 3 → ∃ m, m < 10 ^ (p - s) ∧ T.1 0 7 = nI m ∧ v.1 0 8 = nI m
def Rn (s p a : Nat) (fl g : Bool) (T v : XM) : Prop := s ≤ p ∧ a ≤ p - s ∧ (g = true ↔ a = if fl = true then p - s else 0) ∧ (s < p → if fl = true then 1 ≤ a else a < p - s) ∧ (T.1 0 4 = nI p ∧ v.1 0 5 = nI p) ∧ RnL s p a T v ∧ RnN s p a T v
theorem run_end {a : Nat} {fl g : Bool} (hr : Rn s p a fl g T v) (hb : TB T v) (hsp : s < p) (hp : p ≤ 940) (T5 : T.1 0 5 = nI s) (v6 : v.1 0 6 = nI s) (T8 : T.1 0 8 = -1) : ∃ (t : Tok) (T' v' : XM), f_X8_readRun_131 T (nI a) = some T' ∧ (if bI g = 0 then x_lt (x_si v 0 7 (1 : Int32)) (fun m18 => some m18) else if bI fl = 0 then f_X12_go_374 v (bI fl) ((v.1 0 5) - (v.1 0 6)) (3 : Int32) else f_X12_go_374 v (bI fl) ((v.1 0 5) - (v.1 0 6)) (7 : Int32)) = some v' ∧ TkC t T' v' ∧ 1 ≤ t.1 ∧ t.1 ≤ 3 ∧ FT T T' ∧ FV v v' ∧ T'.1 0 4 = nI p ∧ v'.1 0 5 = nI p ∧ T'.1 0 5 = nI s ∧ v'.1 0 6 = nI s := by
  obtain ⟨r1, r2, r3, r4, ⟨r5, r6⟩, r7, r8⟩ := hr
  have r4 := r4 hsp
  have dT : T.1 0 4 - T.1 0 5 = nI (p - s) := by rw [r5, T5, pk_sub (by omega)]
  have dv : v.1 0 5 - v.1 0 6 = nI (p - s) := by rw [r6, v6, pk_sub (by omega)]
  have wrong : ∀ (f g : Option XM), f = some (x_si T 0 6 1) → g = some (x_si v 0 7 1) → ∃ (t : Tok) (T' v' : XM), f = some T' ∧ g = some v' ∧ TkC t T' v' ∧ 1 ≤ t.1 ∧ t.1 ≤ 3 ∧ FT T T' ∧ FV v v' ∧ T'.1 0 4 = nI p ∧ v'.1 0 5 = nI p ∧ T'.1 0 5 = nI s ∧ v'.1 0 6 = nI s := fun f g e1 e2 => by
    refine ⟨(1, 0, []), _, _, e1, e2, ⟨⟨by decide, si_0, si_0⟩, fun q => absurd q (by decide), fun q => absurd q (by decide), fun q => absurd q (by decide), ?_⟩, by decide, by decide, FT.rf.si (by omega), FV.rf.si (by omega), (si_n (by omega)).trans r5, (si_n (by omega)).trans r6, (si_n (by omega)).trans T5, (si_n (by omega)).trans v6⟩
    rw [if_neg (fun q => absurd q.1 (by decide))]
    exact (si_n (by omega)).trans T8
  unfold f_X8_readRun_131 f_X8_readRun_164 f_X12_go_374
  rw [dT, dv]
  cases fl with
  | true =>
    rw [if_pos rfl] at r4
    rw [if_pos rfl] at r3
    by_cases c : a = p - s
    · have hg : g = true := r3.mpr c
      subst hg
      rw [if_pos (by rw [c]), if_neg (show ¬ bI true = 0 by decide), if_neg (show ¬ bI true = 0 by decide)]
      by_cases c7 : p - s ≤ 7
      · obtain ⟨l, l1, l2, l3, l4⟩ := r7 c (by omega)
        have ok : okW l := ⟨⟨by omega, by omega⟩, l1⟩
        rw [if_neg (show ¬ (7 : Int32) < nI (p - s) from nI_ge' (a := 7) (by omega) (by omega)), if_pos (show nI (p - s) ≤ (7 : Int32) from nI_le (b := 7) c7 (by omega)), if_neg (show ¬ bI true = 0 by decide), lt_eq, lt_eq, c_findWord (T := x_si T 0 6 2) hb.2 l3 ok, bo_some]
        refine ⟨(2, 0, l), _, _, rfl, rfl, ⟨⟨(show (2 : Nat) ≤ 4 by decide), si_0, ?_⟩, fun q => absurd q (show ¬ (2 : Nat) = 4 by decide), fun q => absurd q (show ¬ (2 : Nat) = 3 by decide), fun _ => ⟨ok, ?_, l4⟩, ?_⟩, (show 1 ≤ (2 : Nat) by decide), (show (2 : Nat) ≤ 3 by decide), ?_, FV.rf.si (by omega), ?_, (si_n (by omega)).trans r6, ?_, (si_n (by omega)).trans v6⟩
        · dsimp only
          split
          · exact ((si_n (by omega)).trans si_0)
          · exact si_0
        · dsimp only; split <;> exact l3
        · dsimp only
          by_cases d : wi l < 29
          · rw [if_pos d, if_pos ⟨rfl, d⟩, si_0]
          · rw [if_neg d, if_neg (fun q => d q.2), si_n (by omega)]; exact T8
        · split
          · exact (FT.rf.si (by omega)).si (by omega)
          · exact FT.rf.si (by omega)
        · split
          · rw [si_n (by omega), si_n (by omega)]; exact r5
          · rw [si_n (by omega)]; exact r5
        · split
          · rw [si_n (by omega), si_n (by omega)]; exact T5
          · rw [si_n (by omega)]; exact T5
      · refine wrong _ _ ?_ ?_
        · rw [if_pos (show (7 : Int32) < nI (p - s) from nI_lt (a := 7) (by omega) (by omega)), if_neg (nI_ne0 (by omega) (by omega))]; rfl
        · rw [if_neg (fun q => c7 (by rw [kl_7, nI_leI (by omega) (by omega)] at q; exact q))]; rfl
    · have hg : g = false := by
        cases g with
        | false => rfl
        | true => exact absurd (r3.mp rfl) c
      subst hg
      refine wrong _ _ ?_ (if_pos bIf)
      rw [if_neg (fun q => c (nI_iff (by omega) (by omega) q)), if_neg (nI_ne0 (by omega) (by omega))]; rfl
  | false =>
    rw [if_neg ft] at r4
    rw [if_neg ft] at r3
    rw [if_neg (fun q => absurd (nI_iff (by omega) (by omega) q) (by omega))]
    by_cases c : a = 0
    · have hg : g = true := r3.mpr c
      subst hg
      subst c
      rw [if_pos (show nI 0 = 0 from rfl), if_neg (show ¬ bI true = 0 by decide), if_pos bIf]
      by_cases c3 : p - s ≤ 3
      · obtain ⟨m, m1, m2, m3⟩ := r8 rfl c3
        have m4 : 10 ^ (p - s) ≤ 10 ^ 3 := Nat.pow_le_pow_right (by omega) c3
        rw [if_neg (show ¬ (3 : Int32) < nI (p - s) from nI_ge' (a := 3) (by omega) (by omega)), if_pos (show nI (p - s) ≤ (3 : Int32) from nI_le (b := 3) c3 (by omega)), if_pos bIf, lt_eq, lt_eq]
        refine ⟨(3, m, []), _, _, rfl, rfl, ⟨⟨(show (3 : Nat) ≤ 4 by decide), si_0, si_0⟩, fun q => absurd q (show ¬ (3 : Nat) = 4 by decide), fun _ => ⟨(si_n (by omega)).trans m2, (si_n (by omega)).trans m3, (show m < 1000 by omega)⟩, fun q => absurd q (show ¬ (3 : Nat) = 2 by decide), ?_⟩, (show 1 ≤ (3 : Nat) by decide), (show (3 : Nat) ≤ 3 by decide), FT.rf.si (by omega), FV.rf.si (by omega), (si_n (by omega)).trans r5, (si_n (by omega)).trans r6, (si_n (by omega)).trans T5, (si_n (by omega)).trans v6⟩
        rw [if_neg (fun q => absurd q.1 (show ¬ (3 : Nat) = 2 by decide))]
        exact (si_n (by omega)).trans T8
      · refine wrong _ _ ?_ ?_
        · rw [if_pos (show (3 : Int32) < nI (p - s) from nI_lt (a := 3) (by omega) (by omega))]; rfl
        · rw [if_neg (fun q => c3 (by rw [kl_3, nI_leI (by omega) (by omega)] at q; exact q))]; rfl
    · have hg : g = false := by
        cases g with
        | false => rfl
        | true => exact absurd (r3.mp rfl) c
      subst hg
      refine wrong _ _ ?_ (if_pos bIf)
      rw [if_neg (nI_ne0 (by omega) (by omega))]; rfl
end TK
