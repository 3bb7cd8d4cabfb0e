-- said, the call.
theorem m_mask : ∀ n, n < 6 → ∀ i, i < 32 → bt ((1 : Int32) <<< (nI n &&& 31) - 1) i = decide (i < n) := by decide +kernel
section D6
variable {nS nF nT nW bB : Nat} {v w u : XM} {x : Int32}
/-- the walker of whom the x-th may be said -/
def NthQ (f : Nat → Bool) (n : Nat) (x r : Int32) : Prop := (∃ p, p < n ∧ f p = true ∧ nI (cnt f p) = x ∧ r = nI p) ∨ ((∀ p, p < n → ¬ (f p = true ∧ nI (cnt f p) = x)) ∧ r = -1)
theorem cnt_s (f : Nat → Bool) (i : Nat) : cnt f (i + 1) = if f i = true then cnt f i + 1 else cnt f i := rfl
theorem cnt_up {f : Nat → Bool} : ∀ m n, n ≤ m → cnt f n ≤ cnt f m
  | 0, n, h => by rw [show n = 0 by omega]; exact Nat.le_refl _
  | m + 1, n, h => by
    by_cases c : n = m + 1
    · rw [c]; exact Nat.le_refl _
    · have := cnt_up (f := f) m n (by omega)
      rw [cnt_s]; split <;> omega
theorem NthQ.uniq {f : Nat → Bool} {n : Nat} {x r r' : Int32} (hn : n ≤ 32) (h : NthQ f n x r) (h' : NthQ f n x r') : r = r' := by
  have key : ∀ p q, p < q → q < n → f p = true → nI (cnt f p) = x → nI (cnt f q) = x → False := fun p q hpq hq h1 h2 h3 => by
    have c1 := cnt_le (p := f) p
    have c2 := cnt_le (p := f) q
    have c3 := cnt_up (f := f) q (p + 1) (by omega)
    rw [cnt_s, if_pos h1] at c3
    have := nI_iff (by omega) (by omega) (h2.trans h3.symm)
    omega
  rcases h with ⟨p, p1, p2, p3, rfl⟩ | ⟨h, rfl⟩
  · rcases h' with ⟨q, q1, q2, q3, rfl⟩ | ⟨h', rfl⟩
    · by_cases c : p = q
      · rw [c]
      · rcases Nat.lt_or_gt_of_ne c with c | c
        · exact absurd (key p q c q1 p2 p3 q3) id
        · exact absurd (key q p c p1 q2 q3 p3) id
    · exact absurd ⟨p2, p3⟩ (h' p p1)
  · rcases h' with ⟨q, q1, q2, q3, rfl⟩ | ⟨h', rfl⟩
    · exact absurd ⟨q2, q3⟩ (h q q1)
    · rfl
theorem c_bitPlace {f : Nat → Bool} {n : Nat} (hn : n ≤ 5) {X : Int32} (hX : ∀ i, i < 32 → bt X i = (decide (i < n) && f i)) : wp (f_X11_bitPlace X x) (NthQ f n x) := by
  unfold f_X11_bitPlace
  refine lp_fora (σ := Int32) (n := 5) (fun (K : Int32 → Int32 → Int32 → Int32 → Option (Int32)) a c => K X x a c) (fun i a => (i ≤ n → a = nI (cnt f i)) ∧ ∀ p, p < i → p < n → ¬ (f p = true ∧ nI (cnt f p) = x)) _ ?_ ?_ x_NN 0 (by decide) ⟨fun _ => rfl, fun p hp => absurd hp (Nat.not_lt_zero _)⟩
  · rintro K i a hi ⟨h1, h2⟩ ih
    show wp (f_X11_bitPlace_4 K X x a (nI i)) _
    unfold f_X11_bitPlace_4 f_X11_bitPlace_28
    rw [if_neg (show ¬ (5 : Int32) ≤ nI i from nI_ge (b := 5) (by omega) (by omega)), b_get (by omega), hX i (by omega), nI_1]
    by_cases c : i < n
    · rw [decide_eq_true c, Bool.true_and]
      have ha := h1 (by omega)
      cases hf : f i with
      | true =>
        rw [if_pos (show bI true = 1 from rfl)]
        by_cases cx : a = x
        · rw [if_pos cx, wp_some]
          exact Or.inl ⟨i, c, hf, by rw [← ha]; exact cx, rfl⟩
        · rw [if_neg cx]
          refine ih (a + 1) ⟨fun _ => ?_, fun p hp hpn => ?_⟩
          · rw [ha, nI_1, cnt_s, if_pos hf]
          · by_cases e : p = i
            · subst e; exact fun q => cx (by rw [ha]; exact q.2)
            · exact h2 p (by omega) hpn
      | false =>
        rw [if_neg (show ¬ bI false = 1 by decide)]
        refine ih a ⟨fun _ => ?_, fun p hp hpn => ?_⟩
        · rw [ha, cnt_s, hf, if_neg ft]
        · by_cases e : p = i
          · subst e; exact fun q => by rw [hf] at q; exact absurd q.1 ft
          · exact h2 p (by omega) hpn
    · rw [decide_eq_false c, Bool.false_and, if_neg (show ¬ bI false = 1 by decide)]
      exact ih a ⟨fun q => absurd q (by omega), fun p hp hpn => h2 p (by omega) hpn⟩
  · rintro K a ⟨h1, h2⟩
    show wp (f_X11_bitPlace_4 K X x a (nI 5)) _
    unfold f_X11_bitPlace_4
    rw [if_pos (show (5 : Int32) ≤ nI 5 from nI_le (a := 5) (b := 5) (by omega) (by omega)), wp_some]
    exact Or.inr ⟨fun p hp => h2 p (by omega) hp, rfl⟩
theorem r_said21 (h : RW nS nF nT nW bB u v) {n t : Nat} {val : Int32} (hn : n ≤ 100) (ht : v.1 2 112 = nI t) (he : EvR v nW n t val) : wp (x_lp (φ := XM → Int32 → Int32 → Int32 → Option (Int32 × XM)) (fun _ _ _ _ => none) (f_X12_said_21) x_NN v x (0 : Int32) (0 : Int32)) (fun r => (∃ G, r.2 = x_row v 11 G) ∧ ((x = -1 ∧ r.1 = nI (cnt (bt val) nW)) ∨ (¬ x = -1 ∧ NthQ (bt val) nW x r.1))) := by
  have hb := h.b
  refine lp_fora (σ := XM × Int32) (n := nW) (fun (K : XM → Int32 → Int32 → Int32 → Option (Int32 × XM)) a c => K a.1 x a.2 c) (fun i a => (∃ G, a.1 = x_row v 11 G) ∧ a.2 = nI (cnt (bt val) i) ∧ ∀ p, p < i → ¬ (bt val p = true ∧ nI (cnt (bt val) p) = x)) _ ?_ ?_ x_NN (v, 0) (by show nW < 1000000; omega) ⟨⟨v.1 11, row_self.symm⟩, rfl, fun p hp => absurd hp (Nat.not_lt_zero _)⟩
  · rintro K i ⟨_, _⟩ hi ⟨⟨G, rfl⟩, rfl, h2⟩ ih
    show wp (f_X12_said_21 K (x_row v 11 G) x (nI (cnt (bt val) i)) (nI i)) _
    obtain ⟨G', e⟩ := he i hi 100 hn G
    have hci := cnt_le (p := bt val) i
    unfold f_X12_said_21 f_X12_said_59 F_X12_holds
    rw [show x_ga (x_row v 11 G) 2 (3 : Int32) = nI nW from by rw [kl_3, ga_in (by omega)]; exact h.v3, if_neg (nI_ge hi (by omega)), show x_ga (x_row v 11 G) 2 (112 : Int32) = nI t from by rw [kl_112, ga_in (by omega)]; exact ht, e, bo_some, nI_1, nI_1]
    dsimp only
    cases hf : bt val i with
    | true =>
      rw [if_neg (show ¬ bI true = 0 by decide)]
      by_cases cx : nI (cnt (bt val) i) = x
      · rw [if_pos cx, wp_some]
        refine ⟨⟨G', rfl⟩, Or.inr ⟨fun q => nI_nm1 (by omega) (cx.trans q), Or.inl ⟨i, hi, hf, cx, rfl⟩⟩⟩
      · rw [if_neg cx]
        refine ih (x_row v 11 G', nI (cnt (bt val) i + 1)) ⟨⟨G', rfl⟩, by dsimp only; rw [cnt_s, if_pos hf], fun p hp => ?_⟩
        by_cases e : p = i
        · subst e; exact fun q => cx q.2
        · exact h2 p (by omega)
    | false =>
      rw [if_pos bIf]
      refine ih (x_row v 11 G', nI (cnt (bt val) i)) ⟨⟨G', rfl⟩, by dsimp only; rw [cnt_s, hf, if_neg ft], fun p hp => ?_⟩
      by_cases e : p = i
      · subst e; exact fun q => by rw [hf] at q; exact absurd q.1 ft
      · exact h2 p (by omega)
  · rintro K ⟨_, _⟩ ⟨⟨G, rfl⟩, rfl, h2⟩
    show wp (f_X12_said_21 K (x_row v 11 G) x (nI (cnt (bt val) nW)) (nI nW)) _
    unfold f_X12_said_21
    rw [show x_ga (x_row v 11 G) 2 (3 : Int32) = nI nW from by rw [kl_3, ga_in (by omega)]; exact h.v3, if_pos (nI_le (Nat.le_refl _) (by omega))]
    by_cases c : x = -1
    · rw [if_pos c, wp_some]; exact ⟨⟨G, rfl⟩, Or.inl ⟨c, rfl⟩⟩
    · rw [if_neg c, wp_some]; exact ⟨⟨G, rfl⟩, Or.inr ⟨c, Or.inr ⟨fun p hp => h2 p hp, rfl⟩⟩⟩
theorem b_said (h : RelN nS nF nT nW bB w v) (x : Int32) : R2 (f_X11_said w x) (f_X12_said v x) Both := by
  have h1 := h.th (x := 0)
  have hb := h.1.1.1
  unfold f_X11_said f_X12_said
  rw [show ∀ (f : XM → Option (Int32 × XM)), x_lt (x_si v 0 0 0) f = f (x_si v 0 0 0) from fun f => rfl]
  generalize x_si v 0 0 0 = v1 at h1 ⊢
  have hS := h1.1.2.2.2
  rcases hS with ⟨s1, s2⟩ | ⟨s1, n, t, P, n1, n2, s2, t1, s3, p1, s4, hT, hst⟩
  · rw [if_pos (show w.1 37 0 = 0 from s2), show x_ga v1 2 (111 : Int32) = 0 from by rw [kl_111, ga_in (by omega)]; exact s1, if_pos rfl]
    exact R2_some ⟨rfl, h1.rel⟩
  · rw [if_neg (show ¬ w.1 37 0 = 0 from by rw [show w.1 37 0 = nI n from s2]; exact nI_ne0 (by omega) (by omega)), show x_ga v1 2 (111 : Int32) = 1 from by rw [kl_111, ga_in (by omega)]; exact s1, if_neg one0]
    obtain ⟨r, e1, C, rfl⟩ := c_lost (W := x_sub w 300) h1.rw
    rw [e1, bo_some, lt_eq, put_row (by omega)]
    have hu : RW nS nF nT nW bB (x_sub (x_row w (2 + 300) C) 5) v1 := h1.rw.cong (fun i a b => by
      show (x_row w (2 + 300) C).1 (i + 5) = w.1 (i + 5)
      rw [row_off (by omega)]) (fun _ _ => rfl)
    have hT' : TR (fun j => v1.1 2 (113 + j)) 61 t P := TR.ext 61 t P (fun j _ => by
      show v1.1 2 (113 + j) = v1.1 2 (111 + (2 + j))
      rw [show 111 + (2 + j) = 113 + j by omega]) hT
    obtain ⟨val, c1, c2⟩ := ev hu (m := P.length) p1 61 t P hT' t1
    have dD : ∀ i, i < 9 → (x_sub (x_row w (2 + 300) C) 37).1 i = w.1 (i + 37) := fun i hi => by
      show (x_row w (2 + 300) C).1 (i + 37) = _
      rw [row_off (by omega)]
    obtain ⟨D', f1, f2, f3, f4⟩ := c1 [] (x_sub (x_row w (2 + 300) C) 37) 0 (Nat.zero_le _) (by omega) (by rw [dD 0 (by omega)]; exact s4) (fun i x hx => absurd hx (by simp)) (fun j x hx => by
      rw [dD 2 (by omega), dD 4 (by omega), dD 6 (by omega), Nat.zero_add]
      exact hst j x hx)
    have hN : P.length + 1 ≤ x_NN := by show P.length + 1 ≤ 1000000; omega
    have e2 : f_X4_those (x_sub (x_row w (2 + 300) C) 37) (x_sub (x_row w (2 + 300) C) 5) (bs (lsB nS v1) nW) = some (val &&& ((1 : Int32) <<< (nI nW &&& 31) - 1), D') := by
      have := f1 (x_NN - P.length)
      rw [Nat.sub_add_cancel (by omega)] at this
      show CT4 _ x_NN _ _ (nI 0) (nI 0) = _
      rw [show nI ([] : List Int32).length = nI 0 from rfl] at this
      rw [this]
      obtain ⟨q, hq⟩ : ∃ q, x_NN - P.length = q + 1 := ⟨x_NN - P.length - 1, by omega⟩
      rw [hq, CT4_s]
      unfold f_X4_those_5
      rw [show D'.1 0 1 = nI P.length from by rw [f3 0 (by omega), dD 0 (by omega)]; exact s4, if_pos (nI_le (by omega) (by omega)), lt_eq, lt_eq, show r_get 40 (x_sub D' 7) 0 = val from (rg_in (n := 40) (k := 0) (by omega) (by omega)).trans f2.last, show (x_sub (x_row w (2 + 300) C) 5).1 1 3 = nI nW from hu.u3]
    rw [e2, bo_some, lt_eq]
    dsimp only
    have hX : ∀ i, i < 32 → bt (val &&& ((1 : Int32) <<< (nI nW &&& 31) - 1)) i = (decide (i < nW) && bt val i) := fun i hi => by
      rw [b_and, m_mask nW (by omega) i hi, Bool.and_comm]
    have eX : val &&& ((1 : Int32) <<< (nI nW &&& 31) - 1) = bs (bt val) nW := by
      apply b_ext
      intro i hi
      rw [hX i hi, b_bs (by omega) hi]
    have rel : ∀ G, RelN nS nF nT nW bB (x_put (x_row w (2 + 300) C) 37 9 D') (x_row v1 11 G) := fun G => by
      refine h1.same ?_ (fun i h5 hs => ?_) ⟨rfl, rfl⟩ ⟨rfl, rfl, rfl, rfl, rfl, rfl, rfl, rfl, rfl⟩ (fun _ _ => rfl)
      · rw [put_2 f4]; rfl
      · by_cases c : 37 ≤ i ∧ i < 46
        · rw [put_inn (by omega), f3 _ (by unfold scrW at hs; omega), dD _ (by omega), Nat.sub_add_cancel c.1]
        · rw [put_out (by omega), row_off (by unfold scrW at hs; omega)]
    obtain ⟨q, er, ⟨G, e3⟩, hq⟩ := r_said21 (x := x) h1.rw (n := 61) (t := t) (val := val) (by omega) s3 c2
    rw [er]
    by_cases cx : x = -1
    · rw [if_pos cx, eX, c_bitsB (by omega), lt_eq]
      rcases hq with ⟨-, hq⟩ | ⟨hq, -⟩
      · refine R2_some ⟨hq.symm, ?_⟩
        rw [e3]; exact (rel G).rel
      · exact absurd cx hq
    · rw [if_neg cx]
      obtain ⟨r, e5, hr⟩ := c_bitPlace (x := x) (n := nW) (by omega) hX
      rw [e5, bo_some]
      rcases hq with ⟨hq, -⟩ | ⟨-, hq⟩
      · exact absurd hq cx
      · refine R2_some ⟨hr.uniq (by omega) hq, ?_⟩
        rw [e3]; exact (rel G).rel
end D6
