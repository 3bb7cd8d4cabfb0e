-- LINES of a VALLEY, read: FOLD, THING, WALKER.
/-- rows of a VALLEY, each with one more -/
def fo4 (D : XM) (n : Nat) (a b c d : Int32) : XM := x_row (x_row (x_row (x_row D 3 (up (D.1 3) n a)) 5 (up (D.1 5) n b)) 7 (up (D.1 7) n c)) 9 (up (D.1 9) n d)
theorem put_step {M : XM} {o n N k : Nat} {x : Int32} {g : Nat → Int32} (hk : k < N) (hN : N < 2 ^ 31) (e : M.1 1 n = nI k) (e2 : M.1 (1 + o) = g) : x_put M o 2 (r_put N (x_sub M o) (M.1 1 n) x) = x_row M (1 + o) (up g k x) := by rw [e, put_rput hk hN, e2]
section CG
variable {n lim b p s a k nS nF nT nW bB : Nat} {t : Tok} {T v T' v' T'' v'' T0 v0 D D' : XM} {l : List Nat}
theorem St.lFold (h : St n lim b p s t T0 v0 T v) (ht : t.1 = 2) (d : DR nS nF nT nW bB D v) : R2 (f_X6_readFold D T) (f_X12_readFold v) (LineP n lim b T0 v0) := by
  have hb := d.1.1
  have hD : D.1 1 1 = nI nF := d.1.2.2.1.2.1
  have hv : v.1 3 1 = nI nF := d.1.2.1.2.1
  obtain ⟨g1, g2⟩ := h.first ht (j := 1) (M := 12) hv (by omega) (by omega) (by omega)
  unfold f_X6_readFold f_X12_readFold
  rw [hD]
  by_cases c : nF = 12
  · obtain ⟨T', v', b1, b2, b3⟩ := g1 c
    rw [if_neg (show ¬ nI nF < 12 from nI_ge' (b := 12) (by omega) (by omega)), b1, show f_X12_readFirst v 1 12 = some (0, v') from b2, bo_some, if_pos rfl, lt_eq]
    exact R2_some (Or.inl ⟨rfl, rfl, b3⟩)
  · obtain ⟨T1, v1, a1, a2, p1, s1, t1, hs1, fT, fV⟩ := h.next
    have e13 : v1.1 3 = v.1 3 := fV.1 3 (by omega)
    have d1 : DR nS nF nT nW bB D v1 := d.fv e13 (fV.2.2 8 (by omega)) (fV.2.1 23 (by omega))
    have hv1 : x_ga v1 3 (1 : Int32) = nI nF := by rw [kl_1, ga_in (by omega), e13]; exact hv
    rw [if_pos (show nI nF < 12 from nI_lt (b := 12) (by omega) (by omega)), show f_X12_readFirst v 1 12 = _ from g2 c, a1, a2, bo_some, bo_some, bo_some, if_neg one0, hv1]
    refine R2_bo (hs1.spot d1.dn) ?_
    rintro ⟨r1, T2⟩ ⟨q1, v2⟩ (⟨z1, z2, z3⟩ | ⟨x, hx, z1, z2, z3, -, f1, f2, p2, s2, t2, hs2⟩)
    · dsimp only at z1 z2 z3 ⊢
      rw [z1, z2, if_pos rfl, if_pos rfl]
      exact R2_some (Or.inl ⟨rfl, rfl, z3⟩)
    · dsimp only at z1 z2 z3 f1 f2 hs2 ⊢
      have e23 : v2.1 3 = v.1 3 := (f2.1 3 (by omega)).trans ((si_r (by omega)).trans e13)
      have d2 : DR nS nF nT nW bB D v2 := d.fv e23 ((f2.2.2 8 (by omega)).trans (fV.2.2 8 (by omega))) ((f2.2.1 23 (by omega)).trans ((si_n (by omega)).trans (fV.2.1 23 (by omega))))
      rw [z1, z2, z3, if_neg (nI_nm1 (by omega)), if_neg one0]
      rcases hs2.here d2.dn with ⟨T', v', y1, y2, y3⟩ | ⟨y, hy, y1, y2, y3⟩
      · rw [y1, y2, bo_some, bo_some, if_pos rfl, if_pos rfl]
        exact R2_some (Or.inl ⟨rfl, rfl, y3⟩)
      · -- the second SPOT
        have hs3 : St n lim p1 p2 s2 t2 T0 v0 T2 (x_si v2 0 13 (nI y)) := hs2.told
        have hm : St n lim p1 p2 s2 t2 T0 v0 T2 (x_si (x_si (x_si v2 0 13 (nI y)) 3 (6 + nF) (nI x)) 3 (18 + nF) (nI y)) := hs3.s3.s3
        obtain ⟨T3, v4, a3, a4, p4, s4, t4, hs4, fT4, fV4⟩ := hm.next
        rw [y1, y2, a3, bo_some, bo_some, bo_some, if_neg (nI_nm1 (by omega)), if_neg one0, si_0]
        have hbad : R2 (f_X6_readFold_86 D T3 (T2.1 0 5)) (f_X12_readFold_62 (x_si v2 0 13 (nI y))) (LineP n lim b T0 v0) := by
          obtain ⟨T', v', w1, w2, w3⟩ := hs3.badAt (T' := T3) 3 (Or.inl (by omega)) hs4.2.2.1
          unfold f_X6_readFold_86 f_X12_readFold_62
          rw [show f_X8_refuseAt T3 3 (T2.1 0 5) = (0, T') from w1, show f_X12_bad (x_si v2 0 13 (nI y)) 3 = (0, v') from w2]
          exact R2_some (Or.inl ⟨rfl, rfl, w3⟩)
        by_cases cxy : x = y
        · rw [if_pos (show nI x = nI y by rw [cxy]), if_pos (show nI y = nI x by rw [cxy])]; exact hbad
        · rw [if_neg (show ¬ nI x = nI y from fun q => cxy (nI_iff (by omega) (by omega) q)), if_neg (show ¬ nI y = nI x from fun q => cxy (nI_iff (by omega) (by omega) q).symm)]
          have dj : RV nS nF nT nW bB (fun i => D.1 (i + 1)) ((x_si v2 0 13 (nI y)).1 3) := by rw [si_r (by omega), e23]; exact d.1
          obtain ⟨j1, j2⟩ := c_joined (v := x_si v2 0 13 (nI y)) dj hx hy cxy
          rw [j1, j2, bo_some, bo_some]
          cases anB (jnB ((x_si v2 0 13 (nI y)).1 3) x y) nF with
          | true =>
            rw [if_neg (show ¬ bI true = 0 by decide), if_neg (show ¬ bI true = 0 by decide)]; exact hbad
          | false =>
            rw [if_pos bIf, if_pos bIf, kl_6, kl_18, kl_30, kl_42, nI_add, nI_add, nI_add, nI_add, ck_in (by omega) (by omega), pa_si (by omega), lt_eq, ck_in (by omega) (by omega), pa_si (by omega), lt_eq, show (x_si (x_si v2 0 13 (nI y)) 3 (6 + nF) (nI x)).1 0 13 = nI y from (congrFun (si_r (by omega)) 13).trans si_0, a4, bo_some]
            refine R2_bo (hs4.num (x := 1) (y := 9) (by omega) (by omega)) ?_
            rintro ⟨r5, T5⟩ ⟨q5, v5⟩ (⟨z1, z2, z3⟩ | ⟨m, m1, m2, z1, z2, z3, -, g1, g2, p5, s5, t5, hs5⟩)
            · dsimp only at z1 z2 z3 ⊢
              unfold f_X12_put
              rw [z1, z2, if_pos rfl, if_pos rfl, bo_some, if_pos rfl]
              exact R2_some (Or.inl ⟨rfl, rfl, z3⟩)
            · dsimp only at z1 z2 z3 g1 g2 hs5 ⊢
              have hs6 : St n lim p4 p5 s5 t5 T0 v0 T5 (x_si v5 3 (30 + nF) (nI m)) := hs5.s3
              have ep : f_X12_put v5 (nI (30 + nF)) 1 = some (1, x_si v5 3 (30 + nF) (nI m)) := by
                unfold f_X12_put
                rw [if_neg one0, ck_in (by omega) (by omega), pa_si (by omega), z3]; rfl
              rw [z1, z2, if_neg (nI_nm1 (by omega)), ep, bo_some, if_neg one0]
              refine R2_bo hs6.kind ?_
              rintro ⟨r7, T7⟩ ⟨q7, v7⟩ (⟨z1, z2, z3⟩ | ⟨k, k1, z1, z2, z3, -, i1, i2, p7, s7, t7, hs7⟩)
              · dsimp only at z1 z2 z3 ⊢
                unfold f_X12_put
                rw [z1, z2, if_pos rfl, if_pos rfl, bo_some, if_pos rfl]
                exact R2_some (Or.inl ⟨rfl, rfl, z3⟩)
              · dsimp only at z1 z2 z3 i1 i2 hs7 ⊢
                have ep7 : f_X12_put v7 (nI (42 + nF)) 1 = some (1, x_si v7 3 (42 + nF) (nI k)) := by
                  unfold f_X12_put
                  rw [if_neg one0, ck_in (by omega) (by omega), pa_si (by omega), z3]; rfl
                rw [z1, z2, if_neg (nI_nm1 (by omega)), ep7, bo_some, if_neg one0]
                have r4 : v4.1 3 = up (up (v.1 3) (6 + nF) (nI x)) (18 + nF) (nI y) := (fV4.1 3 (by omega)).trans (by rw [si_s, si_s, si_r (by omega), e23])
                have r5 : v5.1 3 = up (up (v.1 3) (6 + nF) (nI x)) (18 + nF) (nI y) := (g2.1 3 (by omega)).trans ((si_r (by omega)).trans r4)
                have r7 : v7.1 3 = up (up (up (v.1 3) (6 + nF) (nI x)) (18 + nF) (nI y)) (30 + nF) (nI m) := (i2.1 3 (by omega)).trans ((si_r (by omega)).trans (by rw [si_s, r5]))
                have r8 : (x_si v7 3 (42 + nF) (nI k)).1 3 = up (up (up (up (v.1 3) (6 + nF) (nI x)) (18 + nF) (nI y)) (30 + nF) (nI m)) (42 + nF) (nI k) := by rw [si_s, r7]
                have r81 : x_ga (x_si v7 3 (42 + nF) (nI k)) 3 (1 : Int32) = nI nF := by
                  rw [kl_1, ga_in (by omega), r8, up_ne (by omega), up_ne (by omega), up_ne (by omega), up_ne (by omega), hv]
                have n8 : v7.2 8 = v.2 8 := (i2.2.2 8 (by omega)).trans ((g2.2.2 8 (by omega)).trans ((fV4.2.2 8 (by omega)).trans ((f2.2.2 8 (by omega)).trans (fV.2.2 8 (by omega)))))
                have o23 : v7.1 0 23 = v.1 0 23 := (i2.2.1 23 (by omega)).trans ((si_n (by omega)).trans ((congrFun (si_r (by omega)) 23).trans ((g2.2.1 23 (by omega)).trans ((si_n (by omega)).trans ((fV4.2.1 23 (by omega)).trans ((congrFun (si_r (by omega)) 23).trans ((congrFun (si_r (by omega)) 23).trans ((si_n (by omega)).trans ((f2.2.1 23 (by omega)).trans ((si_n (by omega)).trans (fV.2.1 23 (by omega))))))))))))
                rw [r81, show ∀ x, x_pa (x_si v7 3 (42 + nF) (nI k)) 3 (1 : Int32) x = x_si (x_si v7 3 (42 + nF) (nI k)) 3 1 x from fun x => pa_si (k := 1) (by omega), nI_1]
                simp only [lt_eq]
                rw [show x_put D 2 2 (r_put 12 (x_sub D 2) (nI nF) (nI x)) = x_row D 3 (up (D.1 3) nF (nI x)) from by rw [← hD]; exact put_step (by omega) (by omega) hD rfl]
                have h3 : (x_row D 3 (up (D.1 3) nF (nI x))).1 1 1 = nI nF := by rw [row_off (by omega)]; exact hD
                have h5 : (x_row (x_row D 3 (up (D.1 3) nF (nI x))) 5 (up (D.1 5) nF (nI y))).1 1 1 = nI nF := by rw [row_off (by omega)]; exact h3
                have h7 : (x_row (x_row (x_row D 3 (up (D.1 3) nF (nI x))) 5 (up (D.1 5) nF (nI y))) 7 (up (D.1 7) nF (nI m))).1 1 1 = nI nF := by rw [row_off (by omega)]; exact h5
                have h9 : (x_row (x_row (x_row (x_row D 3 (up (D.1 3) nF (nI x))) 5 (up (D.1 5) nF (nI y))) 7 (up (D.1 7) nF (nI m))) 9 (up (D.1 9) nF (nI k))).1 1 1 = nI nF := by rw [row_off (by omega)]; exact h7
                have e5 : x_put (x_row D 3 (up (D.1 3) nF (nI x))) 4 2 (r_put 12 (x_sub (x_row D 3 (up (D.1 3) nF (nI x))) 4) ((x_row D 3 (up (D.1 3) nF (nI x))).1 1 1) (nI y)) = (x_row (x_row D 3 (up (D.1 3) nF (nI x))) 5 (up (D.1 5) nF (nI y))) := put_step (by omega) (by omega) h3 (by rw [row_off (by omega)])
                have e7 : x_put (x_row (x_row D 3 (up (D.1 3) nF (nI x))) 5 (up (D.1 5) nF (nI y))) 6 2 (r_put 12 (x_sub (x_row (x_row D 3 (up (D.1 3) nF (nI x))) 5 (up (D.1 5) nF (nI y))) 6) ((x_row (x_row D 3 (up (D.1 3) nF (nI x))) 5 (up (D.1 5) nF (nI y))).1 1 1) (nI m)) = (x_row (x_row (x_row D 3 (up (D.1 3) nF (nI x))) 5 (up (D.1 5) nF (nI y))) 7 (up (D.1 7) nF (nI m))) := put_step (by omega) (by omega) h5 (by rw [row_off (by omega), row_off (by omega)])
                have e9 : x_put (x_row (x_row (x_row D 3 (up (D.1 3) nF (nI x))) 5 (up (D.1 5) nF (nI y))) 7 (up (D.1 7) nF (nI m))) 8 2 (r_put 12 (x_sub (x_row (x_row (x_row D 3 (up (D.1 3) nF (nI x))) 5 (up (D.1 5) nF (nI y))) 7 (up (D.1 7) nF (nI m))) 8) ((x_row (x_row (x_row D 3 (up (D.1 3) nF (nI x))) 5 (up (D.1 5) nF (nI y))) 7 (up (D.1 7) nF (nI m))).1 1 1) (nI k)) = (x_row (x_row (x_row (x_row D 3 (up (D.1 3) nF (nI x))) 5 (up (D.1 5) nF (nI y))) 7 (up (D.1 7) nF (nI m))) 9 (up (D.1 9) nF (nI k))) := put_step (by omega) (by omega) h7 (by rw [row_off (by omega), row_off (by omega), row_off (by omega)])
                rw [e5, e7, e9, h9, nI_1]
                have hfo : (x_row (x_row (x_row (x_row D 3 (up (D.1 3) nF (nI x))) 5 (up (D.1 5) nF (nI y))) 7 (up (D.1 7) nF (nI m))) 9 (up (D.1 9) nF (nI k))) = fo4 D nF (nI x) (nI y) (nI m) (nI k) := rfl
                rw [hfo]
                have f3 : (fo4 D nF (nI x) (nI y) (nI m) (nI k)).1 3 = up (D.1 3) nF (nI x) := by unfold fo4; rw [row_off (by omega), row_off (by omega), row_off (by omega), row_at]
                have f5 : (fo4 D nF (nI x) (nI y) (nI m) (nI k)).1 5 = up (D.1 5) nF (nI y) := by unfold fo4; rw [row_off (by omega), row_off (by omega), row_at]
                have f7 : (fo4 D nF (nI x) (nI y) (nI m) (nI k)).1 7 = up (D.1 7) nF (nI m) := by unfold fo4; rw [row_off (by omega), row_at]
                have f9 : (fo4 D nF (nI x) (nI y) (nI m) (nI k)).1 9 = up (D.1 9) nF (nI k) := by unfold fo4; rw [row_at]
                have fo : ∀ i, i ≠ 3 → i ≠ 5 → i ≠ 7 → i ≠ 9 → (fo4 D nF (nI x) (nI y) (nI m) (nI k)).1 i = D.1 i := fun i w1 w2 w3 w4 => by unfold fo4; rw [row_off (by omega), row_off (by omega), row_off (by omega), row_off (by omega)]
                refine R2_some (Or.inr ⟨rfl, rfl, nS, nF + 1, nT, nW, bB, _, p7, s7, t7, ?_, ⟨d.1.fold (q := nI k) (by omega) hx hy cxy ⟨m1, m2⟩ si_0 (fun j hj => ?_) (fun i w0 w1 w2 w3 w4 => ?_) ?_ ?_ ?_ ?_ si_0 ?_ ?_ ?_ ?_ (fun j w0 w1 w2 w3 w4 => ?_), ?_, ?_⟩, hs7.s3.s3⟩)
                · have u1 := h.1.2.1
                  have u2 := hs1.1.2.1
                  have u3 := hs2.1.2.1
                  have u4 := hs4.1.2.1
                  have u5 := hs5.1.2.1
                  omega
                · show (x_si (fo4 D nF (nI x) (nI y) (nI m) (nI k)) 1 1 (nI (nF + 1))).1 1 j = D.1 1 j
                  rw [si_n hj, fo 1 (by omega) (by omega) (by omega) (by omega)]
                · show (x_si (fo4 D nF (nI x) (nI y) (nI m) (nI k)) 1 1 (nI (nF + 1))).1 (i + 1) = D.1 (i + 1)
                  rw [si_r (by omega), fo _ (by omega) (by omega) (by omega) (by omega)]
                · exact (si_r (by omega)).trans f3
                · exact (si_r (by omega)).trans f5
                · exact (si_r (by omega)).trans f7
                · exact (si_r (by omega)).trans f9
                · rw [si_n (by omega), r8, up_ne (by omega), up_ne (by omega), up_ne (by omega), up_eq]
                · rw [si_n (by omega), r8, up_ne (by omega), up_ne (by omega), up_eq]
                · rw [si_n (by omega), r8, up_ne (by omega), up_eq]
                · rw [si_n (by omega), r8, up_eq]
                · rw [si_n w0, r8, up_ne w4, up_ne w3, up_ne w2, up_ne w1]
                · show RN nS nT nW (D.2 16) (v7.2 8)
                  rw [n8]; exact d.2.1
                · show (x_si (fo4 D nF (nI x) (nI y) (nI m) (nI k)) 1 1 (nI (nF + 1))).1 0 1 = (x_si (x_si v7 3 (42 + nF) (nI k)) 3 1 (nI (nF + 1))).1 0 23
                  rw [congrFun (si_r (show 0 ≠ 1 by omega)) 1, congrFun (si_r (show 0 ≠ 3 by omega)) 23, congrFun (si_r (show 0 ≠ 3 by omega)) 23, fo 0 (by omega) (by omega) (by omega) (by omega), o23]; exact d.2.2
end CG
