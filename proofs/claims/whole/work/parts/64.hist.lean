-- A row of States.
section XCTOR3
variable {p : Program} {l : Launch} {e : Env} {R : Room} {s : State} {m : MethodId} {args : Array Value} {below : List Frame} {meth : Method} {c : Code} {cc : ByteArray} {nL : Nat} {ret : Option FieldType} {own : String} {D : va_G} {tc : Nat → ClassId} {aK aV : Nat → Nat} {kc ks : Nat} {Q : State → Prop} {pc : Nat} {lo : List (Nat × Value)} {st : List Value} {a : Nat} {cur : List XK} {v : XM}
theorem a_newq (X : Cx p s m args meth c cc nL ret own D tc aK aV (fun q => a ≤ q) [(cur, fun i => a + i)]) (ha : s.heap.size = a + 1) (hc : cur.length = kc + 1) (hNn : x_Nn s) {idx : Nat} (hw : Cond.classLink own idx "FoldRoads$State" ∈ x_TB) {n : Int32} {N : Nat} (hn : ¬ n < 0) (hN : n.toNatClampNeg = N) (hb : N ≤ 65536) (hdg : decode cc pc = .ok (.anewarray idx, 3)) (hr : kc + 1 ≤ R.cells ∧ ks + N ≤ R.slots)
    (k : bW p l e R s m args below meth c D tc (fun q => a ≤ q) nL [(cur ++ [.inr (15 + 100 * N + 3, N)], fun i => a + i)] (kc + 1) (ks + N) Q (pc + 3) lo (.ref (a + (kc + 1)) :: st) [x_zc v (kc + 1)]) : bW p l e R s m args below meth c D tc (fun q => a ≤ q) nL [(cur, fun i => a + i)] kc ks Q pc lo (.int n :: st) [v] := fun H locs ls hP hS hl => by
  intro T hT XX
  have hts := X.2.2.2.2.1
  have hK := X.2.2.2.2.2.1
  have hsz : H.size = a + (kc + 1) := by have := x_sz X ha hc XX (by rw [hT]; exact hP); rw [hT] at this; exact this
  suffices hW : W p l e R s m args below meth c H locs kc ks Q (F0 m pc ls (.int n :: st)) from hW T hT XX
  subst hN
  refine W.anew X.1 X.2.1 X.2.2.2.1 (hts _ hw) (va_AO.use hNn.2) rfl hdg rfl hn (by omega) hr.1 hr.2 fun cA kA comp f1 f2 f3 f4 => ?_
  have hcA : cA = tc 3 := by
    obtain ⟨kA2, comp2, -, -, -, g4⟩ := (hK.2 3 _ rfl).2
    exact Option.some.inj (f1.symm.trans g4)
  subst hcA
  generalize hH1 : H.push ({ cls := tc 3, slots := Array.replicate n.toNatClampNeg .null, vm := .none } : Cell) = H1
  have z1 : H1.size = H.size + 1 := by rw [← hH1, Array.size_push]
  have e1 : H1[H.size]? = some (arrV (tc 3) n.toNatClampNeg (fun _ => .null)) := by rw [← hH1, Array.getElem?_push_size, ← arrV_new]
  have o1 : ∀ q : Nat, q < H.size → H1[q]? = H[q]? := fun q hq => by rw [← hH1, Array.getElem?_push, if_neg (Nat.ne_of_lt hq)]
  rw [hsz] at e1 o1 ⊢
  refine k H1 locs ls ?_ ⟨by have := hS.1; omega, fun q q1 q2 => by rw [o1 q (by omega)]; exact hS.2.1 q q1 q2, hS.2.2⟩ hl
  refine x_SP1 hP hsz hc o1 (fun i hi => ⟨by funext j; simp [x_zc]; omega, by funext j; simp [x_zc]; omega⟩) ?_
  show H1[a + (kc + 1)]? = some (vp_cell _ _)
  rw [e1]
  show some _ = some (arrV (tc 3) n.toNatClampNeg (fun j => va_rf (if j + (15 + 100 * n.toNatClampNeg) / 100 < n.toNatClampNeg then some (a + (kc + 1 + 1 + (15 + 100 * n.toNatClampNeg) % 100 * j)) else none)))
  congr 2
  funext j
  rw [if_neg (by omega)]
  rfl
theorem a_aastH {x0 : XK} {tl : List XK} {K K2 n j : Nat} {i : Int32} {kds : List Nat} (X : Cx p s m args meth c cc nL ret own D tc aK aV (fun q => a ≤ q) [(x0 :: .inr (K + 3, n) :: tl, fun i => a + i)]) (hi : i.toNatClampNeg = j) (hin : vp_in i n) (hK1 : K / 100 + j = n) (hK2 : K2 / 100 + (j + 1) = n) (hK3 : K % 100 = 15) (hK4 : K2 % 100 = 15) (hst : tl[15 * j]? = some (.inl (5, kds))) (hdg : decode cc pc = .ok (.aastore, 1))
    (kk : bW p l e R s m args below meth c D tc (fun q => a ≤ q) nL [(x0 :: .inr (K2 + 3, n) :: tl, fun i => a + i)] kc ks Q (pc + 1) lo st [v]) : bW p l e R s m args below meth c D tc (fun q => a ≤ q) nL [(x0 :: .inr (K + 3, n) :: tl, fun i => a + i)] kc ks Q pc lo (.ref (a + (2 + 15 * j)) :: .int i :: .ref (a + 1) :: st) [v] := fun H locs ls hP hS hl => by
  obtain ⟨hx, hb, -, hown, hts, hK, hJ, hA, -⟩ := X
  have hlt : i.toNatClampNeg < n := Nat.not_le.mp fun q => hin (Or.inr q)
  have h0 : ¬ i < 0 := fun q => hin (Or.inl q)
  obtain ⟨r', hr', cellV, g1, g2, g3, -⟩ := hP 0 _ v (2 + 15 * j) (.inl (5, kds)) rfl rfl (by show (x0 :: .inr (K + 3, n) :: tl)[2 + 15 * j]? = _; rw [show 2 + 15 * j = 15 * j + 1 + 1 by omega, List.getElem?_cons_succ, List.getElem?_cons_succ]; exact hst)
  have hcls := (hK.1 5 _ rfl).2
  obtain ⟨kA, comp, k1, k2, k3, -⟩ := (hK.2 3 _ rfl).2
  have hcomp : comp = D.1 5 := Option.some.inj (k3.symm.trans hcls.1)
  subst hcomp
  obtain ⟨kC, hkC, -⟩ := hcls.2
  have ha : H[a + 1]? = some (vp_cell (tc 3) (n, .inr (.inr (.inr (.inr (fun i => if i + K / 100 < n then some (a + (1 + 1 + K % 100 * i)) else none)))))) := hP 0 _ v 1 _ rfl rfl rfl
  refine W.aast hx hb ha (fun q h => by cases h) (fun h => by cases h) k1 k2 rfl hkC ⟨h0, by show _ < (arrV _ _ _).slots.size; rw [arrV_size]; exact hlt⟩ g1 (fun q h => by rw [g3] at h; cases h) (by rw [g2]; exact hkC) (by rw [g2]; exact va_assign hcls) rfl rfl hdg fun H1 e z oq => ?_
  refine kk H1 _ ls ?_ (hS.put z oq (hA 0 _ 1 rfl (by simp))) hl
  intro r x w q sk y1 y2 y3
  match r with
  | 0 =>
    cases y1; cases y2
    by_cases hq : q = 1
    · subst hq
      cases y3
      show H1[a + 1]? = some (vp_cell _ _)
      rw [e]
      show some ((arrV (tc 3) n _).setSlot _ _) = _
      rw [arrV_store]
      show _ = some (arrV (tc 3) n (fun t => va_rf (if t + K2 / 100 < n then some (a + (1 + 1 + K2 % 100 * t)) else none)))
      congr 2
      funext t
      rw [hi, hK4]
      by_cases ht : t = j
      · subst ht
        rw [if_pos (by omega)]
        simp [updV, va_rf]
      · simp only [updV, if_neg ht, hK3]
        by_cases h1 : t + K / 100 < n
        · rw [if_pos h1, if_pos (by omega)]
        · rw [if_neg h1, if_neg (by omega)]
    · have h := hP 0 _ v q sk rfl rfl (by
        match q, hq with
        | 0, _ => exact y3
        | 1, h => exact absurd rfl h
        | q + 2, _ => exact y3)
      exact h.kept (oq _ (by show a + q ≠ a + 1; omega))
  | r + 1 => simp at y1
end XCTOR3
