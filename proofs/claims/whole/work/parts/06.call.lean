-- Calls: a callee's trees are parts of the caller's; what it doesn't get stays.
-- a part: (tree, first cell, how many)
def x_put (v : XM) (o n : Nat) (u : XM) : XM := (fun i => if o ≤ i ∧ i < o + n then u.1 (i - o) else v.1 i, fun i => if o ≤ i ∧ i < o + n then u.2 (i - o) else v.2 i)
def x_sgR (Rs : List XR) (g : Nat × Nat × Nat) : XR := match Rs[g.1]? with
  | some x => ((x.1.drop g.2.1).take g.2.2, fun i => x.2 (i + g.2.1))
  | none => ([], fun _ => 0)
def x_sgM (vs : List XM) (g : Nat × Nat × Nat) : XM := match vs[g.1]? with
  | some v => x_sub v g.2.1
  | none => (fun _ _ => 0, fun _ _ => 0)
def x_vo : List XM → List (Option XM) → List XM
  | v :: vs, o :: os => o.getD v :: x_vo vs os
  | _, _ => []
def x_puts (r n : Nat) : List (Nat × Nat × Nat) → List (Option XM) → XM → XM
  | g :: sg, some u :: os, v => x_puts r n sg os (if g.1 = r then (if g.2.1 = 0 ∧ g.2.2 = n then u else x_put v g.2.1 g.2.2 u) else v)
  | _ :: sg, none :: os, v => x_puts r n sg os v
  | _, _, v => v
def x_rl (Rs : List XR) (r : Nat) : Nat := match Rs[r]? with
  | some x => x.1.length
  | none => 0
def x_nv (Rs : List XR) (sg : List (Nat × Nat × Nat)) (os : List (Option XM)) : Nat → List XM → List XM
  | r, v :: vs => x_puts r (x_rl Rs r) sg os v :: x_nv Rs sg os (r + 1) vs
  | _, [] => []
/-- the parts lie inside, and apart -/
def x_apart (g g' : Nat × Nat × Nat) : Bool := decide (g.1 ≠ g'.1) || decide (g.2.1 + g.2.2 ≤ g'.2.1) || decide (g'.2.1 + g'.2.2 ≤ g.2.1)
def x_sgok (Rs : List XR) : List (Nat × Nat × Nat) → Bool
  | [] => true
  | g :: sg => decide (g.2.1 + g.2.2 ≤ x_rl Rs g.1) && sg.all (x_apart g) && x_sgok Rs sg
theorem x_puts_off {r n id : Nat} : ∀ (sg : List (Nat × Nat × Nat)) (os : List (Option XM)) (v : XM), id < n → (∀ (j : Nat) (g : Nat × Nat × Nat) (u : XM), sg[j]? = some g → os[j]? = some (some u) → ¬ (g.1 = r ∧ g.2.1 ≤ id ∧ id < g.2.1 + g.2.2)) → (x_puts r n sg os v).1 id = v.1 id ∧ (x_puts r n sg os v).2 id = v.2 id
  | [], os, v, _, _ => ⟨rfl, rfl⟩
  | g :: sg, [], v, _, _ => ⟨rfl, rfl⟩
  | g :: sg, none :: os, v, hn, h => x_puts_off sg os v hn (fun j g' u h1 h2 => h (j + 1) g' u h1 h2)
  | g :: sg, some u :: os, v, hn, h => by
    have ih := x_puts_off (r := r) (n := n) sg os (if g.1 = r then (if g.2.1 = 0 ∧ g.2.2 = n then u else x_put v g.2.1 g.2.2 u) else v) hn (fun j g' u' h1 h2 => h (j + 1) g' u' h1 h2)
    have h0 := h 0 g u rfl rfl
    simp only [x_puts]
    rw [ih.1, ih.2]
    by_cases c : g.1 = r
    · rw [if_pos c]
      by_cases c2 : g.2.1 = 0 ∧ g.2.2 = n
      · exact absurd ⟨c, by omega, by omega⟩ h0
      · rw [if_neg c2]
        have c3 : ¬ (g.2.1 ≤ id ∧ id < g.2.1 + g.2.2) := fun q => h0 ⟨c, q⟩
        simp [x_put, c3]
    · rw [if_neg c]; exact ⟨rfl, rfl⟩
theorem x_puts_on {Rs : List XR} {r n id : Nat} : ∀ (sg : List (Nat × Nat × Nat)) (os : List (Option XM)) (v : XM), id < n → x_sgok Rs sg = true → ∀ (j : Nat) (g : Nat × Nat × Nat) (u : XM), sg[j]? = some g → os[j]? = some (some u) → g.1 = r → g.2.1 ≤ id → id < g.2.1 + g.2.2 → (x_puts r n sg os v).1 id = u.1 (id - g.2.1) ∧ (x_puts r n sg os v).2 id = u.2 (id - g.2.1)
  | [], os, v, _, _, j, g, u, h1, _, _, _, _ => by simp at h1
  | g0 :: sg, [], v, _, _, j, g, u, _, h2, _, _, _ => by simp at h2
  | g0 :: sg, none :: os, v, hn, hok, j, g, u, h1, h2, h3, h4, h5 => by
    simp only [x_sgok, Bool.and_eq_true] at hok
    match j with
    | 0 => simp at h2
    | j + 1 => exact x_puts_on sg os v hn hok.2 j g u h1 h2 h3 h4 h5
  | g0 :: sg, some u0 :: os, v, hn, hok, j, g, u, h1, h2, h3, h4, h5 => by
    simp only [x_sgok, Bool.and_eq_true, List.all_eq_true, decide_eq_true_eq] at hok
    match j with
    | j + 1 => exact x_puts_on sg os _ hn hok.2 j g u h1 h2 h3 h4 h5
    | 0 =>
      simp only [List.getElem?_cons_zero, Option.some.injEq] at h1 h2
      subst h1; subst h2
      have hoff := x_puts_off (r := r) (n := n) sg os (if g0.1 = r then (if g0.2.1 = 0 ∧ g0.2.2 = n then u0 else x_put v g0.2.1 g0.2.2 u0) else v) hn (fun j g' u' k1 k2 k3 => by
        have ha := hok.1.2 g' (List.mem_of_getElem? k1)
        simp only [x_apart, Bool.or_eq_true, decide_eq_true_eq] at ha
        rcases ha with (ha | ha) | ha
        · exact ha (h3.trans k3.1.symm)
        · omega
        · omega)
      simp only [x_puts]
      rw [hoff.1, hoff.2, if_pos h3]
      by_cases c2 : g0.2.1 = 0 ∧ g0.2.2 = n
      · rw [if_pos c2, c2.1]; exact ⟨rfl, rfl⟩
      · rw [if_neg c2]
        simp [x_put, h4, h5]
theorem x_nv_at {Rs : List XR} {sg : List (Nat × Nat × Nat)} {os : List (Option XM)} : ∀ (vs : List XM) (r0 r : Nat) (v' : XM), (x_nv Rs sg os r0 vs)[r]? = some v' → ∃ v, vs[r]? = some v ∧ v' = x_puts (r0 + r) (x_rl Rs (r0 + r)) sg os v
  | [], r0, r, v', h => by simp [x_nv] at h
  | v :: vs, r0, r, v', h => by
    match r with
    | 0 =>
      simp only [x_nv, List.getElem?_cons_zero, Option.some.injEq] at h
      exact ⟨v, rfl, h.symm⟩
    | r + 1 =>
      simp only [x_nv, List.getElem?_cons_succ] at h
      obtain ⟨w, h1, h2⟩ := x_nv_at vs (r0 + 1) r v' h
      exact ⟨w, h1, by rw [h2]; congr 1 <;> first | omega | (congr 1; omega)⟩
theorem x_vo_at : ∀ (vs : List XM) (os : List (Option XM)) (j : Nat) (w : XM) (o : Option XM), vs[j]? = some w → os[j]? = some o → (x_vo vs os)[j]? = some (o.getD w)
  | [], os, j, w, o, h, _ => by simp at h
  | v :: vs, [], j, w, o, _, h => by simp at h
  | v :: vs, q :: os, 0, w, o, h1, h2 => by
    simp only [List.getElem?_cons_zero, Option.some.injEq] at h1 h2
    subst h1; subst h2
    rfl
  | v :: vs, q :: os, j + 1, w, o, h1, h2 => x_vo_at vs os j w o h1 h2
theorem x_sgok_in {Rs : List XR} : ∀ (sg : List (Nat × Nat × Nat)), x_sgok Rs sg = true → ∀ (j : Nat) (g : Nat × Nat × Nat), sg[j]? = some g → g.2.1 + g.2.2 ≤ x_rl Rs g.1
  | [], _, j, g, h => by simp at h
  | g0 :: sg, hok, 0, g, h => by
    simp only [x_sgok, Bool.and_eq_true, decide_eq_true_eq] at hok
    cases h
    exact hok.1.1
  | g0 :: sg, hok, j + 1, g, h => by
    simp only [x_sgok, Bool.and_eq_true, decide_eq_true_eq] at hok
    exact x_sgok_in sg hok.2 j g h
theorem x_sgok_ap {Rs : List XR} : ∀ (sg : List (Nat × Nat × Nat)), x_sgok Rs sg = true → ∀ (i j : Nat) (g g' : Nat × Nat × Nat) (q : Nat), sg[i]? = some g → sg[j]? = some g' → g.1 = g'.1 → g.2.1 ≤ q → q < g.2.1 + g.2.2 → g'.2.1 ≤ q → q < g'.2.1 + g'.2.2 → i = j
  | [], _, i, j, g, g', q, h, _, _, _, _, _, _ => by simp at h
  | g0 :: sg, hok, i, j, g, g', q, h1, h2, h3, h4, h5, h6, h7 => by
    simp only [x_sgok, Bool.and_eq_true, List.all_eq_true, decide_eq_true_eq] at hok
    match i, j with
    | 0, 0 => rfl
    | i + 1, j + 1 => rw [x_sgok_ap sg hok.2 i j g g' q h1 h2 h3 h4 h5 h6 h7]
    | 0, j + 1 =>
      cases h1
      have ha := hok.1.2 g' (List.mem_of_getElem? h2)
      simp only [x_apart, Bool.or_eq_true, decide_eq_true_eq] at ha
      rcases ha with (ha | ha) | ha
      · exact absurd h3 ha
      · omega
      · omega
    | i + 1, 0 =>
      cases h2
      have ha := hok.1.2 g (List.mem_of_getElem? h1)
      simp only [x_apart, Bool.or_eq_true, decide_eq_true_eq] at ha
      rcases ha with (ha | ha) | ha
      · exact absurd h3.symm ha
      · omega
      · omega
/-- a part's cell is the caller's -/
theorem x_seg {Rs : List XR} {sg : List (Nat × Nat × Nat)} (hok : x_sgok Rs sg = true) {j : Nat} {x1 : XR} (h : (sg.map (x_sgR Rs))[j]? = some x1) : ∃ (g : Nat × Nat × Nat) (x : XR), sg[j]? = some g ∧ (g.2.2 ≠ 0 → Rs[g.1]? = some x) ∧ x1.1.length = g.2.2 ∧ (∀ i, i < g.2.2 → x1.1[i]? = x.1[i + g.2.1]? ∧ i + g.2.1 < x.1.length) ∧ ∀ i, g.2.2 ≠ 0 → x1.2 i = x.2 (i + g.2.1) := by
  rw [List.getElem?_map] at h
  cases hg : sg[j]? with
  | none => rw [hg] at h; cases h
  | some g =>
    rw [hg] at h
    cases h
    have hin := x_sgok_in sg hok j g hg
    cases hx : Rs[g.1]? with
    | none =>
      simp only [x_rl, hx] at hin
      exact ⟨g, ([], fun _ => 0), rfl, fun h => absurd (show g.2.2 = 0 by omega) h, by simp [x_sgR, hx]; omega, fun i hi => by omega, fun i hi => absurd (show g.2.2 = 0 by omega) hi⟩
    | some x =>
      simp only [x_rl, hx] at hin
      refine ⟨g, x, rfl, fun _ => hx, ?_, fun i hi => ⟨?_, by omega⟩, fun i _ => by simp [x_sgR, hx]⟩
      · simp only [x_sgR, hx, List.length_take, List.length_drop]; omega
      · simp only [x_sgR, hx]
        rw [List.getElem?_take_of_lt hi, List.getElem?_drop, Nat.add_comm]
theorem x_Dj_sub {Rs : List XR} {sg : List (Nat × Nat × Nat)} (hJ : x_Dj Rs) (hok : x_sgok Rs sg = true) : x_Dj (sg.map (x_sgR Rs)) := by
  intro j j' x1 x1' i i' h1 h2 hi hi' he
  obtain ⟨g, x, a1, a2, a3, a4, a5⟩ := x_seg hok h1
  obtain ⟨g', x', b1, b2, b3, b4, b5⟩ := x_seg hok h2
  rw [a3] at hi
  rw [b3] at hi'
  have hx := a2 (by omega)
  have hx' := b2 (by omega)
  rw [a5 i (by omega), b5 i' (by omega)] at he
  obtain ⟨e1, e2⟩ := hJ g.1 g'.1 x x' _ _ hx hx' (a4 i hi).2 (b4 i' hi').2 he
  have hj := x_sgok_ap sg hok j j' g g' (i + g.2.1) a1 b1 e1 (by omega) (by omega) (by omega) (by omega)
  subst hj
  cases a1.symm.trans b1
  exact ⟨rfl, by omega⟩
theorem x_SP_sub {D : va_G} {tc : Nat → ClassId} {Rs : List XR} {vs : List XM} {H : Heap} {sg : List (Nat × Nat × Nat)} (hP : x_SP D tc Rs vs H) (hvl : vs.length = Rs.length) (hok : x_sgok Rs sg = true) : x_SP D tc (sg.map (x_sgR Rs)) (sg.map (x_sgM vs)) H := by
  intro j x1 v1 i sk h1 h2 h3
  obtain ⟨g, x, a1, a2, a3, a4, a5⟩ := x_seg hok h1
  have hi : i < g.2.2 := by rw [← a3]; exact (List.getElem?_eq_some_iff.mp h3).1
  have hx := a2 (by omega)
  rw [List.getElem?_map, a1] at h2
  cases h2
  rw [(a4 i hi).1] at h3
  have e1 : x1.2 = fun q => x.2 (q + g.2.1) := by funext q; exact a5 q (by omega)
  rw [e1]
  cases hv : vs[g.1]? with
  | none =>
    exfalso
    have l1 := (List.getElem?_eq_some_iff.mp hx).1
    have l2 := List.getElem?_eq_none_iff.mp hv
    omega
  | some v =>
    have h := hP g.1 x v (i + g.2.1) sk hx hv h3
    rw [show x_sgM vs g = x_sub v g.2.1 by simp [x_sgM, hv], x_ent_sub tc x.2 v (x_sub v g.2.1) g.2.1 i rfl rfl]
    exact h
theorem x_SP_call {D : va_G} {tc : Nat → ClassId} {Rs : List XR} {vs : List XM} {H H1 : Heap} {sg : List (Nat × Nat × Nat)} {os : List (Option XM)} (hP : x_SP D tc Rs vs H) (hJ : x_Dj Rs) (hvl : vs.length = Rs.length) (hol : os.length = sg.length) (hok : x_sgok Rs sg = true)
    (hP1 : x_SP D tc (sg.map (x_sgR Rs)) (x_vo (sg.map (x_sgM vs)) os) H1) (hk : ∀ q : Nat, q < H.size → ¬ x_Ad (sg.map (x_sgR Rs)) H.size q → H1[q]? = H[q]?) : x_SP D tc Rs (x_nv Rs sg os 0 vs) H1 := by
  intro r x v' id sk h1 h2 h3
  obtain ⟨v, hv, he⟩ := x_nv_at vs 0 r v' h2
  rw [Nat.zero_add] at he
  have hid : id < x.1.length := (List.getElem?_eq_some_iff.mp h3).1
  have hn : id < x_rl Rs r := by simp only [x_rl, h1]; exact hid
  have hold := hP r x v id sk h1 hv h3
  by_cases hc : ∃ (j : Nat) (g : Nat × Nat × Nat), sg[j]? = some g ∧ g.1 = r ∧ g.2.1 ≤ id ∧ id < g.2.1 + g.2.2
  · obtain ⟨j, g, hg, hgr, ho, hlt⟩ := hc
    have hjl : j < os.length := by rw [hol]; exact (List.getElem?_eq_some_iff.mp hg).1
    obtain ⟨o, hoj⟩ : ∃ o, os[j]? = some o := ⟨_, List.getElem?_eq_getElem hjl⟩
    have hx1 : (sg.map (x_sgR Rs))[j]? = some (x_sgR Rs g) := by rw [List.getElem?_map, hg]; rfl
    obtain ⟨g', x', a1, a2, a3, a4, a5⟩ := x_seg hok hx1
    cases a1.symm.trans hg
    have hxx := a2 (by omega)
    rw [hgr] at hxx
    cases hxx.symm.trans h1
    have hv1 : (sg.map (x_sgM vs))[j]? = some (x_sub v g.2.1) := by
      rw [List.getElem?_map, hg]
      simp [x_sgM, hgr, hv]
    have hvo := x_vo_at _ _ j _ o hv1 hoj
    have hsk : (x_sgR Rs g).1[id - g.2.1]? = some sk := by
      rw [(a4 (id - g.2.1) (by omega)).1, Nat.sub_add_cancel ho]
      exact h3
    have hcell := hP1 j _ _ (id - g.2.1) sk hx1 hvo hsk
    have e1 : (x_sgR Rs g).2 = fun q => x.2 (q + g.2.1) := by funext q; exact a5 q (by omega)
    rw [e1] at hcell
    cases o with
    | some u =>
      obtain ⟨p1, p2⟩ := x_puts_on sg os v hn hok j g u hg hoj hgr ho hlt
      rw [x_ent_sub tc x.2 v' ((some u).getD (x_sub v g.2.1)) g.2.1 (id - g.2.1) (by rw [Nat.sub_add_cancel ho, he]; exact p1) (by rw [Nat.sub_add_cancel ho, he]; exact p2)] at hcell
      simp only [Nat.sub_add_cancel ho] at hcell
      exact hcell
    | none =>
      obtain ⟨p1, p2⟩ := x_puts_off (r := r) sg os v hn (fun j2 g2 u2 k1 k2 k3 => by
        have hjj := x_sgok_ap sg hok j j2 g g2 id hg k1 (hgr.trans k3.1.symm) ho hlt k3.2.1 k3.2.2
        subst hjj
        rw [hoj] at k2
        cases k2)
      rw [x_ent_sub tc x.2 v' ((none : Option XM).getD (x_sub v g.2.1)) g.2.1 (id - g.2.1) (by rw [Nat.sub_add_cancel ho, he, p1]; show _ = v.1 (id - g.2.1 + g.2.1); rw [Nat.sub_add_cancel ho]) (by rw [Nat.sub_add_cancel ho, he, p2]; show _ = v.2 (id - g.2.1 + g.2.1); rw [Nat.sub_add_cancel ho])] at hcell
      simp only [Nat.sub_add_cancel ho] at hcell
      exact hcell
  · obtain ⟨p1, p2⟩ := x_puts_off (r := r) sg os v hn (fun j g u k1 _ k3 => hc ⟨j, g, k1, k3⟩)
    rw [x_ent_congr (v := v) (v' := v') (by rw [he]; exact p1) (by rw [he]; exact p2)]
    refine hold.kept (hk _ hold.lt ?_)
    rintro (⟨j, x1, i, b1, b2, b3⟩ | hge)
    · obtain ⟨g, x', a1, a2, a3, a4, a5⟩ := x_seg hok b1
      rw [a3] at b2
      have hxx := a2 (by omega)
      rw [a5 i (by omega)] at b3
      obtain ⟨e1, e2⟩ := hJ r g.1 x x' id (i + g.2.1) h1 hxx hid (a4 i b2).2 b3
      exact hc ⟨j, g, a1, e1.symm, by omega, by omega⟩
    · exact absurd hold.lt (Nat.not_lt.mpr hge)
theorem x_St.keep {aK aV : Nat → Nat} {A B : Nat → Prop} {s U : State} {H : Heap} (h : x_St aK aV A s s.heap) (hW : s.WarmedH U.vm) (hU : U.heap = H) (hk : ∀ q : Nat, q < s.heap.size → ¬ A q → H[q]? = s.heap[q]?) (hBA : ∀ q, B q → A q) : x_St aK aV B U U.heap := by
  obtain ⟨⟨hV, h1, g1, g2, g3, g4⟩, h0, h2, h3, h4, h5⟩ := h
  rw [hU]
  exact ⟨⟨hV, ((h1.moved hW.alike).kept hk).narrow hBA, ((g1.moved hW.alike).kept hk).narrow hBA, ((g2.moved hW.alike).kept hk).narrow hBA, ((g3.moved hW.alike).kept hk).narrow hBA, ((g4.moved hW.alike).kept hk).narrow hBA⟩, h0.warm hW, h2.warm hW, h3.warm hW, h4.warm hW, h5.warm hW⟩
theorem x_PB_blind {D : va_G} {tc : Nat → ClassId} {aK aV : Nat → Nat} {Rs : List XR} {vs : List XM} {sz : Nat} {av : List Value} : FrameBlind (va_Pc av (x_PB D tc aK aV Rs vs sz)) := by
  intro a U g mk q
  obtain ⟨q0, q1, q2, q3, q4, q5⟩ := q
  refine ⟨q0, q1, q2, va_K.moved (u := U) (U := U.calling g mk a) (Vm.Alike.refl U.vm) q3, q4, ?_⟩
  obtain ⟨⟨hV, h1, g1, g2, g3, g4⟩, h0, h2, h3, h4, h5⟩ := q5
  exact ⟨⟨hV, h1.moved (U := U.calling g mk a) (Vm.Alike.refl U.vm), g1.moved (U := U.calling g mk a) (Vm.Alike.refl U.vm), g2.moved (U := U.calling g mk a) (Vm.Alike.refl U.vm), g3.moved (U := U.calling g mk a) (Vm.Alike.refl U.vm), g4.moved (U := U.calling g mk a) (Vm.Alike.refl U.vm)⟩, h0.same rfl, h2.same rfl, h3.same rfl, h4.same rfl, h5.same rfl⟩
/-- what the tables say of a call: of a method of the object's class; of a static one of the caller's own -/
def x_cv (own : String) (idx : Nat) (y : MethodName) (cc : ByteArray) (maxL : Nat) (ret : Option FieldType) (n : Nat) : Prop :=
  Cond.methodLink own idx y ∈ x_TB ∧ Cond.instanceMethod y ∈ x_TB ∧ Cond.selects y.cls y y ∈ x_TB ∧ Cond.initialized y.cls ∈ x_TB ∧ Cond.code y cc maxL ret ∈ x_TB ∧ y.cls ≠ "java/lang/invoke/MethodHandle" ∧ y.cls ≠ "java/lang/invoke/VarHandle" ∧ (parseMethodDescriptor y.desc).map (fun d => d.parameters.length) = some n
def x_cs (own : String) (idx : Nat) (y : MethodName) (cc : ByteArray) (maxL : Nat) (ret : Option FieldType) (n : Nat) : Prop :=
  Cond.methodLink own idx y ∈ x_TB ∧ Cond.static y ∈ x_TB ∧ Cond.initialized y.cls ∈ x_TB ∧ Cond.code y cc maxL ret ∈ x_TB ∧ y.cls ≠ "java/lang/invoke/MethodHandle" ∧ y.cls ≠ "java/lang/invoke/VarHandle" ∧ (parseMethodDescriptor y.desc).map (fun d => d.parameters.length) = some n
theorem x_good {w : Cond} (h : w ∈ x_TB) : w ∈ x_TB ∧ ((w.onTables && w.keeps) = true ∨ ∃ ty, w = .arrayClass ty) := ⟨h, good_of_word (x_TB_good w h).2⟩
section XCALL
variable {p : Program} {l : Launch} {e : Env} {R : Room} {s : State} {m : MethodId} {args : Array Value} {below : List Frame} {meth : Method} {c : Code} {cc : ByteArray} {nL : Nat} {ret : Option FieldType} {own : String} {D : va_G} {tc : Nat → ClassId} {aK aV : Nat → Nat} {A : Nat → Prop} {Rs : List XR} {kc ks : Nat} {Q : State → Prop} {rv : Option Value} {zp : Prop} {vo : List XM} {pc : Nat} {lo : List (Nat × Value)} {st : List Value} {vs : List XM}
variable {y : MethodName} {cc1 : ByteArray} {maxL1 d n idx : Nat} {ret1 : Option FieldType} {Rs1 : List XR} {vs1 vo1 vs2 : List XM} {av1 : (Nat → Nat) → List Value} {rv1 : Option Value} {zp1 : Prop}
theorem x_callW (X : Cx p s m args meth c cc nL ret own D tc aK aV A Rs) (hc : x_cv own idx y cc1 maxL1 ret1 n) (hR : d + 1 ≤ R.frames ∧ 8 + (maxL1 + 11) + 60 * d ≤ R.locals) : CallW R s args own y.cls idx y cc1 maxL1 ret1 (.code y cc1 maxL1 ret1 :: x_TB) (x_Rm d) 0 0 n := by
  obtain ⟨h1, h2, h3, h4, h5, h6, h7, h8⟩ := hc
  refine cwV (Ts := x_TB) (ws' := x_TB) n X.2.2.2.2.1 ?_ rfl rfl rfl ⟨rfl, h6, h7, h8⟩ hR
  intro w hw
  simp only [wsV, List.cons_append, List.nil_append, List.mem_cons] at hw
  rcases hw with rfl | rfl | rfl | rfl | rfl | hw
  · exact x_good h1
  · exact x_good h2
  · exact x_good h3
  · exact x_good h4
  · exact x_good h5
  · exact x_good hw
theorem x_callS (X : Cx p s m args meth c cc nL ret own D tc aK aV A Rs) (hc : x_cs own idx y cc1 maxL1 ret1 n) (hR : d + 1 ≤ R.frames ∧ 8 + (maxL1 + 11) + 60 * d ≤ R.locals) : CallB R s args own idx y cc1 maxL1 ret1 (.code y cc1 maxL1 ret1 :: x_TB) (x_Rm d) 0 0 n ∧ (Cond.static y).before args s = true := by
  obtain ⟨h1, h3, h4, h5, h6, h7, h8⟩ := hc
  have hts := X.2.2.2.2.1
  refine ⟨callB_of (Ts := x_TB) (ws' := x_TB) n hts ?_ rfl rfl rfl (hts _ h4) (hts _ h1) ⟨h6, h7, h8⟩ hR, hts _ h3⟩
  intro w hw
  simp only [List.mem_cons] at hw
  rcases hw with rfl | hw
  · exact x_good h5
  · exact x_good hw
/-- what a call leaves, whatever its kind -/
theorem a_callG (X : Cx p s m args meth c cc nL ret own D tc aK aV A Rs) {sg : List (Nat × Nat × Nat)} {os : List (Option XM)} {rest st2 : List Value} {av : Array Value} (hvl : vs.length = Rs.length) (hol : os.length = sg.length) (hok : x_sgok Rs sg = true)
    (h1 : sg.map (x_sgR Rs) = Rs1) (h2 : sg.map (x_sgM vs) = vs1) (h3 : x_vo vs1 os = vo1) (h4 : x_nv Rs sg os 0 vs = vs2) (h5 : rv1.toList ++ rest = st2)
    (hrun : ∀ (H : Heap) (locs : List Loc) (ls : Array Slot), x_SP D tc Rs vs H → va_S A s.heap H locs → lv_has ls nL lo → va_Run p l e R s m args below meth c H locs kc ks 0 0 (F0 m pc ls st) rest (x_Q rv1 zp1 D tc Rs1 vo1 (x_Ad Rs1 H.size) av) (x_Ad Rs1 H.size))
    (k : zp1 → bW p l e R s m args below meth c D tc A nL Rs kc ks Q (pc + 3) lo st2 vs2) : bW p l e R s m args below meth c D tc A nL Rs kc ks Q pc lo st vs := fun H locs ls hP hS hl => by
  intro T hT XX
  obtain ⟨v, st₀, t, T', L, h0, X', hL, e1, e2, ⟨hv, hz, hp1, hz1, hk1⟩, stp⟩ := hrun H locs ls hP hS hl T hT XX
  cases hv
  rw [h0] at hz1 hk1
  obtain ⟨-, -, -, -, -, -, hJ, hA, hA2, -⟩ := X
  subst h1 h2 h3 h4 h5
  have hsub : ∀ q, x_Ad (sg.map (x_sgR Rs)) H.size q → A q := by
    rintro q (⟨j, x1, i, b1, b2, b3⟩ | hge)
    · obtain ⟨g, x', a1, a2, a3, a4, a5⟩ := x_seg hok b1
      rw [a3] at b2
      rw [b3, a5 i (by omega)]
      exact hA g.1 x' _ (a2 (by omega)) (a4 i b2).2
    · exact hA2 q (Nat.le_trans hS.1 hge)
  have hP2 := x_SP_call hP hJ hvl hol hok hp1 hk1
  rw [← e1] at hP2 hz1 hk1
  obtain ⟨t2, g1, g2⟩ := k hz T'.heap (locs ++ L) ls hP2 ⟨Nat.le_trans hS.1 hz1, fun q q1 q2 => by rw [hk1 q (Nat.lt_of_lt_of_le q1 hS.1) (fun z => q2 (hsub q z))]; exact hS.2.1 q q1 q2, fun q hq => by
      rcases List.mem_append.mp hq with h | h
      · exact hS.2.2 q h
      · exact hsub _ (hL q h)⟩ hl T' rfl X'
  exact ⟨t2, stp t2 g1, g2⟩
theorem x_pre (X : Cx p s m args meth c cc nL ret own D tc aK aV A Rs) {sg : List (Nat × Nat × Nat)} {av : List Value} {H : Heap} {locs : List Loc} (hvl : vs.length = Rs.length) (hok : x_sgok Rs sg = true) (hP : x_SP D tc Rs vs H) (hS : va_S A s.heap H locs) : ∀ U : State, U.heap = H → s.WarmedH U.vm → va_Pc av (x_PB D tc aK aV (sg.map (x_sgR Rs)) (sg.map (x_sgM vs)) H.size) av.toArray U := by
  intro U hU hW
  obtain ⟨-, -, -, -, -, hK, hJ, hA, hA2, hSt, -⟩ := X
  refine ⟨rfl, by rw [hU], by rw [hU]; exact x_SP_sub hP hvl hok, va_K.moved hW.alike hK, x_Dj_sub hJ hok, hSt.keep hW hU hS.2.1 ?_⟩
  rintro q (⟨j, x1, i, b1, b2, b3⟩ | hge)
  · obtain ⟨g, x', a1, a2, a3, a4, a5⟩ := x_seg hok b1
    rw [a3] at b2
    rw [b3, a5 i (by omega)]
    exact hA g.1 x' _ (a2 (by omega)) (a4 i b2).2
  · exact hA2 q (Nat.le_trans hS.1 hge)
theorem a_callV (X : Cx p s m args meth c cc nL ret own D tc aK aV A Rs) (sg : List (Nat × Nat × Nat)) (os : List (Option XM)) (r id ci : Nat) {sh : List XK} {ad : Nat → Nat} {v0 : XM} {kds : List Nat} (As rest : List Value) {st2 : List Value} (hc : x_cv own idx y cc1 maxL1 ret1 n) (hM : CT l y cc1 maxL1 ret1 d Rs1 vs1 av1 rv1 zp1 vo1)
    (hav : av1 aK = .ref (ad id) :: As) (hvl : vs.length = Rs.length) (hol : os.length = sg.length) (hok : x_sgok Rs sg = true)
    (h1 : sg.map (x_sgR Rs) = Rs1) (h2 : sg.map (x_sgM vs) = vs1) (h3 : x_vo vs1 os = vo1) (h4 : x_nv Rs sg os 0 vs = vs2) (h5 : rv1.toList ++ rest = st2)
    (hr : Rs[r]? = some (sh, ad)) (hv : vs[r]? = some v0) (hsk : sh[id]? = some (.inl (ci, kds))) (hcl : (vwCl[ci]?).map (fun q => q.1) = some y.cls) (hn : As.length = n) (hst : As.reverse ++ .ref (ad id) :: rest = st) (hW : (rest.map fun v => v.category).sum ≤ 8) (hR : d + 1 ≤ R.frames ∧ 8 + (maxL1 + 11) + 60 * d ≤ R.locals) (hdg : decode cc pc = .ok (.invokevirtual idx, 3))
    (k : zp1 → bW p l e R s m args below meth c D tc A nL Rs kc ks Q (pc + 3) lo st2 vs2) (hroom : kc ≤ R.cells ∧ ks ≤ R.slots := by exact ⟨Nat.zero_le _, Nat.zero_le _⟩) : bW p l e R s m args below meth c D tc A nL Rs kc ks Q pc lo st vs := by
  refine a_callG X (av := (Value.ref (ad id) :: As).toArray) hvl hol hok h1 h2 h3 h4 h5 (fun H locs ls hP hS hl => ?_) k
  have hM := hM D tc aK aV H.size
  rw [hav] at hM
  obtain ⟨q, hq1, hq2⟩ : ∃ q, vwCl[ci]? = some q ∧ q.1 = y.cls := by
    cases hqq : vwCl[ci]? with
    | none => rw [hqq] at hcl; cases hcl
    | some q => rw [hqq] at hcl; exact ⟨q, rfl, Option.some.inj hcl⟩
  subst h1 h2 hst
  have hre := va_recv X.2.2.2.2.2.1 (x_one hP hr hv hsk) hq1 (q0 := 0) rfl
  rw [hq2] at hre
  exact va_runV ⟨X.1, X.2.1, X.2.2.1, X.2.2.2.1, X.2.2.2.2.1⟩ hM (x_callW X hc hR) ⟨x_PB_blind, hre, x_pre X hvl hok hP hS⟩ rfl hn hl.1 rfl (by show 2 * 0 + _ ≤ 8; omega) hdg hroom
theorem a_callS (X : Cx p s m args meth c cc nL ret own D tc aK aV A Rs) (sg : List (Nat × Nat × Nat)) (os : List (Option XM)) (As rest : List Value) {st2 : List Value} (hc : x_cs own idx y cc1 maxL1 ret1 n) (hM : CT l y cc1 maxL1 ret1 d Rs1 vs1 av1 rv1 zp1 vo1)
    (hav : av1 aK = As) (hvl : vs.length = Rs.length) (hol : os.length = sg.length) (hok : x_sgok Rs sg = true)
    (h1 : sg.map (x_sgR Rs) = Rs1) (h2 : sg.map (x_sgM vs) = vs1) (h3 : x_vo vs1 os = vo1) (h4 : x_nv Rs sg os 0 vs = vs2) (h5 : rv1.toList ++ rest = st2)
    (hn : As.length = n) (hst : As.reverse ++ rest = st) (hW : (rest.map fun v => v.category).sum ≤ 8) (hR : d + 1 ≤ R.frames ∧ 8 + (maxL1 + 11) + 60 * d ≤ R.locals) (hdg : decode cc pc = .ok (.invokestatic idx, 3))
    (k : zp1 → bW p l e R s m args below meth c D tc A nL Rs kc ks Q (pc + 3) lo st2 vs2) (hroom : kc ≤ R.cells ∧ ks ≤ R.slots := by exact ⟨Nat.zero_le _, Nat.zero_le _⟩) : bW p l e R s m args below meth c D tc A nL Rs kc ks Q pc lo st vs := by
  refine a_callG X (av := As.toArray) hvl hol hok h1 h2 h3 h4 h5 (fun H locs ls hP hS hl => ?_) k
  have hM := hM D tc aK aV H.size
  rw [hav] at hM
  subst h1 h2 hst
  exact va_runS ⟨X.1, X.2.1, X.2.2.1, X.2.2.2.1, X.2.2.2.2.1⟩ hM (x_callS X hc hR) ⟨x_PB_blind, x_pre X hvl hok hP hS⟩ rfl hn hl.1 rfl (by show 2 * 0 + _ ≤ 8; omega) hdg hroom
end XCALL
