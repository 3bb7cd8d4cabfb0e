-- Constructors: calls of constructors, final fields.
section XCTOR2
variable {p : Program} {l : Launch} {e : Env} {R : Room} {s : State} {m : MethodId} {args : Array Value} {below : List Frame} {meth : Method} {c : Code} {cc : ByteArray} {nL : Nat} {ret : Option FieldType} {own : String} {D : va_G} {tc : Nat → ClassId} {aK aV : Nat → Nat} {kc ks : Nat} {Q : State → Prop} {pc : Nat} {lo : List (Nat × Value)} {st : List Value} {a : Nat} {cur : List XK} {v : XM}
theorem a_obj (X : Cx p s m args meth c cc nL ret own D tc aK aV (fun q => a ≤ q) [(cur, fun i => a + i)]) {idx x : Nat} (hw : Cond.methodLink own idx Lib.objectInit ∈ x_TB ∧ Cond.instanceMethod Lib.objectInit ∈ x_TB ∧ Cond.code Lib.objectInit ⟨#[0xb1]⟩ 1 none ∈ x_TB) (hdg : decode cc pc = .ok (.invokespecial idx, 3)) (hF : 1 ≤ R.frames) (hL : (st.map fun v => v.category).sum + 12 ≤ R.locals)
    (k : bW p l e R s m args below meth c D tc (fun q => a ≤ q) nL [(cur, fun i => a + i)] kc ks Q (pc + 3) lo st [v]) : bW p l e R s m args below meth c D tc (fun q => a ≤ q) nL [(cur, fun i => a + i)] kc ks Q pc lo (.ref x :: st) [v] := fun H locs ls hP hS hl =>
  W.objInit X.1 X.2.1 X.2.2.2.1 (X.2.2.2.2.1 _ hw.1) (X.2.2.2.2.1 _ hw.2.1) (X.2.2.2.2.1 _ hw.2.2) rfl (hl.1.trans X.2.2.1.symm) rfl hdg hF (by show 2 * 0 + _ + 12 ≤ _; omega) (k H locs ls hP hS hl)
theorem a_putR {tl : List XK} {ci : Nat} {kds : List Nat} (X : Cx p s m args meth c cc nL ret own D tc aK aV (fun q => a ≤ q) [(.inl (ci, kds) :: tl, fun i => a + i)]) (hin2 : meth.name = "<init>") {k o idx : Nat} {ty : FieldType} (hf : x_fl own idx ci k 2 ty) (hfin : ∀ (C : String) (T : u_T) (N : Nat), vwCl[ci]? = some (C, T, N) → (T k).2.2.2 = true ∧ (T k).1 = own) (hk : kds[k]? = some 2) (ho : o ≠ 0) (hn : narrow ty (.ref (a + o)) = .ref (a + o)) (hfit : fits ty (.ref (a + o)) = true) (hdg : decode cc pc = .ok (.putfield idx, 3))
    (kk : bW p l e R s m args below meth c D tc (fun q => a ≤ q) nL [(.inl (ci, kds.set k (o + 2)) :: tl, fun i => a + i)] kc ks Q (pc + 3) lo st [v]) : bW p l e R s m args below meth c D tc (fun q => a ≤ q) nL [(.inl (ci, kds) :: tl, fun i => a + i)] kc ks Q pc lo (.ref (a + o) :: .ref (a + 0) :: st) [v] := fun H locs ls hP hS hl => by
  obtain ⟨C, T, N, ty0, hc, hkN, hin, hlk, hty, hnm, hd, -⟩ := hf
  obtain ⟨hfin, hdecl⟩ := hfin C T N hc
  obtain ⟨hx, hb, -, hown, hts, hK, hJ, hA, -⟩ := X
  have hap := va_apart (own := own) hts hin ty0 hty hnm hK hc
  have hlen : k < (x_fvs (fun i => a + i) v 0 kds).length := by simp [x_fvs, (List.getElem?_eq_some_iff.mp hk).1]
  obtain ⟨r0, h1, cell, q1, q2, q3, q4⟩ := hP 0 _ v 0 _ rfl rfl rfl
  have hr0 : r0 = (C, T, N) := Option.some.inj (h1.symm.trans hc)
  subst hr0
  obtain ⟨hSl, hfc, kC, hkC, hkind⟩ := hK.1 ci _ hc
  obtain ⟨cf, kf, fi, f, hi, hsl⟩ := hSl k hkN
  have hlay := hts _ (hin _ (u_in_lay hkN))
  unfold u_lay at hlay
  rw [if_pos hfin] at hlay
  have hst := (u_facts hfc hkC (u_lays hts hin hkN) hi).1
  have hcf : m.cls = cf := by
    obtain ⟨_, _, c', _, _, _, -, -, hf', -, -, -, hown2, -⟩ := Cond.laysFinal_spec hlay
    have e1 : c' = cf := by have := hi.symm.trans hf'; simp at this; exact this.1.symm
    rw [hdecl] at hown2
    rw [← e1]; exact Option.some.inj (hown.symm.trans hown2)
  have h6 := u_fits hfc hkC hkind (Or.inr hlay) hi hd hn hfit
  refine W.putFinK hx hb hown (hts _ hlk) hi hst hcf hin2 (by rw [q2]; exact h6) q1 q3 (by rw [hsl]; exact k2_hasslot (q4 k hkN)) rfl rfl hdg fun H' e1 e2 e3 => ?_
  rw [hsl] at e1 ⊢
  refine kk H' _ ls ?_ (hS.put e2 e3 (hA 0 _ 0 rfl (by simp))) hl
  intro r x w i sk g1 g2 g3
  match r with
  | 0 =>
    cases g1; cases g2
    match i with
    | 0 =>
      cases g3
      show va_at D vwCl (a + 0, .inr (ci, x_fvs (fun i => a + i) v 0 (kds.set k (o + 2)))) H'
      have hv : x_fvs (fun i => a + i) v 0 (kds.set k (o + 2)) = (x_fvs (fun i => a + i) v 0 kds).set k (.ref (a + o)) := by
        apply List.ext_getElem?
        intro j
        by_cases hj : j = k
        · subst hj
          rw [List.getElem?_set_self hlen, x_fvs_at (kd := o + 2) (by rw [List.getElem?_set_self (List.getElem?_eq_some_iff.mp hk).1])]
          obtain ⟨o, rfl⟩ : ∃ q, o = q + 1 := ⟨o - 1, by omega⟩
          simp [x_fv]
        · rw [List.getElem?_set_ne (Ne.symm hj)]
          simp only [x_fvs, List.getElem?_mapIdx]
          rw [List.getElem?_set_ne (Ne.symm hj)]
      rw [hv]
      exact ⟨_, hc, t_OB.to (V := updV (vp_V (x_fvs (fun i => a + i) v 0 kds)) k (.ref (a + o))) ⟨_, e1, q2, q3, t_set q4 hap hkN _⟩ (fun j _ => vp_updV_set hlen _ j)⟩
    | i + 1 =>
      exact (hP 0 _ v (i + 1) sk rfl rfl g3).kept (e3 _ (by show a + (i + 1) ≠ a + 0; omega))
  | r + 1 => simp at g1
/-- what the tables say of a constructor's call -/
def x_ci (own : String) (idx : Nat) (y : MethodName) (cc : ByteArray) (maxL n : Nat) : Prop :=
  (Cond.methodLink own idx y ∈ x_TB ∨ .methodLinkNest own idx y "FoldRoads" ∈ x_nn) ∧ Cond.instanceMethod y ∈ x_TB ∧ Cond.initialized y.cls ∈ x_TB ∧ Cond.code y cc maxL none ∈ x_TB ∧ y.cls ≠ "java/lang/invoke/MethodHandle" ∧ y.cls ≠ "java/lang/invoke/VarHandle" ∧ (parseMethodDescriptor y.desc).map (fun d => d.parameters.length) = some n ∧ y.name = "<init>"
theorem a_cinit {k0 : XK} (X : Cx p s m args meth c cc nL ret own D tc aK aV (fun q => a ≤ q) [(cur ++ [k0], fun i => a + i)]) (ha : s.heap.size = a + 1) (hc : (cur ++ [k0]).length = kc + 1) (hNn : x_Nn s) {y : MethodName} {cc1 : ByteArray} {maxL1 d1 mc1 ms1 idx n : Nat} {sh : List XK} {v1 : XM} (av rest : List Value) (hM : CN l y cc1 maxL1 d1 mc1 ms1 k0 sh v1 av) (hw : x_ci own idx y cc1 maxL1 n) (hz : v.1 kc = (fun _ => 0) ∧ v.2 kc = (fun _ => 0)) (hst : av.reverse ++ .ref (a + kc) :: rest = st) (hn : av.length = n) (hcat : (rest.map fun v => v.category).sum ≤ 8) (hR : d1 + 1 ≤ R.frames ∧ 8 + (maxL1 + 11) + 60 * d1 ≤ R.locals) (hr : kc + mc1 ≤ R.cells ∧ ks + ms1 ≤ R.slots) (hdg : decode cc pc = .ok (.invokespecial idx, 3))
    (k : bW p l e R s m args below meth c D tc (fun q => a ≤ q) nL [(cur ++ sh, fun i => a + i)] (kc + mc1) (ks + ms1) Q (pc + 3) lo rest [x_app kc v v1]) : bW p l e R s m args below meth c D tc (fun q => a ≤ q) nL [(cur ++ [k0], fun i => a + i)] kc ks Q pc lo st [v] := fun H locs ls hP hS hl => by
  intro T hT XX
  have hsz : H.size = a + (kc + 1) := by have := x_sz X ha hc XX (by rw [hT]; exact hP); rw [hT] at this; exact this
  have hlc : cur.length = kc := by simpa using hc
  have hM := hM D tc aK aV (a + kc)
  obtain ⟨w1, w2, w3, w4, w5, w6, w7, w8⟩ := hw
  obtain ⟨hx, hb, hml, hown, hts, hK, hJ, hA, hA2, hSt, hrt, hlk⟩ := X
  have hpre : ∀ U : State, U.heap = H → s.WarmedH U.vm → va_Pc (.ref (a + kc) :: av) (fun U => U.heap.size = a + kc + 1 ∧ x_SP D tc [([k0], fun i => a + kc + i)] [x_z] U.heap ∧ va_K D vwCl (x_tys tc) U ∧ x_St aK aV (fun q => a + kc ≤ q) U U.heap ∧ x_Nn U) (Value.ref (a + kc) :: av).toArray U := by
    intro U hU hW
    refine ⟨rfl, by rw [hU, hsz]; omega, ?_, va_K.moved hW.alike hK, hSt.keep hW hU hS.2.1 (fun q h => by show a ≤ q; have h : a + kc ≤ q := h; omega), hNn.warm hW⟩
    rw [hU]
    intro r x w i sk g1 g2 g3
    match r with
    | 0 =>
      cases g1; cases g2
      match i with
      | 0 =>
        cases g3
        have h := hP 0 _ v kc k0 rfl rfl (by rw [List.getElem?_append_right (by omega), hlc]; simp)
        have e := x_ent_sub tc (fun i => a + i) v x_z kc 0 (by rw [Nat.zero_add]; exact hz.1) (by rw [Nat.zero_add]; exact hz.2) k0
        rw [Nat.zero_add] at e
        rw [← e] at h
        have e2 : (fun q => (fun i => a + i) (q + kc)) = (fun i => a + kc + i) := by funext q; show a + (q + kc) = a + kc + q; omega
        rw [e2] at h
        exact h
      | i + 1 => simp at g3
    | r + 1 => simp at g1
  have hG : GoodIn x_TB (.code y cc1 maxL1 none :: x_TB) := by
    intro w hw
    simp only [List.mem_cons] at hw
    rcases hw with rfl | hw
    · exact x_good w4
    · exact x_good hw
  have hbl : FrameBlind (va_Pc (.ref (a + kc) :: av) (fun U => U.heap.size = a + kc + 1 ∧ x_SP D tc [([k0], fun i => a + kc + i)] [x_z] U.heap ∧ va_K D vwCl (x_tys tc) U ∧ x_St aK aV (fun q => a + kc ≤ q) U U.heap ∧ x_Nn U)) := by
    intro a1 U g mk q
    obtain ⟨q0, q1, q2, q3, q4, q5⟩ := q
    refine ⟨q0, q1, q2, va_K.moved (u := U) (U := U.calling g mk a1) (Vm.Alike.refl U.vm) q3, ?_, x_Nn.same (u := U) rfl q5⟩
    obtain ⟨⟨hV, h1, g1, g2, g3, g4⟩, h0, h2, h3, h4, h5⟩ := q4
    exact ⟨⟨hV, h1.moved (U := U.calling g mk a1) (Vm.Alike.refl U.vm), g1.moved (U := U.calling g mk a1) (Vm.Alike.refl U.vm), g2.moved (U := U.calling g mk a1) (Vm.Alike.refl U.vm), g3.moved (U := U.calling g mk a1) (Vm.Alike.refl U.vm), g4.moved (U := U.calling g mk a1) (Vm.Alike.refl U.vm)⟩, h0.same rfl, h2.same rfl, h3.same rfl, h4.same rfl, h5.same rfl⟩
  have hrun : va_Run p l e R s m args below meth c H locs kc ks mc1 ms1 (F0 m pc ls st) rest (x_Q none True D tc [(sh, fun i => a + kc + i)] [v1] (fun q => a + kc ≤ q) (Value.ref (a + kc) :: av).toArray) (fun q => a + kc ≤ q) := by
    subst hst
    rcases w1 with w1 | w1
    · exact va_runI ⟨hx, hb, hml, hown, hts⟩ hM (cwI n hts hG rfl rfl rfl (hts _ w3) (hts _ w1) (hts _ w2) w8 ⟨w5, w6, w7⟩ hR) ⟨hbl, hpre⟩ rfl hn hl.1 rfl (by show 2 * 0 + _ ≤ 8; omega) hdg hr
    · exact va_runIN ⟨hx, hb, hml, hown, hts⟩ hM ⟨va_cnB n hts hG rfl rfl rfl (hNn.1 _ w1) (hts _ w3) ⟨w5, w6, w7⟩ hR, w8, hts _ w2⟩ ⟨hbl, hpre⟩ rfl hn hl.1 rfl (by show 2 * 0 + _ ≤ 8; omega) hdg hr
  obtain ⟨vv, st₀, t, T', L, h0, X', hL, e1, e2, ⟨hv, -, hp1, hz1, hk1⟩, stp⟩ := hrun T hT XX
  cases hv
  rw [h0] at hz1 hk1
  rw [← e1] at hp1 hz1 hk1
  have hP2 : x_SP D tc [(cur ++ sh, fun i => a + i)] [x_app kc v v1] T'.heap := by
    intro r x w i sk g1 g2 g3
    match r with
    | 0 =>
      cases g1; cases g2
      by_cases hi : i < cur.length
      · rw [List.getElem?_append_left hi] at g3
        have h := hP 0 _ v i sk rfl rfl (by rw [List.getElem?_append_left hi]; exact g3)
        rw [x_ent_congr (v := v) (v' := x_app kc v v1) (by simp [x_app]; omega) (by simp [x_app]; omega)]
        exact h.kept (hk1 (a + i) (by omega) (by show ¬ a + kc ≤ a + i; omega))
      · rw [List.getElem?_append_right (by omega), hlc] at g3
        have h := hp1 0 _ v1 (i - kc) sk rfl rfl g3
        have e := x_ent_sub tc (fun i => a + i) (x_app kc v v1) v1 kc (i - kc) (by rw [Nat.sub_add_cancel (by omega)]; simp [x_app]; omega) (by rw [Nat.sub_add_cancel (by omega)]; simp [x_app]; omega) sk
        rw [Nat.sub_add_cancel (by omega)] at e
        have e2 : (fun q => (fun i => a + i) (q + kc)) = (fun i => a + kc + i) := by funext q; show a + (q + kc) = a + kc + q; omega
        rw [e2] at e
        show va_at D vwCl (a + i, _) _
        rw [← e, show a + i = a + kc + (i - kc) by omega]
        exact h
    | r + 1 => simp at g1
  obtain ⟨t2, g1, g2⟩ := k T'.heap (locs ++ L) ls hP2 ⟨Nat.le_trans hS.1 hz1, fun q q1 q2 => by rw [hk1 q (Nat.lt_of_lt_of_le q1 hS.1) (fun z => q2 (by show a ≤ q; have z : a + kc ≤ q := z; omega))]; exact hS.2.1 q q1 q2, fun q hq => by
      rcases List.mem_append.mp hq with h | h
      · exact hS.2.2 q h
      · have z : a + kc ≤ q.base := hL q h
        show a ≤ q.base
        omega⟩ hl T' rfl X'
  exact ⟨t2, stp t2 g1, g2⟩
end XCTOR2
