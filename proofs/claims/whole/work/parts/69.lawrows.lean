-- Rows of the law: the script, new objects from nothing, static calls that may catch, the end.
def R_law : String := "FoldRoadsLaw"
def lw_P (b : Addr) (xs : List Int32) (args : Array Value) (s : State) : Prop := args = #[.ref b] ∧ s.IntsAt b xs ∧ xs.length ≤ 3072 ∧ (Jvm.Cond.and given_1 narrow_1).before args s = true
def lw_Q (_ : Array Value) (s : State) (o : Outcome) (t : State) : Prop := o = .returned (some (.int 1)) ∧ Framed s o t [] 601024 7293034
def lw_Z (below : List Frame) (a : Array Value) (s : State) : State → Prop := fun t => ∃ o, t.status = .running ∧ Ended t below o ∧ lw_Q a s o t
/-- the law's own end, with 1 on the stack, nothing written that was there before, its room as the claim has it -/
theorem lw_ret {p : Program} {l : Launch} {e : Env} {s : State} {m : MethodId} {below : List Frame} {meth : Method} {c : Code} {b : Nat} (hx : p.tables.exec = Jvm.exec) (hb : c.code = code) (hr : meth.sig.returnType = ret) (hlocks : meth.locks = false) {pc : Nat} {H : Heap} {ls : Array Slot} (hdg : decode code pc = .ok (.ireturn, 1)) : W p l e room_1 s m #[Value.ref b] below meth c H [] 601024 7293034 (lw_Z below #[Value.ref b] s) (F0 m pc ls [.int 1]) := by
  intro T hT X
  obtain ⟨fs, hret, hrun, hended, hW, hframe⟩ := X.leave (v := some (.int 1)) (hlocks := hlocks) (fun h => by rw [hr] at h; cases h)
  have hmeth' : T.vm.method? m = some meth := X.method'
  refine ⟨T.setFrames fs, ?_, .returned (some (.int 1)), hrun, hended, rfl, ⟨_, rfl⟩, hW, hframe⟩
  jvm_step X.here [X.here.top, hx, hb, hdg, hmeth', hr, ret, narrow_b1]
  (try refine ⟨rfl, ?_⟩); (try refine ⟨rfl, ?_⟩)
  first | (intro acts; rw [hret _ acts rfl rfl rfl]) | rw [hret _ _ rfl rfl rfl]
  exact Steps.refl _
/-- what holds at the law's entry: the machine, the code, the tables' words (any of lw_tbl by 'hts w (by decide +kernel)'), the script of L ints xs at the cell b, what the Statement gives of the start (any of its parts by flat_of_before) -/
def lw_At (p : Program) (s : State) (m : MethodId) (meth : Method) (c : Code) (b L : Nat) (xs : Nat → Int32) : Prop :=
  p.tables.exec = Jvm.exec ∧ c.code = code ∧ meth.sig.returnType = ret ∧ c.maxLocals = 7 ∧ s.vm.findClass R_law = some m.cls ∧ (∀ w ∈ lw_tbl, w.before #[Value.ref b] s = true) ∧ va_X b L xs s s.heap ∧ b < s.heap.size ∧ meth.locks = false ∧ (Jvm.Cond.and given_1 narrow_1).before #[Value.ref b] s = true
section XLAW
variable {p : Program} {l : Launch} {e : Env} {R : Room} {s : State} {m : MethodId} {args : Array Value} {below : List Frame} {meth : Method} {c : Code} {cc : ByteArray} {nL : Nat} {ret : Option FieldType} {own : String} {D : va_G} {tc : Nat → ClassId} {aK aV : Nat → Nat} {kc ks : Nat} {Q : State → Prop} {pc : Nat} {lo : List (Nat × Value)} {st : List Value} {a : Nat} {cur : List XK} {v : XM}
theorem y_sz (ha : s.heap.size = a) (hc : cur.length = kc) {T : State} {locs : List Loc} (XX : Stand p l e R s m args below meth c T locs kc ks) (hS : s.heap.size ≤ T.heap.size) (hP : x_SP D tc [(cur, fun i => a + i)] [v] T.heap) : T.heap.size = a + kc := by
  have h1 : T.heap.size ≤ s.heap.size + kc := XX.same.2.2.1
  match kc, hc, h1 with
  | 0, _, h1 => omega
  | kc + 1, hc, h1 =>
    obtain ⟨sk, hsk⟩ : ∃ sk, cur[kc]? = some sk := ⟨_, List.getElem?_eq_getElem (by omega)⟩
    have h2 : a + kc < T.heap.size := (hP 0 _ v kc sk rfl rfl hsk).lt
    omega
theorem y_new (X : Cx p s m args meth c cc nL ret own D tc aK aV (fun q => a ≤ q) [(cur, fun i => a + i)]) (ha : s.heap.size = a) (hc : cur.length = kc) {idx ci N : Nat} {kds : List Nat} (hw : x_nw own idx ci N kds) (hdg : decode cc pc = .ok (.new idx, 3)) (hr : kc + 1 ≤ R.cells ∧ ks + N ≤ R.slots)
    (k : bW p l e R s m args below meth c D tc (fun q => a ≤ q) nL [(cur ++ [.inl (ci, kds)], fun i => a + i)] (kc + 1) (ks + N) Q (pc + 3) lo (.ref (a + kc) :: st) [x_zc v kc]) : bW p l e R s m args below meth c D tc (fun q => a ≤ q) nL [(cur, fun i => a + i)] kc ks Q pc lo st [v] := fun H locs ls hP hS hl => by
  intro T hT XX
  obtain ⟨C, Tt, ty0, h1, h2, h3, h4, h5, h6, h7⟩ := hw
  have hts := X.2.2.2.2.1
  have hK := X.2.2.2.2.2.1
  have hsz : H.size = a + kc := by have := y_sz ha hc XX (by rw [hT]; exact hS.1) (by rw [hT]; exact hP); rw [hT] at this; exact this
  have hKn := hK.1 ci _ h1
  suffices hW : W p l e R s m args below meth c H locs kc ks Q (F0 m pc ls st) from hW T hT XX
  refine W.newcK X.1 X.2.1 X.2.2.2.1 (hts _ h2) (hts _ h3) (hts _ h4) rfl hdg hr.1 hr.2 hKn.2.1 hsz (fun H1 kC hkC e1 z1 o1 => ?_)
  refine k H1 locs ls ?_ ⟨by have := hS.1; omega, fun q q1 q2 => by rw [o1 q (by omega)]; exact hS.2.1 q q1 q2, hS.2.2⟩ hl
  refine x_SP1 hP hsz hc o1 (fun i hi => ⟨by funext j; simp [x_zc]; omega, by funext j; simp [x_zc]; omega⟩) ?_
  refine ⟨_, h1, t_OB.to (u_born ty0 hts h5 hKn hkC e1 h6) (fun j hj => ?_)⟩
  rcases h7 j hj with ⟨g1, g2⟩ | ⟨g1, g2⟩ | ⟨g1, g2⟩ <;> rw [g2] <;> simp [vp_V, x_fvs, List.getElem?_mapIdx, g1, x_fv, x_zc]
theorem y_newarrL (X : Cx p s m args meth c cc nL ret own D tc aK aV (fun q => a ≤ q) [(cur, fun i => a + i)]) (ha : s.heap.size = a) (hc : cur.length = kc) {n : Int32} {N : Nat} (hn : ¬ n < 0) (hN : n.toNatClampNeg = N) (hw : Cond.arrayClass .long ∈ x_TB) (hdg : decode cc pc = .ok (.newarray .long, 2)) (hb : N ≤ 65536) (hr : kc + 1 ≤ R.cells ∧ ks + N ≤ R.slots)
    (k : bW p l e R s m args below meth c D tc (fun q => a ≤ q) nL [(cur ++ [.inr (1, N)], fun i => a + i)] (kc + 1) (ks + N) Q (pc + 2) lo (.ref (a + kc) :: st) [x_zc v kc]) : bW p l e R s m args below meth c D tc (fun q => a ≤ q) nL [(cur, fun i => a + i)] kc ks Q pc lo (.int n :: st) [v] := fun H locs ls hP hS hl => by
  intro T hT XX
  have hts := X.2.2.2.2.1
  have hK := X.2.2.2.2.2.1
  have hsz : H.size = a + kc := by have := y_sz ha hc XX (by rw [hT]; exact hS.1) (by rw [hT]; exact hP); rw [hT] at this; exact this
  suffices hW : W p l e R s m args below meth c H locs kc ks Q (F0 m pc ls (.int n :: st)) from hW T hT XX
  refine va_newaK X.1 X.2.1 (atype := .long) (hts _ hw) rfl hdg rfl hn hN (by show N * _ ≤ _; simp only [newarray.typeOf, componentBytes]; omega) hr.1 hr.2 hsz (fun H1 cA e1 z1 o1 hAr hNm => ?_)
  have hcA : cA = tc 1 := Option.some.inj (hNm.symm.trans (hK.2 1 _ rfl).2)
  subst hcA
  refine k H1 locs ls ?_ ⟨by have := hS.1; omega, fun q q1 q2 => by rw [o1 q (by omega)]; exact hS.2.1 q q1 q2, hS.2.2⟩ hl
  refine x_SP1 hP hsz hc o1 (fun i hi => ⟨by funext j; simp [x_zc]; omega, by funext j; simp [x_zc]; omega⟩) ?_
  show H1[a + kc]? = some (vp_cell _ _)
  rw [e1]
  show some _ = some (arrV (tc 1) N (fun j => .long ((x_zc v kc).2 kc j)))
  congr 2
  funext j
  simp [x_zc, defaultValue, newarray.typeOf]
theorem y_cinit {k0 : XK} (X : Cx p s m args meth c cc nL ret own D tc aK aV (fun q => a ≤ q) [(cur ++ [k0], fun i => a + i)]) (ha : s.heap.size = a) (hc : (cur ++ [k0]).length = kc + 1) (hNn : x_Nn s) {y : MethodName} {cc1 : ByteArray} {maxL1 d1 mc1 ms1 idx n : Nat} {sh : List XK} {v1 : XM} (av rest : List Value) (hM : CN l y cc1 maxL1 d1 mc1 ms1 k0 sh v1 av) (hw : x_ci own idx y cc1 maxL1 n) (hz : v.1 kc = (fun _ => 0) ∧ v.2 kc = (fun _ => 0)) (hst : av.reverse ++ .ref (a + kc) :: rest = st) (hn : av.length = n) (hcat : (rest.map fun v => v.category).sum ≤ 8) (hR : d1 + 1 ≤ R.frames ∧ 8 + (maxL1 + 11) + 60 * d1 ≤ R.locals) (hr : kc + 1 + mc1 ≤ R.cells ∧ ks + ms1 ≤ R.slots) (hdg : decode cc pc = .ok (.invokespecial idx, 3))
    (k : bW p l e R s m args below meth c D tc (fun q => a ≤ q) nL [(cur ++ sh, fun i => a + i)] (kc + 1 + mc1) (ks + ms1) Q (pc + 3) lo rest [x_app kc v v1]) : bW p l e R s m args below meth c D tc (fun q => a ≤ q) nL [(cur ++ [k0], fun i => a + i)] (kc + 1) ks Q pc lo st [v] := fun H locs ls hP hS hl => by
  intro T hT XX
  have hsz : H.size = a + (kc + 1) := by have := y_sz ha hc XX (by rw [hT]; exact hS.1) (by rw [hT]; exact hP); rw [hT] at this; exact this
  have hlc : cur.length = kc := by simpa using hc
  have hM := hM D tc aK aV (a + kc)
  obtain ⟨w1, w2, w3, w4, w5, w6, w7, w8⟩ := hw
  obtain ⟨hx, hb, hml, hown, hts, hK, hJ, hA, hA2, hSt, hrt, hlk⟩ := X
  have hpre : ∀ U : State, U.heap = H → s.WarmedH U.vm → va_Pc (.ref (a + kc) :: av) (fun U => U.heap.size = a + kc + 1 ∧ x_SP D tc [([k0], fun i => a + kc + i)] [x_z] U.heap ∧ va_K D vwCl (x_tys tc) U ∧ x_St aK aV (fun q => a + kc ≤ q) U U.heap ∧ x_Nn U) (Value.ref (a + kc) :: av).toArray U := by
    intro U hU hW
    refine ⟨rfl, by rw [hU, hsz]; omega, ?_, va_K.moved hW.alike hK, hSt.keep hW hU hS.2.1 (fun q h => by show a ≤ q; have h : a + kc ≤ q := h; omega), hNn.warm hW⟩
    rw [hU]
    intro r x w i sk g1 g2 g3
    match r with
    | 0 =>
      cases g1; cases g2
      match i with
      | 0 =>
        cases g3
        have h := hP 0 _ v kc k0 rfl rfl (by rw [List.getElem?_append_right (by omega), hlc]; simp)
        have e := x_ent_sub tc (fun i => a + i) v x_z kc 0 (by rw [Nat.zero_add]; exact hz.1) (by rw [Nat.zero_add]; exact hz.2) k0
        rw [Nat.zero_add] at e
        rw [← e] at h
        have e2 : (fun q => (fun i => a + i) (q + kc)) = (fun i => a + kc + i) := by funext q; show a + (q + kc) = a + kc + q; omega
        rw [e2] at h
        exact h
      | i + 1 => simp at g3
    | r + 1 => simp at g1
  have hG : GoodIn x_TB (.code y cc1 maxL1 none :: x_TB) := by
    intro w hw
    simp only [List.mem_cons] at hw
    rcases hw with rfl | hw
    · exact x_good w4
    · exact x_good hw
  have hbl : FrameBlind (va_Pc (.ref (a + kc) :: av) (fun U => U.heap.size = a + kc + 1 ∧ x_SP D tc [([k0], fun i => a + kc + i)] [x_z] U.heap ∧ va_K D vwCl (x_tys tc) U ∧ x_St aK aV (fun q => a + kc ≤ q) U U.heap ∧ x_Nn U)) := by
    intro a1 U g mk q
    obtain ⟨q0, q1, q2, q3, q4, q5⟩ := q
    refine ⟨q0, q1, q2, va_K.moved (u := U) (U := U.calling g mk a1) (Vm.Alike.refl U.vm) q3, ?_, x_Nn.same (u := U) rfl q5⟩
    obtain ⟨⟨hV, h1, g1, g2, g3, g4⟩, h0, h2, h3, h4, h5⟩ := q4
    exact ⟨⟨hV, h1.moved (U := U.calling g mk a1) (Vm.Alike.refl U.vm), g1.moved (U := U.calling g mk a1) (Vm.Alike.refl U.vm), g2.moved (U := U.calling g mk a1) (Vm.Alike.refl U.vm), g3.moved (U := U.calling g mk a1) (Vm.Alike.refl U.vm), g4.moved (U := U.calling g mk a1) (Vm.Alike.refl U.vm)⟩, h0.same rfl, h2.same rfl, h3.same rfl, h4.same rfl, h5.same rfl⟩
  have hrun : va_Run p l e R s m args below meth c H locs (kc + 1) ks mc1 ms1 (F0 m pc ls st) rest (x_Q none True D tc [(sh, fun i => a + kc + i)] [v1] (fun q => a + kc ≤ q) (Value.ref (a + kc) :: av).toArray) (fun q => a + kc ≤ q) := by
    subst hst
    rcases w1 with w1 | w1
    · exact va_runI ⟨hx, hb, hml, hown, hts⟩ hM (cwI n hts hG rfl rfl rfl (hts _ w3) (hts _ w1) (hts _ w2) w8 ⟨w5, w6, w7⟩ hR) ⟨hbl, hpre⟩ rfl hn hl.1 rfl (by show 2 * 0 + _ ≤ 8; omega) hdg hr
    · exact va_runIN ⟨hx, hb, hml, hown, hts⟩ hM ⟨va_cnB n hts hG rfl rfl rfl (hNn.1 _ w1) (hts _ w3) ⟨w5, w6, w7⟩ hR, w8, hts _ w2⟩ ⟨hbl, hpre⟩ rfl hn hl.1 rfl (by show 2 * 0 + _ ≤ 8; omega) hdg hr
  obtain ⟨vv, st₀, t, T', L, h0, X', hL, e1, e2, ⟨hv, -, hp1, hz1, hk1⟩, stp⟩ := hrun T hT XX
  cases hv
  rw [h0] at hz1 hk1
  rw [← e1] at hp1 hz1 hk1
  have hP2 : x_SP D tc [(cur ++ sh, fun i => a + i)] [x_app kc v v1] T'.heap := by
    intro r x w i sk g1 g2 g3
    match r with
    | 0 =>
      cases g1; cases g2
      by_cases hi : i < cur.length
      · rw [List.getElem?_append_left hi] at g3
        have h := hP 0 _ v i sk rfl rfl (by rw [List.getElem?_append_left hi]; exact g3)
        rw [x_ent_congr (v := v) (v' := x_app kc v v1) (by simp [x_app]; omega) (by simp [x_app]; omega)]
        exact h.kept (hk1 (a + i) (by omega) (by show ¬ a + kc ≤ a + i; omega))
      · rw [List.getElem?_append_right (by omega), hlc] at g3
        have h := hp1 0 _ v1 (i - kc) sk rfl rfl g3
        have e := x_ent_sub tc (fun i => a + i) (x_app kc v v1) v1 kc (i - kc) (by rw [Nat.sub_add_cancel (by omega)]; simp [x_app]; omega) (by rw [Nat.sub_add_cancel (by omega)]; simp [x_app]; omega) sk
        rw [Nat.sub_add_cancel (by omega)] at e
        have e2 : (fun q => (fun i => a + i) (q + kc)) = (fun i => a + kc + i) := by funext q; show a + (q + kc) = a + kc + q; omega
        rw [e2] at e
        show va_at D vwCl (a + i, _) _
        rw [← e, show a + i = a + kc + (i - kc) by omega]
        exact h
    | r + 1 => simp at g1
  obtain ⟨t2, g1, g2⟩ := k T'.heap (locs ++ L) ls hP2 ⟨Nat.le_trans hS.1 hz1, fun q q1 q2 => by rw [hk1 q (Nat.lt_of_lt_of_le q1 hS.1) (fun z => q2 (by show a ≤ q; have z : a + kc ≤ q := z; omega))]; exact hS.2.1 q q1 q2, fun q hq => by
      rcases List.mem_append.mp hq with h | h
      · exact hS.2.2 q h
      · have z : a + kc ≤ q.base := hL q h
        show a ≤ q.base
        omega⟩ hl T' rfl X'
  exact ⟨t2, stp t2 g1, g2⟩
end XLAW
section XLAW2
variable {p : Program} {l : Launch} {e : Env} {R : Room} {s : State} {m : MethodId} {args : Array Value} {below : List Frame} {meth : Method} {c : Code} {cc : ByteArray} {nL : Nat} {ret : Option FieldType} {own : String} {D : va_G} {tc : Nat → ClassId} {aK aV : Nat → Nat} {kc ks : Nat} {Q : State → Prop} {pc : Nat} {lo : List (Nat × Value)} {st : List Value} {A : Nat → Prop} {Rs : List XR} {vs : List XM} {b L : Nat} {xs : Nat → Int32}
theorem y_slen (X : Cx p s m args meth c cc nL ret own D tc aK aV A Rs) (hB : va_X b L xs s s.heap ∧ b < s.heap.size ∧ ¬ A b) (hdg : decode cc pc = .ok (.arraylength, 1))
    (k : bW p l e R s m args below meth c D tc A nL Rs kc ks Q (pc + 1) lo (.int (Int32.ofNat L) :: st) vs) : bW p l e R s m args below meth c D tc A nL Rs kc ks Q pc lo (.ref b :: st) vs := fun H locs ls hP hS hl =>
  va_slen X.1 X.2.1 hB.1 hB.2.1 hB.2.2 hS hdg (k H locs ls hP hS hl)
theorem y_sld (X : Cx p s m args meth c cc nL ret own D tc aK aV A Rs) (hB : va_X b L xs s s.heap ∧ b < s.heap.size ∧ ¬ A b) {i : Int32} (hin : vp_in i L) (hdg : decode cc pc = .ok (.iaload, 1))
    (k : bW p l e R s m args below meth c D tc A nL Rs kc ks Q (pc + 1) lo (.int (xs i.toNatClampNeg) :: st) vs) : bW p l e R s m args below meth c D tc A nL Rs kc ks Q pc lo (.int i :: .ref b :: st) vs := fun H locs ls hP hS hl =>
  va_sld X.1 X.2.1 hB.1 hB.2.1 hB.2.2 hS hin hdg (k H locs ls hP hS hl)
theorem y_wid (k : bW p l e R s m args below meth c D tc A nL Rs (kc + 1) (ks + 6) Q pc lo st vs) : bW p l e R s m args below meth c D tc A nL Rs kc ks Q pc lo st vs := fun H locs ls hP hS hl => W.widen (by omega) (by omega) (k H locs ls hP hS hl)
variable {y : MethodName} {cc1 : ByteArray} {maxL1 d n idx : Nat} {ret1 : Option FieldType} {Rs1 : List XR} {vs1 vo1 vs2 : List XM} {av1 : (Nat → Nat) → List Value} {rv1 : Option Value}
theorem y_callSW {hh : List (Nat × Nat × Nat × Nat)} (X : Cx p s m args meth c cc nL ret own D tc aK aV A Rs) (hNw : x_Nw s) (sg : List (Nat × Nat × Nat)) (os : List (Option XM)) (As rest : List Value) {st2 : List Value} (hc : Cond.methodLink own idx y ∈ x_TB ∧ Cond.static y ∈ x_TB ∧ Cond.initialized y.cls ∈ x_TB ∧ Cond.codeWith y cc1 maxL1 ret1 hh ∈ x_TB ∧ y.cls ≠ "java/lang/invoke/MethodHandle" ∧ y.cls ≠ "java/lang/invoke/VarHandle" ∧ (parseMethodDescriptor y.desc).map (fun d => d.parameters.length) = some n) (hM : CTH l y cc1 maxL1 ret1 hh d Rs1 vs1 av1 rv1 vo1)
    (hav : av1 aK = As) (hvl : vs.length = Rs.length) (hol : os.length = sg.length) (hok : x_sgok Rs sg = true)
    (h1 : sg.map (x_sgR Rs) = Rs1) (h2 : sg.map (x_sgM vs) = vs1) (h3 : x_vo vs1 os = vo1) (h4 : x_nv Rs sg os 0 vs = vs2) (h5 : rv1.toList ++ rest = st2)
    (hn : As.length = n) (hst : As.reverse ++ rest = st) (hW : (rest.map fun v => v.category).sum ≤ 8) (hR : d + 1 ≤ R.frames ∧ 8 + (maxL1 + 11) + 60 * d ≤ R.locals) (hdg : decode cc pc = .ok (.invokestatic idx, 3))
    (hroom : kc + 1 ≤ R.cells ∧ ks + 6 ≤ R.slots) (k : bW p l e R s m args below meth c D tc A nL Rs (kc + 1) (ks + 6) Q (pc + 3) lo st2 vs2) : bW p l e R s m args below meth c D tc A nL Rs kc ks Q pc lo st vs := fun H locs ls hP hS hl => by
  have hM := hM D tc aK aV H.size
  rw [hav] at hM
  subst h1 h2 h3 h4 h5 hst
  have hrun : va_Run p l e R s m args below meth c H locs kc ks 1 6 (F0 m pc ls (As.reverse ++ rest)) rest (x_Q rv1 True D tc (sg.map (x_sgR Rs)) (x_vo (sg.map (x_sgM vs)) os) (x_Ad (sg.map (x_sgR Rs)) H.size) As.toArray) (x_Ad (sg.map (x_sgR Rs)) H.size) :=
    vx_runSW ⟨X.1, X.2.1, X.2.2.1, X.2.2.2.1, X.2.2.2.2.1⟩ hM (x_callSW X hc hR) ⟨x_PBX_blind, fun U hU hW => ⟨rfl, (x_pre (av := As) X hvl hok hP hS U hU hW).2, hNw.warm hW⟩⟩ rfl hn hl.1 rfl (by show 2 * 0 + _ ≤ 8; omega) hdg hroom
  intro T hT XX
  obtain ⟨v, st₀, t, T', L, h0, X', hL, e1, e2, ⟨hv, -, hp1, hz1, hk1⟩, stp⟩ := hrun T hT XX
  have hv : v = rv1 := by injection hv
  subst hv
  rw [h0] at hz1 hk1
  rw [← e1] at hp1 hz1 hk1
  obtain ⟨hP2, hS2⟩ := x_behind X hvl hol hok hP hS hp1 hz1 hk1 hL
  obtain ⟨t2, g1, g2⟩ := k T'.heap (locs ++ L) ls hP2 hS2 hl T' rfl X'
  exact ⟨t2, stp t2 g1, g2⟩
end XLAW2
section XLAW3
variable {p : Program} {l : Launch} {e : Env} {R : Room} {s : State} {m : MethodId} {below : List Frame} {meth : Method} {c : Code} {nL : Nat} {own : String} {D : va_G} {tc : Nat → ClassId} {aK aV : Nat → Nat} {kc ks : Nat} {pc : Nat} {lo : List (Nat × Value)} {A : Nat → Prop} {Rs : List XR} {vs : List XM} {b : Nat}
/-- the law's end -/
theorem y_end (X : Cx p s m #[Value.ref b] meth c code nL ret own D tc aK aV A Rs) (hA : ∀ q, A q → s.heap.size ≤ q) (hkc : kc ≤ 601024) (hks : ks ≤ 7293034) (hdg : decode code pc = .ok (.ireturn, 1)) : bW p l e room_1 s m #[Value.ref b] below meth c D tc A nL Rs kc ks (lw_Z below #[Value.ref b] s) pc lo [.int 1] vs := fun H locs ls hP hS hl => by
  refine W.widen hkc hks (va_forget (fun q hq => hA _ (hS.2.2 q hq)) ?_)
  exact lw_ret X.1 X.2.1 X.2.2.2.2.2.2.2.2.2.2.1 X.2.2.2.2.2.2.2.2.2.2.2 hdg
end XLAW3
