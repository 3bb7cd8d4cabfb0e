-- Calls of methods that return or throw, and the law's two static methods with a handler.
theorem x_QC_u {th : Int32} {rv : Option Value} {D : va_G} {tc : Nat → ClassId} {Rs : List XR} {vo : List XM} {A : Nat → Prop} {a : Array Value} {st : State} {oc : Outcome} {t : State} (h : x_QC th rv D tc Rs vo A a st oc t) : th = 0 ∧ oc = .returned rv ∧ x_SP D tc Rs vo t.heap ∧ st.heap.size ≤ t.heap.size ∧ ∀ q : Nat, q < st.heap.size → ¬ A q → t.heap[q]? = st.heap[q]? := by
  unfold x_QC x_Q va_F at h
  exact ⟨h.1, h.2.1, h.2.2.2.1, h.2.2.2.2.1, h.2.2.2.2.2⟩
theorem x_XC_u {th : Int32} {D : va_G} {tc : Nat → ClassId} {Rs : List XR} {vo : List XM} {A : Nat → Prop} {E : String} {st t : State} (h : x_XC th D tc Rs vo A E st t) : E = "java/util/NoSuchElementException" ∧ th = 1 ∧ x_SP D tc Rs vo t.heap ∧ st.heap.size ≤ t.heap.size ∧ ∀ q : Nat, q < st.heap.size → ¬ A q → t.heap[q]? = st.heap[q]? := by
  unfold x_XC va_F at h
  exact ⟨h.1, h.2.1, h.2.2.1, h.2.2.2.1, h.2.2.2.2⟩
section XCALLX
variable {p : Program} {l : Launch} {e : Env} {R : Room} {s : State} {m : MethodId} {args : Array Value} {below : List Frame} {meth : Method} {c : Code} {cc : ByteArray} {nL : Nat} {ret : Option FieldType} {own : String} {D : va_G} {tc : Nat → ClassId} {aK aV : Nat → Nat} {A : Nat → Prop} {Rs : List XR} {kc ks : Nat} {Q : State → Prop} {rv : Option Value} {zp : Prop} {vo : List XM} {pc : Nat} {lo : List (Nat × Value)} {st : List Value} {vs : List XM}
variable {y : MethodName} {cc1 : ByteArray} {maxL1 d n idx : Nat} {ret1 : Option FieldType} {Rs1 : List XR} {vs1 vo1 vs2 : List XM} {av1 : (Nat → Nat) → List Value} {rv1 : Option Value} {zp1 : Prop}
/-- the heap behind a call -/
theorem x_behind (X : Cx p s m args meth c cc nL ret own D tc aK aV A Rs) {sg : List (Nat × Nat × Nat)} {os : List (Option XM)} (hvl : vs.length = Rs.length) (hol : os.length = sg.length) (hok : x_sgok Rs sg = true) {H H1 : Heap} {locs L : List Loc} (hP : x_SP D tc Rs vs H) (hS : va_S A s.heap H locs)
    (hp1 : x_SP D tc (sg.map (x_sgR Rs)) (x_vo (sg.map (x_sgM vs)) os) H1) (hz1 : H.size ≤ H1.size) (hk1 : ∀ q : Nat, q < H.size → ¬ x_Ad (sg.map (x_sgR Rs)) H.size q → H1[q]? = H[q]?) (hL : ∀ q ∈ L, x_Ad (sg.map (x_sgR Rs)) H.size q.base) : x_SP D tc Rs (x_nv Rs sg os 0 vs) H1 ∧ va_S A s.heap H1 (locs ++ L) := by
  obtain ⟨-, -, -, -, -, -, hJ, hA, hA2, -⟩ := X
  have hsub : ∀ q, x_Ad (sg.map (x_sgR Rs)) H.size q → A q := by
    rintro q (⟨j, x1, i, b1, b2, b3⟩ | hge)
    · obtain ⟨g, x', a1, a2, a3, a4, a5⟩ := x_seg hok b1
      rw [a3] at b2
      rw [b3, a5 i (by omega)]
      exact hA g.1 x' _ (a2 (by omega)) (a4 i b2).2
    · exact hA2 q (Nat.le_trans hS.1 hge)
  refine ⟨x_SP_call hP hJ hvl hol hok hp1 hk1, Nat.le_trans hS.1 hz1, fun q q1 q2 => ?_, fun q hq => ?_⟩
  · rw [hk1 q (Nat.lt_of_lt_of_le q1 hS.1) (fun z => q2 (hsub q z))]; exact hS.2.1 q q1 q2
  · rcases List.mem_append.mp hq with h | h
    · exact hS.2.2 q h
    · exact hsub _ (hL q h)
/-- the frame at pc with q thrown over it -/
def yW (p : Program) (l : Launch) (e : Env) (R : Room) (s : State) (m : MethodId) (args : Array Value) (below : List Frame) (meth : Method) (c : Code) (D : va_G) (tc : Nat → ClassId) (A : Nat → Prop) (nL : Nat) (Rs : List XR) (kc ks : Nat) (Q : State → Prop) (pc : Nat) (lo : List (Nat × Value)) (st : List Value) (vs : List XM) : Prop :=
  ∀ (H : Heap) (locs : List Loc) (ls : Array Slot) (q : Addr) (ce : Cell), x_SP D tc Rs vs H → va_S A s.heap H locs → lv_has ls nL lo → H[q]? = some ce → ce.vm = .none → s.vm.findClass "java/util/NoSuchElementException" = some ce.cls → vx_W p l e R s m args below meth c H locs kc ks Q (F0 m pc ls st) q
theorem a_callGX {th : Int32} (X : Cx p s m args meth c cc nL ret own D tc aK aV A Rs) {sg : List (Nat × Nat × Nat)} {os : List (Option XM)} {rest st2 : List Value} {av : Array Value} (hvl : vs.length = Rs.length) (hol : os.length = sg.length) (hok : x_sgok Rs sg = true)
    (h1 : sg.map (x_sgR Rs) = Rs1) (h2 : sg.map (x_sgM vs) = vs1) (h3 : x_vo vs1 os = vo1) (h4 : x_nv Rs sg os 0 vs = vs2) (h5 : rv1.toList ++ rest = st2)
    (hrun : ∀ (H : Heap) (locs : List Loc) (ls : Array Slot), x_SP D tc Rs vs H → va_S A s.heap H locs → lv_has ls nL lo → vx_Run p l e R s m args below meth c H locs kc ks 1 6 (F0 m pc ls st) rest (x_QC th rv1 D tc Rs1 vo1 (x_Ad Rs1 H.size) av) (x_XC th D tc Rs1 vo1 (x_Ad Rs1 H.size)) (x_Ad Rs1 H.size))
    (k : th = 0 → bW p l e R s m args below meth c D tc A nL Rs (kc + 1) (ks + 6) Q (pc + 3) lo st2 vs2)
    (kx : th = 1 → yW p l e R s m args below meth c D tc A nL Rs (kc + 1) (ks + 6) Q pc lo rest vs2) :
    bW p l e R s m args below meth c D tc A nL Rs kc ks Q pc lo st vs := fun H locs ls hP hS hl => by
  intro T hT XX
  have hrun1 := hrun H locs ls hP hS hl T hT XX
  subst h1 h2 h3 h4 h5
  rcases hrun1 with ⟨v, st₀, t, T', L, h0, X', hL, e1, e2, hq, stp⟩ | ⟨q9, st₀, t, T', L, E, ce, h0, X', hL, e1, e2, hq, hce, hcv, hcl, stp⟩
  · obtain ⟨hth, hv, hp1, hz1, hk1⟩ := x_QC_u hq
    have hv : v = rv1 := by injection hv
    subst hv
    rw [h0] at hz1 hk1
    rw [← e1] at hp1 hz1 hk1
    obtain ⟨hP2, hS2⟩ := x_behind X hvl hol hok hP hS hp1 hz1 hk1 hL
    obtain ⟨t2, g1, g2⟩ := k hth T'.heap (locs ++ L) ls hP2 hS2 hl T' rfl X'
    exact ⟨t2, stp t2 g1, g2⟩
  · obtain ⟨hE, hth, hp1, hz1, hk1⟩ := x_XC_u hq
    rw [hE] at hcl
    rw [h0] at hz1 hk1
    rw [← e1] at hp1 hz1 hk1 hce
    obtain ⟨hP2, hS2⟩ := x_behind X hvl hol hok hP hS hp1 hz1 hk1 hL
    obtain ⟨t2, g1, g2⟩ := kx hth T'.heap (locs ++ L) ls q9 ce hP2 hS2 hl hce hcv hcl T' rfl X'
    exact ⟨t2, stp.trans g1, g2⟩
theorem x_callWX (X : Cx p s m args meth c cc nL ret own D tc aK aV A Rs) (hc : x_cv own idx y cc1 maxL1 ret1 n) (hR : d + 1 ≤ R.frames ∧ 8 + (maxL1 + 11) + 60 * d ≤ R.locals) : CallW R s args own y.cls idx y cc1 maxL1 ret1 (.code y cc1 maxL1 ret1 :: x_TB) (x_RmX d) 1 6 n := by
  obtain ⟨h1, h2, h3, h4, h5, h6, h7, h8⟩ := hc
  refine cwV (Ts := x_TB) (ws' := x_TB) n X.2.2.2.2.1 ?_ rfl rfl rfl ⟨rfl, h6, h7, h8⟩ hR
  intro w hw
  simp only [wsV, List.cons_append, List.nil_append, List.mem_cons] at hw
  rcases hw with rfl | rfl | rfl | rfl | rfl | hw
  · exact x_good h1
  · exact x_good h2
  · exact x_good h3
  · exact x_good h4
  · exact x_good h5
  · exact x_good hw
theorem x_Nw.same {u U : State} (hv : u.vm = U.vm) (h : x_Nw u) : x_Nw U := by
  obtain ⟨h1, h2, h3, h4⟩ := h
  exact ⟨va_Nw.same rfl hv h1, va_Nw.same rfl hv h2, va_Nw.same rfl hv h3, va_Nw.same rfl hv h4⟩
theorem x_PBX_blind {D : va_G} {tc : Nat → ClassId} {aK aV : Nat → Nat} {Rs : List XR} {vs : List XM} {sz : Nat} {av : List Value} : FrameBlind (va_Pc av (fun U => x_PB D tc aK aV Rs vs sz U ∧ x_Nw U)) := by
  intro a U g mk q
  have h := x_PB_blind (D := D) (tc := tc) (aK := aK) (aV := aV) (Rs := Rs) (vs := vs) (sz := sz) (av := av) a U g mk ⟨q.1, q.2.1⟩
  exact ⟨h.1, h.2, x_Nw.same (u := U) rfl q.2.2⟩
theorem a_callVX {th : Int32} (X : Cx p s m args meth c cc nL ret own D tc aK aV A Rs) (hNw : x_Nw s) (sg : List (Nat × Nat × Nat)) (os : List (Option XM)) (r id ci : Nat) {sh : List XK} {ad : Nat → Nat} {v0 : XM} {kds : List Nat} (As rest : List Value) {st2 : List Value} (hc : x_cv own idx y cc1 maxL1 ret1 n) (hM : CTX l y cc1 maxL1 ret1 d Rs1 vs1 av1 th rv1 vo1)
    (hav : av1 aK = .ref (ad id) :: As) (hvl : vs.length = Rs.length) (hol : os.length = sg.length) (hok : x_sgok Rs sg = true)
    (h1 : sg.map (x_sgR Rs) = Rs1) (h2 : sg.map (x_sgM vs) = vs1) (h3 : x_vo vs1 os = vo1) (h4 : x_nv Rs sg os 0 vs = vs2) (h5 : rv1.toList ++ rest = st2)
    (hr : Rs[r]? = some (sh, ad)) (hv : vs[r]? = some v0) (hsk : sh[id]? = some (.inl (ci, kds))) (hcl : (vwCl[ci]?).map (fun q => q.1) = some y.cls) (hn : As.length = n) (hst : As.reverse ++ .ref (ad id) :: rest = st) (hW : (rest.map fun v => v.category).sum ≤ 8) (hR : d + 1 ≤ R.frames ∧ 8 + (maxL1 + 11) + 60 * d ≤ R.locals) (hdg : decode cc pc = .ok (.invokevirtual idx, 3))
    (k : th = 0 → bW p l e R s m args below meth c D tc A nL Rs (kc + 1) (ks + 6) Q (pc + 3) lo st2 vs2)
    (kx : th = 1 → yW p l e R s m args below meth c D tc A nL Rs (kc + 1) (ks + 6) Q pc lo rest vs2)
    (hroom : kc + 1 ≤ R.cells ∧ ks + 6 ≤ R.slots) : bW p l e R s m args below meth c D tc A nL Rs kc ks Q pc lo st vs := by
  refine a_callGX X (av := (Value.ref (ad id) :: As).toArray) hvl hol hok h1 h2 h3 h4 h5 (fun H locs ls hP hS hl => ?_) k kx
  have hM := hM D tc aK aV H.size
  rw [hav] at hM
  obtain ⟨q, hq1, hq2⟩ : ∃ q, vwCl[ci]? = some q ∧ q.1 = y.cls := by
    cases hqq : vwCl[ci]? with
    | none => rw [hqq] at hcl; cases hcl
    | some q => rw [hqq] at hcl; exact ⟨q, rfl, Option.some.inj hcl⟩
  subst h1 h2 hst
  have hre := va_recv X.2.2.2.2.2.1 (x_one hP hr hv hsk) hq1 (q0 := 0) rfl
  rw [hq2] at hre
  exact vx_runV ⟨X.1, X.2.1, X.2.2.1, X.2.2.2.1, X.2.2.2.2.1⟩ hM (x_callWX X hc hR) ⟨x_PBX_blind, hre, fun U hU hW => ⟨rfl, (x_pre (av := Value.ref (ad id) :: As) X hvl hok hP hS U hU hW).2, hNw.warm hW⟩⟩ rfl hn hl.1 rfl (by show 2 * 0 + _ ≤ 8; omega) hdg hroom
/-- caught by the method's only row -/
theorem a_catch1 (X : Cx p s m args meth c cc nL ret own D tc aK aV A Rs) (hNw : x_Nw s) {h0 h1 h2 h3 : Nat} (htab : c.exceptionTable.toList = tableOf [(h0, h1, h2, h3)]) (hpc : covers ⟨h0, h1, h2, h3⟩ pc = true) (h30 : h3 ≠ 0) (hlk : Cond.classLink own h3 "java/util/NoSuchElementException" ∈ x_TB)
    (k : ∀ q : Nat, bW p l e R s m args below meth c D tc A nL Rs kc ks Q h2 lo [.ref q] vs) : yW p l e R s m args below meth c D tc A nL Rs kc ks Q pc lo st vs := fun H locs ls q ce hP hS hl hce hcv hcl => by
  refine vx_catch (name := "java/util/NoSuchElementException") (E := "java/util/NoSuchElementException") X.2.2.2.1 [] ⟨h0, h1, h2, h3⟩ [] htab (fun z hz => by cases hz) hpc h30 (X.2.2.2.2.1 _ hlk) (hNw.use _ (by simp [x_nB])) hce hcv hcl ?_
  exact k q H locs ls hP hS hl
/-- a static call of a method with a table, in the law -/
theorem x_callSW {hh : List (Nat × Nat × Nat × Nat)} (X : Cx p s m args meth c cc nL ret own D tc aK aV A Rs) (hc : Cond.methodLink own idx y ∈ x_TB ∧ Cond.static y ∈ x_TB ∧ Cond.initialized y.cls ∈ x_TB ∧ Cond.codeWith y cc1 maxL1 ret1 hh ∈ x_TB ∧ y.cls ≠ "java/lang/invoke/MethodHandle" ∧ y.cls ≠ "java/lang/invoke/VarHandle" ∧ (parseMethodDescriptor y.desc).map (fun d => d.parameters.length) = some n) (hR : d + 1 ≤ R.frames ∧ 8 + (maxL1 + 11) + 60 * d ≤ R.locals) : vx_CSW R s args own idx y cc1 maxL1 ret1 hh (.codeWith y cc1 maxL1 ret1 hh :: x_TB) (x_RmX d) 1 6 n := by
  obtain ⟨h1, h3, h4, h5, h6, h7, h8⟩ := hc
  refine vx_cwSW (Ts := x_TB) (ws' := x_TB) n X.2.2.2.2.1 ?_ rfl rfl rfl ⟨h6, h7, h8⟩ hR
  intro w hw
  simp only [va_wsS, List.cons_append, List.nil_append, List.mem_cons] at hw
  rcases hw with rfl | rfl | rfl | rfl | hw
  all_goals first | exact x_good h1 | exact x_good h3 | exact x_good h4 | exact x_good h5 | exact x_good hw
end XCALLX
