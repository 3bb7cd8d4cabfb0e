-- Static methods of the law with a handler: they return always.
def CTH (l : Launch) (y : MethodName) (cc : ByteArray) (maxL : Nat) (ret : Option FieldType) (hh : List (Nat × Nat × Nat × Nat)) (d : Nat) (Rs : List XR) (vs : List XM) (av : (Nat → Nat) → List Value) (rv : Option Value) (vo : List XM) : Prop :=
  ∀ (D : va_G) (tc : Nat → ClassId) (aK aV : Nat → Nat) (sz : Nat), Met l y (.codeWith y cc maxL ret hh :: x_TB) (x_RmX d) (va_Pc (av aK) (fun U => x_PB D tc aK aV Rs vs sz U ∧ x_Nw U)) (x_Q rv True D tc Rs vo (x_Ad Rs sz)) 1 6 (x_Ad Rs sz)
theorem CTH_of {l : Launch} {y : MethodName} {cc : ByteArray} {maxL : Nat} {ret : Option FieldType} {hh : List (Nat × Nat × Nat × Nat)} {d : Nat} {Rs : List XR} {vs : List XM} {av : (Nat → Nat) → List Value} {rv : Option Value} {vo : List XM} (hcls : plainName y.cls = true) (hlen : ∀ aK, (lg_sl (av aK)).length ≤ maxL)
    (body : ∀ (p : Program) (e : Env) (s : State) (m : MethodId) (args : Array Value) (below : List Frame) (meth : Method) (c : Code) (D : va_G) (tc : Nat → ClassId) (aK aV : Nat → Nat) (A : Nat → Prop), Cx p s m args meth c cc maxL ret y.cls D tc aK aV A Rs → c.exceptionTable.toList = tableOf hh → x_Nw s → bW p l e (x_RmX d) s m args below meth c D tc A maxL Rs 0 0 (MQ below (x_Q rv True D tc Rs vo A) args s 1 6 A) 0 (lv_args 0 (av aK)) [] vs) :
    CTH l y cc maxL ret hh d Rs vs av rv vo := by
  intro D tc aK aV sz
  refine MetFree.of_bodyS (code := cc) (maxLocals := maxL) (ret := ret) hcls ?_ ?_
  · intro args s m h hn
    obtain ⟨m9, meth, c, hn9, h1, h2, h3, h4, -, h5, h6, -⟩ := Cond.codeWith_spec (atoms_spec (ws := .codeWith y cc maxL ret hh :: x_TB) h _ List.mem_cons_self)
    cases hn.symm.trans hn9
    exact ⟨meth, c, h1, h2, h3, h4, h5, h6⟩
  · intro p e s m args below meth c s₁ B hml hv _
    have hh0 : s₁.heap = s.heap := by rw [B.state]; rfl
    obtain ⟨rfl, ⟨hsz, hP, hK, hJ, hSt⟩, hNw⟩ := hv
    have hts := atoms_spec (ws := .codeWith y cc maxL ret hh :: x_TB) B.pre
    subst hsz
    have hl := lv_entry (av aK) (n := maxL) (hlen aK)
    have htab := vx_table (x := y) B (hts _ List.mem_cons_self)
    have W0 := body p e s m (av aK).toArray below meth c D tc aK aV (x_Ad Rs s.heap.size) ⟨B.exec, B.bytes, hml, findClass_of_methodNamed B.named, fun w hw => hts w (List.mem_cons_of_mem _ hw), hK, hJ, fun r x i h1 h2 => Or.inl ⟨r, x, i, h1, h2, rfl⟩, fun q h => Or.inr h, hSt, B.returns, B.notSynchronized⟩ htab hNw s.heap [] _ hP va_S.rf hl
    obtain ⟨t, a1, o, b1, b2, b3⟩ := W0 s₁ hh0 (Stand.of_body B)
    refine ⟨t, o, ?_, b1, b2, b3⟩
    rw [lg_entry_eq]
    exact a1
