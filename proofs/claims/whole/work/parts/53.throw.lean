-- Methods that return or throw NoSuchElementException.
def x_RmX (d : Nat) : Room := { frames := d, cells := 1, slots := 6, locals := 60 * d }
def x_XC (th : Int32) (D : va_G) (tc : Nat → ClassId) (Rs : List XR) (vo : List XM) (A : Nat → Prop) : String → State → State → Prop := fun E st t => E = "java/util/NoSuchElementException" ∧ th = 1 ∧ x_SP D tc Rs vo t.heap ∧ va_F A st t
def x_QC (th : Int32) (rv : Option Value) (D : va_G) (tc : Nat → ClassId) (Rs : List XR) (vo : List XM) (A : Nat → Prop) : Array Value → State → Outcome → State → Prop := fun a st oc t => th = 0 ∧ x_Q rv True D tc Rs vo A a st oc t
def x_nB : List Cond := [.castable "java/util/NoSuchElementException" "java/util/NoSuchElementException", .declares ⟨"java/lang/RuntimeException", "<init>", "()V"⟩, .declares ⟨"java/lang/Exception", "<init>", "()V"⟩, .declares ⟨"java/lang/Throwable", "<init>", "()V"⟩]
/-- words of the tables that are no good ones -/
def x_Nw (U : State) : Prop := va_Nw (.castable "java/util/NoSuchElementException" "java/util/NoSuchElementException") U ∧ va_Nw (.declares ⟨"java/lang/RuntimeException", "<init>", "()V"⟩) U ∧ va_Nw (.declares ⟨"java/lang/Exception", "<init>", "()V"⟩) U ∧ va_Nw (.declares ⟨"java/lang/Throwable", "<init>", "()V"⟩) U
theorem x_Nw.warm {s U : State} (hW : s.WarmedH U.vm) (h : x_Nw s) : x_Nw U := ⟨h.1.warmC hW, h.2.1.warmD hW, h.2.2.1.warmD hW, h.2.2.2.warmD hW⟩
theorem x_Nw.use {s : State} {args : Array Value} (h : x_Nw s) : ∀ w ∈ x_nB, w.before args s = true := by
  intro w hw
  simp only [x_nB, List.mem_cons, List.not_mem_nil, or_false] at hw
  rcases hw with rfl | rfl | rfl | rfl
  · exact h.1.use rfl
  · exact h.2.1.use rfl
  · exact h.2.2.1.use rfl
  · exact h.2.2.2.use rfl
def CTX (l : Launch) (y : MethodName) (cc : ByteArray) (maxL : Nat) (ret : Option FieldType) (d : Nat) (Rs : List XR) (vs : List XM) (av : (Nat → Nat) → List Value) (th : Int32) (rv : Option Value) (vo : List XM) : Prop :=
  ∀ (D : va_G) (tc : Nat → ClassId) (aK aV : Nat → Nat) (sz : Nat), vx_Met l y (.code y cc maxL ret :: x_TB) (x_RmX d) (va_Pc (av aK) (fun U => x_PB D tc aK aV Rs vs sz U ∧ x_Nw U)) (x_QC th rv D tc Rs vo (x_Ad Rs sz)) (x_XC th D tc Rs vo (x_Ad Rs sz)) 1 6 (x_Ad Rs sz)
abbrev xW (p : Program) (l : Launch) (e : Env) (R : Room) (s : State) (m : MethodId) (args : Array Value) (below : List Frame) (meth : Method) (c : Code) (D : va_G) (tc : Nat → ClassId) (A : Nat → Prop) (nL : Nat) (Rs : List XR) (th : Int32) (rv : Option Value) (vo : List XM) (pc : Nat) (lo : List (Nat × Value)) (st : List Value) (vs : List XM) : Prop :=
  bW p l e R s m args below meth c D tc A nL Rs 0 0 (vx_MQ below (x_QC th rv D tc Rs vo A) (x_XC th D tc Rs vo A) args s 1 6 A) pc lo st vs
theorem CTX_of {l : Launch} {y : MethodName} {cc : ByteArray} {maxL : Nat} {ret : Option FieldType} {d : Nat} {Rs : List XR} {vs : List XM} {av : (Nat → Nat) → List Value} {th : Int32} {rv : Option Value} {vo : List XM} (hcls : plainName y.cls = true) (hlen : ∀ aK, (lg_sl (av aK)).length ≤ maxL)
    (body : ∀ (p : Program) (e : Env) (s : State) (m : MethodId) (args : Array Value) (below : List Frame) (meth : Method) (c : Code) (D : va_G) (tc : Nat → ClassId) (aK aV : Nat → Nat) (A : Nat → Prop), Cx p s m args meth c cc maxL ret y.cls D tc aK aV A Rs → (∀ x ∈ c.exceptionTable.toList, False) → x_Nw s → xW p l e (x_RmX d) s m args below meth c D tc A maxL Rs th rv vo 0 (lv_args 0 (av aK)) [] vs) :
    CTX l y cc maxL ret d Rs vs av th rv vo := by
  intro D tc aK aV sz
  refine vx_ofW (cc := cc) (maxL := maxL) (ret := ret) hcls rfl ?_
  intro p e s m args below meth c s₁ B hml htab hv
  obtain ⟨rfl, ⟨hsz, hP, hK, hJ, hSt⟩, hNw⟩ := hv
  have hts := atoms_spec (ws := .code y cc maxL ret :: x_TB) B.pre
  subst hsz
  have hl := lv_entry (av aK) (n := maxL) (hlen aK)
  rw [lg_entry_eq]
  exact body p e s m (av aK).toArray below meth c D tc aK aV (x_Ad Rs s.heap.size) ⟨B.exec, B.bytes, hml, findClass_of_methodNamed B.named, fun w hw => hts w (List.mem_cons_of_mem _ hw), hK, hJ, fun r x i h1 h2 => Or.inl ⟨r, x, i, h1, h2, rfl⟩, fun q h => Or.inr h, hSt, B.returns, B.notSynchronized⟩ htab hNw s.heap [] _ hP va_S.rf hl
section XTHROW
variable {p : Program} {l : Launch} {e : Env} {R : Room} {s : State} {m : MethodId} {args : Array Value} {below : List Frame} {meth : Method} {c : Code} {cc : ByteArray} {nL : Nat} {ret : Option FieldType} {own : String} {D : va_G} {tc : Nat → ClassId} {aK aV : Nat → Nat} {A : Nat → Prop} {Rs : List XR} {pc : Nat} {lo : List (Nat × Value)} {st : List Value} {vs : List XM}
theorem a_xret (X : Cx p s m args meth c cc nL (some .int) own D tc aK aV A Rs) {v : Int32} (hdg : decode cc pc = .ok (.ireturn, 1)) : xW p l e R s m args below meth c D tc A nL Rs 0 (some (.int v)) vs pc lo [.int v] vs := fun H locs ls hP hS hl => by
  obtain ⟨hx, hb, -, -, -, -, -, -, -, -, hr, hlocks⟩ := X
  refine W.widen (k := 1) (n := 6) (Nat.zero_le _) (Nat.zero_le _) (vx_ret ?_)
  exact W.iret hx hb hr (fun t ht hW => ⟨rfl, rfl, trivial, by rw [ht]; exact hP, hS.F ht⟩) hS.2.2 hdg hlocks
theorem a_throw (X : Cx p s m args meth c cc nL ret own D tc aK aV A Rs) (hl0 : l.stackTraces = false) (htab : ∀ x ∈ c.exceptionTable.toList, False) (hNw : x_Nw s) {ik ic : Nat} {rv : Option Value}
    (hw : Cond.classLink own ik "java/util/NoSuchElementException" ∈ x_TB ∧ Cond.initialized "java/util/NoSuchElementException" ∈ x_TB ∧ (∀ w ∈ vx_at0 own ic "java/util/NoSuchElementException" ["java/lang/RuntimeException", "java/lang/Exception"], w ∈ x_TB ∨ w ∈ x_nB))
    (d0 : decode cc pc = .ok (.new ik, 3)) (d3 : decode cc (pc + 3) = .ok (.dup, 1)) (d4 : decode cc (pc + 4) = .ok (.invokespecial ic, 3)) (d7 : decode cc (pc + 7) = .ok (.athrow, 1))
    (hR1 : 6 ≤ R.frames) (hR2 : 81 ≤ R.locals) (hR3 : 1 ≤ R.cells) (hR4 : 6 ≤ R.slots) : xW p l e R s m args below meth c D tc A nL Rs 1 rv vs pc lo [] vs := fun H locs ls hP hS hl => by
  have hts := X.2.2.2.2.1
  have hSt := X.2.2.2.2.2.2.2.2.2.1
  obtain ⟨hx, hb, hml, hown, -, -, -, -, hA2, -, hr, hlocks⟩ := X
  have hg : ∀ w ∈ x_TB, vx_ot w = true := fun w h => by simp [vx_ot, (x_TB_good w h).2]
  refine vx_throw0 (cls := "java/util/NoSuchElementException") (names := ["java/lang/RuntimeException", "java/lang/Exception"]) (A := A) hx hb hl0 hown (by decide +kernel) (by decide +kernel) (hts _ hw.1) (hts _ hw.2.1) (fun w h => (hw.2.2 w h).elim (hts w) (hNw.use w)) ?_ hSt.1.2.2.2.2.1 hSt.1.2.2.2.2.2 hS (hl.1.trans hml.symm) d0 d3 d4 d7 (fun x h => (htab x h).elim) (by show 5 < _; omega) (by show 0 + (13 * 3 + 42) ≤ _; omega) (by omega) (by omega) hlocks ?_ hS.2.2 (Nat.le_refl _) (Nat.le_refl _)
  · intro w h
    rcases List.mem_cons.mp h with rfl | h
    · exact hg _ hw.1
    · rcases List.mem_cons.mp h with rfl | h
      · exact hg _ hw.2.1
      · exact (hw.2.2 w h).elim (hg w) (fun h => (by decide +kernel : ∀ w ∈ x_nB, vx_ot w = true) w h)
  · intro t hv hz hk
    refine ⟨rfl, rfl, fun r x v id sk h1 h2 h3 => ?_, Nat.le_trans hS.1 hz, fun q h1 h2 => ?_⟩
    · have h := hP r x v id sk h1 h2 h3
      exact h.kept (hk _ h.lt)
    · rw [hk q (Nat.lt_of_lt_of_le h1 hS.1)]; exact hS.2.1 q h1 h2
end XTHROW
theorem x_wsInP {ws : List Cond} (h : ws.all (fun w => (decide (w ∈ lw_tbl) && goodWord w) || decide (w ∈ x_nB)) = true) : ∀ w ∈ ws, w ∈ x_TB ∨ w ∈ x_nB := fun w hw => by
  have h1 := List.all_eq_true.mp h w hw
  rw [Bool.or_eq_true, Bool.and_eq_true, decide_eq_true_eq, decide_eq_true_eq] at h1
  exact h1.elim (fun q => Or.inl (List.mem_filter.mpr ⟨q.1, q.2⟩)) Or.inr
theorem k_thr : Cond.classLink RX11 115 "java/util/NoSuchElementException" ∈ x_TB ∧ Cond.initialized "java/util/NoSuchElementException" ∈ x_TB ∧ (∀ w ∈ vx_at0 RX11 117 "java/util/NoSuchElementException" ["java/lang/RuntimeException", "java/lang/Exception"], w ∈ x_TB ∨ w ∈ x_nB) := ⟨(x_tb (x_t6 (List.mem_of_getElem? (i := 114) rfl)) rfl), (x_tb (x_t1 (List.mem_of_getElem? (i := 21) rfl)) rfl), x_wsInP (by decide +kernel)⟩
