-- Constructors: a tree grows at the heap's end.
def x_z : XM := (fun _ _ => 0, fun _ _ => 0)
def x_zc (v : XM) (L : Nat) : XM := (fun i j => if i = L then 0 else v.1 i j, fun i j => if i = L then 0 else v.2 i j)
def x_app (L : Nat) (v u : XM) : XM := (fun i => if i < L then v.1 i else u.1 (i - L), fun i => if i < L then v.2 i else u.2 (i - L))
def x_nn : List Cond := [.methodLinkNest "FoldRoads" 18 ⟨"FoldRoads$World", "<init>", "()V"⟩ "FoldRoads", .methodLinkNest "FoldRoads$World" 11 ⟨"FoldRoads$Valley", "<init>", "()V"⟩ "FoldRoads", .methodLinkNest "FoldRoads$World" 20 ⟨"FoldRoads$State", "<init>", "()V"⟩ "FoldRoads", .methodLinkNest "FoldRoads$World" 27 ⟨"FoldRoads$Sentence", "<init>", "()V"⟩ "FoldRoads", .methodLinkNest "FoldRoads" 31 ⟨"FoldRoads$State", "<init>", "()V"⟩ "FoldRoads", .methodLinkNest "FoldRoads$History" 17 ⟨"FoldRoads$State", "<init>", "()V"⟩ "FoldRoads", .methodLinkNest "FoldRoads" 45 ⟨"FoldRoads$Surveyor", "<init>", "()V"⟩ "FoldRoads", .methodLinkNest "FoldRoads$Surveyor" 11 ⟨"FoldRoads$Valley", "<init>", "()V"⟩ "FoldRoads", .methodLinkNest "FoldRoads" 52 ⟨"FoldRoads$Book", "<init>", "()V"⟩ "FoldRoads", .methodLinkNest "FoldRoads" 59 ⟨"FoldRoads$Sentence", "<init>", "()V"⟩ "FoldRoads", .methodLinkNest "FoldRoads" 66 ⟨"FoldRoads$Roads", "<init>", "()V"⟩ "FoldRoads", .methodLinkNest "FoldRoads" 73 ⟨"FoldRoads$Tag", "<init>", "()V"⟩ "FoldRoads"]
/-- words of the tables that are no good ones, for constructors -/
def x_Nn (U : State) : Prop := (∀ w ∈ x_nn, va_Nw w U) ∧ va_AO "FoldRoads$State" U
theorem x_Nn.warm {s U : State} (hW : s.WarmedH U.vm) (h : x_Nn s) : x_Nn U := by
  refine ⟨fun w hw => ?_, h.2.moved hW.alike⟩
  have h1 := h.1 w hw
  simp only [x_nn, List.mem_cons, List.not_mem_nil, or_false] at hw
  rcases hw with rfl | rfl | rfl | rfl | rfl | rfl | rfl | rfl | rfl | rfl | rfl | rfl <;> exact va_Nw.warmM hW h1
theorem x_Nn.same {u U : State} (hv : u.vm = U.vm) (h : x_Nn u) : x_Nn U := by
  refine ⟨fun w hw => ?_, h.2.moved (by rw [hv]; exact Vm.Alike.refl _)⟩
  have h1 := h.1 w hw
  simp only [x_nn, List.mem_cons, List.not_mem_nil, or_false] at hw
  rcases hw with rfl | rfl | rfl | rfl | rfl | rfl | rfl | rfl | rfl | rfl | rfl | rfl <;> exact va_Nw.same rfl hv h1
def x_RmN (d mc ms : Nat) : Room := { frames := d, cells := mc, slots := ms, locals := 60 * d }
/-- a constructor's contract: from a blank last cell it makes the tree sh that holds v -/
def CN (l : Launch) (y : MethodName) (cc : ByteArray) (maxL d mc ms : Nat) (k0 : XK) (sh : List XK) (v : XM) (av : List Value) : Prop :=
  ∀ (D : va_G) (tc : Nat → ClassId) (aK aV : Nat → Nat) (a : Nat), Met l y (.code y cc maxL none :: x_TB) (x_RmN d mc ms) (va_Pc (.ref a :: av) (fun U => U.heap.size = a + 1 ∧ x_SP D tc [([k0], fun i => a + i)] [x_z] U.heap ∧ va_K D vwCl (x_tys tc) U ∧ x_St aK aV (fun q => a ≤ q) U U.heap ∧ x_Nn U)) (x_Q none True D tc [(sh, fun i => a + i)] [v] (fun q => a ≤ q)) mc ms (fun q => a ≤ q)
theorem CN_of {l : Launch} {y : MethodName} {cc : ByteArray} {maxL d mc ms : Nat} {k0 : XK} {sh : List XK} {v : XM} {av : List Value} (hcls : plainName y.cls = true) (hnm : y.name = "<init>") (hlen : ∀ a, (lg_sl (.ref a :: av)).length ≤ maxL)
    (body : ∀ (p : Program) (e : Env) (s : State) (m : MethodId) (args : Array Value) (below : List Frame) (meth : Method) (c : Code) (D : va_G) (tc : Nat → ClassId) (aK aV : Nat → Nat) (a : Nat), Cx p s m args meth c cc maxL none y.cls D tc aK aV (fun q => a ≤ q) [([k0], fun i => a + i)] → s.heap.size = a + 1 → x_Nn s → meth.name = "<init>" →
      bW p l e (x_RmN d mc ms) s m args below meth c D tc (fun q => a ≤ q) maxL [([k0], fun i => a + i)] 0 0 (MQ below (x_Q none True D tc [(sh, fun i => a + i)] [v] (fun q => a ≤ q)) args s mc ms (fun q => a ≤ q)) 0 (lv_args 0 (.ref a :: av)) [] [x_z]) : CN l y cc maxL d mc ms k0 sh v av := by
  intro D tc aK aV a
  refine Met.ofW (cc := cc) (maxL := maxL) (ret := none) hcls rfl ?_
  intro p e s m args below meth c s₁ B hml hv
  obtain ⟨rfl, hsz, hP, hK, hSt, hN⟩ := hv
  have hts := atoms_spec (ws := .code y cc maxL none :: x_TB) B.pre
  have hl := lv_entry (.ref a :: av) (n := maxL) (hlen a)
  rw [lg_entry_eq]
  have hin : meth.name = "<init>" := (name_of_methodNamed B.named B.method).1.trans hnm
  refine body p e s m _ below meth c D tc aK aV a ⟨B.exec, B.bytes, hml, findClass_of_methodNamed B.named, fun w hw => hts w (List.mem_cons_of_mem _ hw), hK, ?_, ?_, fun q h => by show a ≤ q; omega, hSt, B.returns, B.notSynchronized⟩ hsz hN hin s.heap [] _ hP va_S.rf hl
  · intro r r' x x' i i' h1 h2 hi hi' he
    match r, r' with
    | 0, 0 => cases h1; cases h2; exact ⟨rfl, by have he : a + i = a + i' := he; omega⟩
    | r + 1, _ => simp at h1
    | 0, r' + 1 => simp at h2
  · intro r x i h1 _
    match r with
    | 0 => cases h1; show a ≤ a + i; omega
    | r + 1 => simp at h1
section XCTOR
variable {p : Program} {l : Launch} {e : Env} {R : Room} {s : State} {m : MethodId} {args : Array Value} {below : List Frame} {meth : Method} {c : Code} {cc : ByteArray} {nL : Nat} {ret : Option FieldType} {own : String} {D : va_G} {tc : Nat → ClassId} {aK aV : Nat → Nat} {kc ks : Nat} {Q : State → Prop} {pc : Nat} {lo : List (Nat × Value)} {st : List Value} {a : Nat} {cur : List XK} {v : XM}
theorem x_re (X : Cx p s m args meth c cc nL ret own D tc aK aV (fun q => a ≤ q) [(cur, fun i => a + i)]) (cur2 : List XK) : Cx p s m args meth c cc nL ret own D tc aK aV (fun q => a ≤ q) [(cur2, fun i => a + i)] := by
  obtain ⟨h1, h2, h3, h4, h5, h6, -, -, h9, h10⟩ := X
  refine ⟨h1, h2, h3, h4, h5, h6, ?_, ?_, h9, h10⟩
  · intro r r' x x' i i' h1 h2 hi hi' he
    match r, r' with
    | 0, 0 => cases h1; cases h2; exact ⟨rfl, by have he : a + i = a + i' := he; omega⟩
    | r + 1, _ => simp at h1
    | 0, r' + 1 => simp at h2
  · intro r x i h1 _
    match r with
    | 0 => cases h1; show a ≤ a + i; omega
    | r + 1 => simp at h1
theorem x_sz (X : Cx p s m args meth c cc nL ret own D tc aK aV (fun q => a ≤ q) [(cur, fun i => a + i)]) (ha : s.heap.size = a + 1) (hc : cur.length = kc + 1) {T : State} {locs : List Loc} (XX : Stand p l e R s m args below meth c T locs kc ks) (hP : x_SP D tc [(cur, fun i => a + i)] [v] T.heap) : T.heap.size = a + (kc + 1) := by
  have h1 : T.heap.size ≤ s.heap.size + kc := XX.same.2.2.1
  obtain ⟨sk, hsk⟩ : ∃ sk, cur[kc]? = some sk := ⟨_, List.getElem?_eq_getElem (by omega)⟩
  have h2 : a + kc < T.heap.size := (hP 0 _ v kc sk rfl rfl hsk).lt
  omega
theorem x_SP1 {H H1 : Heap} {N : Nat} {sk : XK} {u : XM} (hP : x_SP D tc [(cur, fun i => a + i)] [v] H) (hsz : H.size = a + N) (hN : cur.length = N) (ho : ∀ q, q < a + N → H1[q]? = H[q]?) (hu : ∀ i, i < N → u.1 i = v.1 i ∧ u.2 i = v.2 i) (hat : va_at D vwCl (a + N, x_ent tc (fun i => a + i) u N sk) H1) : x_SP D tc [(cur ++ [sk], fun i => a + i)] [u] H1 := by
  intro r x w i k h1 h2 h3
  match r with
  | 0 =>
    cases h1; cases h2
    by_cases hi : i < cur.length
    · rw [List.getElem?_append_left hi] at h3
      rw [x_ent_congr (v := v) (v' := u) (hu i (by omega)).1 (hu i (by omega)).2]
      exact (hP 0 _ v i k rfl rfl h3).kept (ho (a + i) (by omega))
    · rw [List.getElem?_append_right (by omega)] at h3
      have hk := (List.getElem?_eq_some_iff.mp h3).1
      simp only [List.length_singleton] at hk
      have hi2 : i = N := by omega
      subst hi2
      rw [show i - cur.length = 0 by omega] at h3
      cases h3
      exact hat
  | r + 1 => simp at h1
def x_nw (own : String) (idx ci N : Nat) (kds : List Nat) : Prop := ∃ (C : String) (T : u_T) (ty0 : Nat → FieldType), vwCl[ci]? = some (C, T, N) ∧ Cond.classLink own idx C ∈ x_TB ∧ Cond.instantiable C N ∈ x_TB ∧ Cond.initialized C ∈ x_TB ∧ (∀ w ∈ u_ws C T N, w ∈ x_TB) ∧ (∀ k, k < N → parseFieldDescriptor (T k).2.2.1 = some (ty0 k)) ∧ (∀ j, j < N → (kds[j]? = some 0 ∧ defaultValue (ty0 j) = .int 0) ∨ (kds[j]? = some 1 ∧ defaultValue (ty0 j) = .long 0) ∨ (kds[j]? = some 2 ∧ defaultValue (ty0 j) = .null))
theorem a_new (X : Cx p s m args meth c cc nL ret own D tc aK aV (fun q => a ≤ q) [(cur, fun i => a + i)]) (ha : s.heap.size = a + 1) (hc : cur.length = kc + 1) {idx ci N : Nat} {kds : List Nat} (hw : x_nw own idx ci N kds) (hdg : decode cc pc = .ok (.new idx, 3)) (hr : kc + 1 ≤ R.cells ∧ ks + N ≤ R.slots)
    (k : bW p l e R s m args below meth c D tc (fun q => a ≤ q) nL [(cur ++ [.inl (ci, kds)], fun i => a + i)] (kc + 1) (ks + N) Q (pc + 3) lo (.ref (a + (kc + 1)) :: st) [x_zc v (kc + 1)]) : bW p l e R s m args below meth c D tc (fun q => a ≤ q) nL [(cur, fun i => a + i)] kc ks Q pc lo st [v] := fun H locs ls hP hS hl => by
  intro T hT XX
  obtain ⟨C, Tt, ty0, h1, h2, h3, h4, h5, h6, h7⟩ := hw
  have hts := X.2.2.2.2.1
  have hK := X.2.2.2.2.2.1
  have hsz : H.size = a + (kc + 1) := by have := x_sz X ha hc XX (by rw [hT]; exact hP); rw [hT] at this; exact this
  have hKn := hK.1 ci _ h1
  suffices hW : W p l e R s m args below meth c H locs kc ks Q (F0 m pc ls st) from hW T hT XX
  refine W.newcK X.1 X.2.1 X.2.2.2.1 (hts _ h2) (hts _ h3) (hts _ h4) rfl hdg hr.1 hr.2 hKn.2.1 hsz (fun H1 kC hkC e1 z1 o1 => ?_)
  refine k H1 locs ls ?_ ⟨by have := hS.1; omega, fun q q1 q2 => by rw [o1 q (by omega)]; exact hS.2.1 q q1 q2, hS.2.2⟩ hl
  refine x_SP1 hP hsz hc o1 (fun i hi => ⟨by funext j; simp [x_zc]; omega, by funext j; simp [x_zc]; omega⟩) ?_
  refine ⟨_, h1, t_OB.to (u_born ty0 hts h5 hKn hkC e1 h6) (fun j hj => ?_)⟩
  rcases h7 j hj with ⟨g1, g2⟩ | ⟨g1, g2⟩ | ⟨g1, g2⟩ <;> rw [g2] <;> simp [vp_V, x_fvs, List.getElem?_mapIdx, g1, x_fv, x_zc]
theorem a_newarrI (X : Cx p s m args meth c cc nL ret own D tc aK aV (fun q => a ≤ q) [(cur, fun i => a + i)]) (ha : s.heap.size = a + 1) (hc : cur.length = kc + 1) {n : Int32} {N : Nat} (hn : ¬ n < 0) (hN : n.toNatClampNeg = N) (hw : Cond.arrayClass .int ∈ x_TB) (hdg : decode cc pc = .ok (.newarray .int, 2)) (hb : N ≤ 65536) (hr : kc + 1 ≤ R.cells ∧ ks + N ≤ R.slots)
    (k : bW p l e R s m args below meth c D tc (fun q => a ≤ q) nL [(cur ++ [.inr (0, N)], fun i => a + i)] (kc + 1) (ks + N) Q (pc + 2) lo (.ref (a + (kc + 1)) :: st) [x_zc v (kc + 1)]) : bW p l e R s m args below meth c D tc (fun q => a ≤ q) nL [(cur, fun i => a + i)] kc ks Q pc lo (.int n :: st) [v] := fun H locs ls hP hS hl => by
  intro T hT XX
  have hts := X.2.2.2.2.1
  have hK := X.2.2.2.2.2.1
  have hsz : H.size = a + (kc + 1) := by have := x_sz X ha hc XX (by rw [hT]; exact hP); rw [hT] at this; exact this
  suffices hW : W p l e R s m args below meth c H locs kc ks Q (F0 m pc ls (.int n :: st)) from hW T hT XX
  refine va_newaK X.1 X.2.1 (atype := .int) (hts _ hw) rfl hdg rfl hn hN (by show N * _ ≤ _; simp only [newarray.typeOf, componentBytes]; omega) hr.1 hr.2 hsz (fun H1 cA e1 z1 o1 hAr hNm => ?_)
  have hcA : cA = tc 0 := Option.some.inj (hNm.symm.trans (hK.2 0 _ rfl).2)
  subst hcA
  refine k H1 locs ls ?_ ⟨by have := hS.1; omega, fun q q1 q2 => by rw [o1 q (by omega)]; exact hS.2.1 q q1 q2, hS.2.2⟩ hl
  refine x_SP1 hP hsz hc o1 (fun i hi => ⟨by funext j; simp [x_zc]; omega, by funext j; simp [x_zc]; omega⟩) ?_
  show H1[a + (kc + 1)]? = some (vp_cell _ _)
  rw [e1]
  show some _ = some (arrV (tc 0) N (fun j => .int ((x_zc v (kc + 1)).1 (kc + 1) j)))
  congr 2
  funext j
  simp [x_zc, defaultValue, newarray.typeOf]
theorem a_newarrL (X : Cx p s m args meth c cc nL ret own D tc aK aV (fun q => a ≤ q) [(cur, fun i => a + i)]) (ha : s.heap.size = a + 1) (hc : cur.length = kc + 1) {n : Int32} {N : Nat} (hn : ¬ n < 0) (hN : n.toNatClampNeg = N) (hw : Cond.arrayClass .long ∈ x_TB) (hdg : decode cc pc = .ok (.newarray .long, 2)) (hb : N ≤ 65536) (hr : kc + 1 ≤ R.cells ∧ ks + N ≤ R.slots)
    (k : bW p l e R s m args below meth c D tc (fun q => a ≤ q) nL [(cur ++ [.inr (1, N)], fun i => a + i)] (kc + 1) (ks + N) Q (pc + 2) lo (.ref (a + (kc + 1)) :: st) [x_zc v (kc + 1)]) : bW p l e R s m args below meth c D tc (fun q => a ≤ q) nL [(cur, fun i => a + i)] kc ks Q pc lo (.int n :: st) [v] := fun H locs ls hP hS hl => by
  intro T hT XX
  have hts := X.2.2.2.2.1
  have hK := X.2.2.2.2.2.1
  have hsz : H.size = a + (kc + 1) := by have := x_sz X ha hc XX (by rw [hT]; exact hP); rw [hT] at this; exact this
  suffices hW : W p l e R s m args below meth c H locs kc ks Q (F0 m pc ls (.int n :: st)) from hW T hT XX
  refine va_newaK X.1 X.2.1 (atype := .long) (hts _ hw) rfl hdg rfl hn hN (by show N * _ ≤ _; simp only [newarray.typeOf, componentBytes]; omega) hr.1 hr.2 hsz (fun H1 cA e1 z1 o1 hAr hNm => ?_)
  have hcA : cA = tc 1 := Option.some.inj (hNm.symm.trans (hK.2 1 _ rfl).2)
  subst hcA
  refine k H1 locs ls ?_ ⟨by have := hS.1; omega, fun q q1 q2 => by rw [o1 q (by omega)]; exact hS.2.1 q q1 q2, hS.2.2⟩ hl
  refine x_SP1 hP hsz hc o1 (fun i hi => ⟨by funext j; simp [x_zc]; omega, by funext j; simp [x_zc]; omega⟩) ?_
  show H1[a + (kc + 1)]? = some (vp_cell _ _)
  rw [e1]
  show some _ = some (arrV (tc 1) N (fun j => .long ((x_zc v (kc + 1)).2 (kc + 1) j)))
  congr 2
  funext j
  simp [x_zc, defaultValue, newarray.typeOf]
theorem a_newarrZ (X : Cx p s m args meth c cc nL ret own D tc aK aV (fun q => a ≤ q) [(cur, fun i => a + i)]) (ha : s.heap.size = a + 1) (hc : cur.length = kc + 1) {n : Int32} {N : Nat} (hn : ¬ n < 0) (hN : n.toNatClampNeg = N) (hw : Cond.arrayClass .boolean ∈ x_TB) (hdg : decode cc pc = .ok (.newarray .boolean, 2)) (hb : N ≤ 65536) (hr : kc + 1 ≤ R.cells ∧ ks + N ≤ R.slots)
    (k : bW p l e R s m args below meth c D tc (fun q => a ≤ q) nL [(cur ++ [.inr (2, N)], fun i => a + i)] (kc + 1) (ks + N) Q (pc + 2) lo (.ref (a + (kc + 1)) :: st) [x_zc v (kc + 1)]) : bW p l e R s m args below meth c D tc (fun q => a ≤ q) nL [(cur, fun i => a + i)] kc ks Q pc lo (.int n :: st) [v] := fun H locs ls hP hS hl => by
  intro T hT XX
  have hts := X.2.2.2.2.1
  have hK := X.2.2.2.2.2.1
  have hsz : H.size = a + (kc + 1) := by have := x_sz X ha hc XX (by rw [hT]; exact hP); rw [hT] at this; exact this
  suffices hW : W p l e R s m args below meth c H locs kc ks Q (F0 m pc ls (.int n :: st)) from hW T hT XX
  refine va_newaK X.1 X.2.1 (atype := .boolean) (hts _ hw) rfl hdg rfl hn hN (by show N * _ ≤ _; simp only [newarray.typeOf, componentBytes]; omega) hr.1 hr.2 hsz (fun H1 cA e1 z1 o1 hAr hNm => ?_)
  have hcA : cA = tc 2 := Option.some.inj (hNm.symm.trans (hK.2 2 _ rfl).2)
  subst hcA
  refine k H1 locs ls ?_ ⟨by have := hS.1; omega, fun q q1 q2 => by rw [o1 q (by omega)]; exact hS.2.1 q q1 q2, hS.2.2⟩ hl
  refine x_SP1 hP hsz hc o1 (fun i hi => ⟨by funext j; simp [x_zc]; omega, by funext j; simp [x_zc]; omega⟩) ?_
  show H1[a + (kc + 1)]? = some (vp_cell _ _)
  rw [e1]
  show some _ = some (arrV (tc 2) N (fun j => .int ((x_zc v (kc + 1)).1 (kc + 1) j)))
  congr 2
  funext j
  simp [x_zc, defaultValue, newarray.typeOf]
end XCTOR
