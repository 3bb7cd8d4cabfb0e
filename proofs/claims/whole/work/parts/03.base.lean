-- The words in which the states of the class and of the reference are told, and the judgement 'aW' over them.
-- a memory: for each cell (by its number in the tree that a method gets) and each place its int, its long
abbrev XM : Type := (Nat → Nat → Int32) × (Nat → Nat → Int64)
-- what a cell is: an object of class number c with fields of these kinds (0 int, 1 long, 2 null, o+2 the cell o further on), or a row (0 ints, 1 longs, 2 booleans, o+3 cells o apart; o+103: the last one isn't there yet, o+203 ..) of so many
abbrev XK : Type := (Nat × List Nat) ⊕ (Nat × Nat)
abbrev XR : Type := List XK × (Nat → Nat)
def x_si (v : XM) (id k : Nat) (x : Int32) : XM := (fun i j => if i = id ∧ j = k then x else v.1 i j, v.2)
def x_sl (v : XM) (id k : Nat) (x : Int64) : XM := (v.1, fun i j => if i = id ∧ j = k then x else v.2 i j)
def x_sub (v : XM) (o : Nat) : XM := (fun i => v.1 (i + o), fun i => v.2 (i + o))
def x_ga (v : XM) (id : Nat) (i : Int32) : Int32 := v.1 id i.toNatClampNeg
def x_gl (v : XM) (id : Nat) (i : Int32) : Int64 := v.2 id i.toNatClampNeg
def x_pa (v : XM) (id : Nat) (i x : Int32) : XM := x_si v id i.toNatClampNeg x
def x_pl (v : XM) (id : Nat) (i : Int32) (x : Int64) : XM := x_sl v id i.toNatClampNeg x
def x_fv (ad : Nat → Nat) (v : XM) (id k : Nat) : Nat → Value
  | 0 => .int (v.1 id k)
  | 1 => .long (v.2 id k)
  | 2 => .null
  | o + 3 => .ref (ad (id + (o + 1)))
def x_fvs (ad : Nat → Nat) (v : XM) (id : Nat) (ks : List Nat) : List Value := ks.mapIdx (fun k kd => x_fv ad v id k kd)
def x_ent (tc : Nat → ClassId) (ad : Nat → Nat) (v : XM) (id : Nat) : XK → va_E
  | .inl (c, ks) => .inr (c, x_fvs ad v id ks)
  | .inr (0, n) => .inl (tc 0, (n, .inl (v.1 id)))
  | .inr (1, n) => .inl (tc 1, (n, .inr (.inl (v.2 id))))
  | .inr (2, n) => .inl (tc 2, (n, .inl (v.1 id)))
  | .inr (o + 3, n) => .inl (tc 3, (n, .inr (.inr (.inr (.inr (fun i => if i + o / 100 < n then some (ad (id + 1 + o % 100 * i)) else none))))))
def x_tys (tc : Nat → ClassId) : List (ClassId × FieldType) := [(tc 0, .int), (tc 1, .long), (tc 2, .boolean), (tc 3, .object "FoldRoads$State")]
/-- the heap holds the cells of all trees -/
def x_SP (D : va_G) (tc : Nat → ClassId) (Rs : List XR) (vs : List XM) (H : Heap) : Prop :=
  ∀ (r : Nat) (x : XR) (v : XM) (id : Nat) (sk : XK), Rs[r]? = some x → vs[r]? = some v → x.1[id]? = some sk → va_at D vwCl (x.2 id, x_ent tc x.2 v id sk) H
/-- no two of their addresses are one -/
def x_Dj (Rs : List XR) : Prop := ∀ (r r' : Nat) (x x' : XR) (i i' : Nat), Rs[r]? = some x → Rs[r']? = some x' → i < x.1.length → i' < x'.1.length → x.2 i = x'.2 i' → r = r' ∧ i = i'
/-- what a method may write: their cells, and new ones -/
def x_Ad (Rs : List XR) (sz : Nat) : Nat → Prop := fun q => (∃ (r : Nat) (x : XR) (i : Nat), Rs[r]? = some x ∧ i < x.1.length ∧ q = x.2 i) ∨ sz ≤ q
def x_len : List Nat := [158, 4, 4, 4, 5]
def x_W0 : List Int32 := [115, 112, 111, 116, 32, 105, 110, 110, 32, 102, 111, 108, 100, 32, 116, 104, 105, 110, 103, 32, 119, 97, 108, 107, 101, 114, 32, 98, 114, 101, 97, 116, 104, 32, 108, 97, 117, 103, 104, 32, 119, 111, 114, 114, 121, 32, 102, 114, 111, 119, 110, 32, 103, 111, 101, 115, 32, 108, 101, 97, 114, 110, 115, 32, 116, 101, 108, 108, 115, 32, 114, 101, 115, 116, 115, 32, 99, 114, 101, 97, 109, 32, 115, 108, 105, 112, 32, 109, 111, 111, 100, 32, 104, 111, 117, 114, 32, 111, 114, 32, 97, 110, 100, 32, 110, 111, 116, 32, 103, 111, 105, 110, 103, 32, 104, 111, 117, 115, 101, 100, 32, 108, 111, 115, 116, 32, 97, 116, 32, 107, 110, 111, 119, 115, 32, 108, 101, 102, 116, 32, 116, 105, 114, 101, 100, 32, 112, 97, 99, 101, 32, 110, 117, 109, 98, 101, 114, 32]
def x_byt : List (List Int32) := [x_W0, [32, 116, 111, 32], [32, 97, 116, 32], [32, 105, 110, 32], [32, 108, 111, 115, 116]]
/-- what stands of the JDK's: the String constants, four statics -/
def x_St (aK aV : Nat → Nat) (A : Nat → Prop) (U : State) (H : Heap) : Prop :=
  ((∀ i, aV i = aK (i + 1000)) ∧ vk_S 5 x_len x_byt aK aV A U H ∧ va_Z "java/lang/String" "COMPACT_STRINGS" "Z" (.int 1) A U H ∧ va_Zq "jdk/internal/util/Preconditions" "SIOOBE_FORMATTER" "Ljava/util/function/BiFunction;" A U H ∧ vx_Zq Bundle.tN "UNASSIGNED_STACK" Bundle.steD A U H ∧ vx_Zq Bundle.tN "SUPPRESSED_SENTINEL" Bundle.listD A U H) ∧
  vk_R "FoldRoads$Tape" 24 "spot inn fold thing walker breath laugh worry frown goes learns tells rests cream slip mood hour or and not going housed lost at knows left tired pace number " (aK 0) U ∧ vk_R "FoldRoads$Tag" 44 " to " (aK 1) U ∧ vk_R "FoldRoads$Tag" 46 " at " (aK 2) U ∧ vk_R "FoldRoads$Tag" 65 " in " (aK 3) U ∧ vk_R "FoldRoads$Tag" 73 " lost" (aK 4) U
def x_TB : List Cond := lw_tbl.filter goodWord
def x_Rm (d : Nat) : Room := { frames := d, cells := 0, slots := 0, locals := 60 * d }
def x_PB (D : va_G) (tc : Nat → ClassId) (aK aV : Nat → Nat) (Rs : List XR) (vs : List XM) (sz : Nat) : State → Prop := fun U =>
  U.heap.size = sz ∧ x_SP D tc Rs vs U.heap ∧ va_K D vwCl (x_tys tc) U ∧ x_Dj Rs ∧ x_St aK aV (x_Ad Rs sz) U U.heap
def x_Q (rv : Option Value) (zp : Prop) (D : va_G) (tc : Nat → ClassId) (Rs : List XR) (vo : List XM) (A : Nat → Prop) : Array Value → State → Outcome → State → Prop :=
  fun _ st oc t => oc = .returned rv ∧ zp ∧ x_SP D tc Rs vo t.heap ∧ va_F A st t
/-- a method's contract: with the trees Rs that hold vs it answers rv, and they hold vo -/
def CT (l : Launch) (y : MethodName) (cc : ByteArray) (maxL : Nat) (ret : Option FieldType) (d : Nat) (Rs : List XR) (vs : List XM) (av : (Nat → Nat) → List Value) (rv : Option Value) (zp : Prop) (vo : List XM) : Prop :=
  ∀ (D : va_G) (tc : Nat → ClassId) (aK aV : Nat → Nat) (sz : Nat), Met l y (.code y cc maxL ret :: x_TB) (x_Rm d) (va_Pc (av aK) (x_PB D tc aK aV Rs vs sz)) (x_Q rv zp D tc Rs vo (x_Ad Rs sz)) 0 0 (x_Ad Rs sz)
/-- what holds all through a method -/
def Cx (p : Program) (s : State) (m : MethodId) (args : Array Value) (meth : Method) (c : Code) (cc : ByteArray) (nL : Nat) (ret : Option FieldType) (own : String) (D : va_G) (tc : Nat → ClassId) (aK aV : Nat → Nat) (A : Nat → Prop) (Rs : List XR) : Prop :=
  p.tables.exec = Jvm.exec ∧ c.code = cc ∧ c.maxLocals = nL ∧ s.vm.findClass own = some m.cls ∧ (∀ w ∈ x_TB, w.before args s = true) ∧ va_K D vwCl (x_tys tc) s ∧ x_Dj Rs ∧
  (∀ (r : Nat) (x : XR) (i : Nat), Rs[r]? = some x → i < x.1.length → A (x.2 i)) ∧ (∀ q : Nat, s.heap.size ≤ q → A q) ∧ x_St aK aV A s s.heap ∧ meth.sig.returnType = ret ∧ meth.locks = false
/-- the machine at place pc, the locals lo, the stack st, the trees Rs that hold vs, kc new cells of ks slots so far: it comes to Q -/
def bW (p : Program) (l : Launch) (e : Env) (R : Room) (s : State) (m : MethodId) (args : Array Value) (below : List Frame) (meth : Method) (c : Code) (D : va_G) (tc : Nat → ClassId) (A : Nat → Prop) (nL : Nat) (Rs : List XR) (kc ks : Nat) (Q : State → Prop) (pc : Nat) (lo : List (Nat × Value)) (st : List Value) (vs : List XM) : Prop :=
  ∀ (H : Heap) (locs : List Loc) (ls : Array Slot), x_SP D tc Rs vs H → va_S A s.heap H locs → lv_has ls nL lo → W p l e R s m args below meth c H locs kc ks Q (F0 m pc ls st)
abbrev aW (p : Program) (l : Launch) (e : Env) (R : Room) (s : State) (m : MethodId) (args : Array Value) (below : List Frame) (meth : Method) (c : Code) (D : va_G) (tc : Nat → ClassId) (A : Nat → Prop) (nL : Nat) (Rs : List XR) (rv : Option Value) (zp : Prop) (vo : List XM) (pc : Nat) (lo : List (Nat × Value)) (st : List Value) (vs : List XM) : Prop :=
  bW p l e R s m args below meth c D tc A nL Rs 0 0 (MQ below (x_Q rv zp D tc Rs vo A) args s 0 0 A) pc lo st vs
-- words of the pure side
def x_lt {α β : Type} (a : α) (k : α → β) : β := k a
def x_bo {α β : Type} (a : Option α) (k : α → Option β) : Option β := match a with
  | none => none
  | some x => k x
def x_ck {β : Type} (i : Int32) (n : Nat) (k : Option β) : Option β := if (i < 0 ∨ n ≤ i.toNatClampNeg) then none else k
def x_nz {β : Type} (y : Int32) (k : Option β) : Option β := if y = 0 then none else k
def x_nzl {β : Type} (y : Int64) (k : Option β) : Option β := if y = 0 then none else k
def x_lp {φ : Type} (z : φ) (b : φ → φ) : Nat → φ
  | 0 => z
  | n + 1 => b (x_lp z b n)
def x_NN : Nat := 1000000
def x_Z (x : Int32) : Prop := x = 0 ∨ x = 1
theorem x_lt_elim {α β : Type} {a : α} {k : α → β} {o : β} (h : x_lt a k = o) : ∃ x, a = x ∧ k x = o := ⟨a, rfl, h⟩
theorem x_bo_elim {α β : Type} {a : Option α} {k : α → Option β} {o : β} (h : x_bo a k = some o) : ∃ x, a = some x ∧ k x = some o := by
  cases a with
  | none => cases h
  | some x => exact ⟨x, rfl, h⟩
theorem x_ck_elim {β : Type} {i : Int32} {n : Nat} {k : Option β} {o : β} (h : x_ck i n k = some o) : vp_in i n ∧ k = some o := by
  unfold x_ck at h
  by_cases c : (i < 0 ∨ n ≤ i.toNatClampNeg)
  · rw [if_pos c] at h; cases h
  · rw [if_neg c] at h; exact ⟨c, h⟩
theorem x_nz_elim {β : Type} {y : Int32} {k : Option β} {o : β} (h : x_nz y k = some o) : ¬ y = 0 ∧ k = some o := by
  unfold x_nz at h
  by_cases c : y = 0
  · rw [if_pos c] at h; cases h
  · rw [if_neg c] at h; exact ⟨c, h⟩
theorem x_nzl_elim {β : Type} {y : Int64} {k : Option β} {o : β} (h : x_nzl y k = some o) : ¬ y = 0 ∧ k = some o := by
  unfold x_nzl at h
  by_cases c : y = 0
  · rw [if_pos c] at h; cases h
  · rw [if_neg c] at h; exact ⟨c, h⟩
theorem x_ifp {β : Type} {c : Prop} [Decidable c] {a b o : β} (hc : c) (h : (if c then a else b) = o) : a = o := by rw [if_pos hc] at h; exact h
theorem x_ifn {β : Type} {c : Prop} [Decidable c] {a b o : β} (hc : ¬ c) (h : (if c then a else b) = o) : b = o := by rw [if_neg hc] at h; exact h
theorem x_ne {x c : Int32} (h : ¬ x = c) : x.toInt ≠ c.toInt := fun q => h (Int32.toInt_inj.mp q)
theorem x_Z0 : x_Z 0 := Or.inl rfl
theorem x_Z1 : x_Z 1 := Or.inr rfl
theorem x_Z.nar {x : Int32} (h : x_Z x) : narrow .boolean (.int x) = .int x := by
  rcases h with rfl | rfl <;> decide
-- cells
theorem x_TB_good : ∀ w ∈ x_TB, w ∈ lw_tbl ∧ goodWord w = true := fun w h => List.mem_filter.mp h
theorem x_ent_congr {tc : Nat → ClassId} {ad : Nat → Nat} {v v' : XM} {id : Nat} (h1 : v'.1 id = v.1 id) (h2 : v'.2 id = v.2 id) (sk : XK) : x_ent tc ad v' id sk = x_ent tc ad v id sk := by
  have hf : ∀ k kd, x_fv ad v' id k kd = x_fv ad v id k kd := by
    intro k kd
    match kd with
    | 0 => simp [x_fv, h1]
    | 1 => simp [x_fv, h2]
    | 2 => rfl
    | o + 3 => rfl
  match sk with
  | .inl (c, ks) => simp only [x_ent, x_fvs, hf]
  | .inr (0, n) => simp only [x_ent, h1]
  | .inr (1, n) => simp only [x_ent, h2]
  | .inr (2, n) => simp only [x_ent, h1]
  | .inr (o + 3, n) => rfl
theorem x_fv_sub (ad : Nat → Nat) (v u : XM) (o i k kd : Nat) (h1 : v.1 (i + o) = u.1 i) (h2 : v.2 (i + o) = u.2 i) : x_fv (fun q => ad (q + o)) u i k kd = x_fv ad v (i + o) k kd := by
  match kd with
  | 0 => simp [x_fv, h1]
  | 1 => simp [x_fv, h2]
  | 2 => rfl
  | w + 3 => simp only [x_fv]; rw [Nat.add_right_comm]
theorem x_ent_sub (tc : Nat → ClassId) (ad : Nat → Nat) (v u : XM) (o i : Nat) (h1 : v.1 (i + o) = u.1 i) (h2 : v.2 (i + o) = u.2 i) (sk : XK) : x_ent tc (fun q => ad (q + o)) u i sk = x_ent tc ad v (i + o) sk := by
  match sk with
  | .inl (c, ks) => simp only [x_ent, x_fvs, x_fv_sub ad v u o i _ _ h1 h2]
  | .inr (0, n) => simp only [x_ent, h1]
  | .inr (1, n) => simp only [x_ent, h2]
  | .inr (2, n) => simp only [x_ent, h1]
  | .inr (w + 3, n) =>
    simp only [x_ent]
    have : ∀ j : Nat, i + 1 + w % 100 * j + o = i + o + 1 + w % 100 * j := fun j => by omega
    simp only [this]
theorem x_SP.set {D : va_G} {tc : Nat → ClassId} {Rs : List XR} {vs : List XM} {H H1 : Heap} {r : Nat} {x : XR} {v v' : XM} {id : Nat} {sk : XK} (hP : x_SP D tc Rs vs H) (hJ : x_Dj Rs) (hr : Rs[r]? = some x) (hv : vs[r]? = some v) (hsk : x.1[id]? = some sk)
    (hat : va_at D vwCl (x.2 id, x_ent tc x.2 v' id sk) H1) (hoq : ∀ q : Nat, q ≠ x.2 id → H1[q]? = H[q]?) (hag : ∀ i, i ≠ id → v'.1 i = v.1 i ∧ v'.2 i = v.2 i) : x_SP D tc Rs (vs.set r v') H1 := by
  intro r2 x2 v2 i2 k2 h1 h2 h3
  have hid : id < x.1.length := (List.getElem?_eq_some_iff.mp hsk).1
  have hi2 : i2 < x2.1.length := (List.getElem?_eq_some_iff.mp h3).1
  by_cases hrr : r2 = r
  · subst hrr
    cases h1.symm.trans hr
    have hl : r2 < vs.length := (List.getElem?_eq_some_iff.mp hv).1
    rw [List.getElem?_set_self hl] at h2
    cases h2
    by_cases hii : i2 = id
    · subst hii
      cases h3.symm.trans hsk
      exact hat
    · obtain ⟨e1, e2⟩ := hag i2 hii
      rw [x_ent_congr e1 e2]
      exact (hP r2 x v i2 k2 hr hv h3).kept (hoq _ fun e => hii (hJ r2 r2 x x i2 id hr hr hi2 hid e).2)
  · rw [List.getElem?_set_ne (Ne.symm hrr)] at h2
    exact (hP r2 x2 v2 i2 k2 h1 h2 h3).kept (hoq _ fun e => hrr (hJ r2 r x2 x i2 id h1 hr hi2 hid e).1)
theorem x_one {D : va_G} {tc : Nat → ClassId} {Rs : List XR} {vs : List XM} {H : Heap} {r id : Nat} {x : XR} {v : XM} {sk : XK} (hP : x_SP D tc Rs vs H) (hr : Rs[r]? = some x) (hv : vs[r]? = some v) (hsk : x.1[id]? = some sk) : va_P D vwCl [(x.2 id, x_ent tc x.2 v id sk)] H := by
  intro k q hk
  match k with
  | 0 => cases hk; exact hP r x v id sk hr hv hsk
  | k + 1 => simp at hk
/-- what the tables say of a field at a place of a class' pool -/
def x_fl (own : String) (idx ci k kd : Nat) (ty : FieldType) : Prop := ∃ (C : String) (T : u_T) (N : Nat) (ty0 : Nat → FieldType), vwCl[ci]? = some (C, T, N) ∧ k < N ∧ (∀ w ∈ u_ws C T N, w ∈ x_TB) ∧ Cond.fieldLink own idx (T k).1 (T k).2.1 (T k).2.2.1 ∈ x_TB ∧
  (∀ k, k < N → parseFieldDescriptor (T k).2.2.1 = some (ty0 k)) ∧ (∀ a, a < N → ∀ b, b < N → a ≠ b → (T a).2.1 ≠ (T b).2.1) ∧ parseFieldDescriptor (T k).2.2.1 = some ty ∧ (kd < 2 → (T k).2.2.2 = false)
