-- Rows that read and write cells; calls; a method's start and end.
section XHEAP
variable {p : Program} {l : Launch} {e : Env} {R : Room} {s : State} {m : MethodId} {args : Array Value} {below : List Frame} {meth : Method} {c : Code} {cc : ByteArray} {nL : Nat} {ret : Option FieldType} {own : String} {D : va_G} {tc : Nat → ClassId} {aK aV : Nat → Nat} {A : Nat → Prop} {Rs : List XR} {kc ks : Nat} {Q : State → Prop} {rv : Option Value} {zp : Prop} {vo : List XM} {pc : Nat} {lo : List (Nat × Value)} {st : List Value} {vs : List XM}
theorem x_fvs_at {ad : Nat → Nat} {v : XM} {id k kd : Nat} {kds : List Nat} (hk : kds[k]? = some kd) : (x_fvs ad v id kds)[k]? = some (x_fv ad v id k kd) := by
  simp [x_fvs, List.getElem?_mapIdx, hk]
theorem x_fvs_set {ad : Nat → Nat} {v v' : XM} {id k kd : Nat} {kds : List Nat} {val : Value} (hk : kds[k]? = some kd) (h0 : x_fv ad v' id k kd = val) (h1 : ∀ j q, j ≠ k → x_fv ad v' id j q = x_fv ad v id j q) : x_fvs ad v' id kds = (x_fvs ad v id kds).set k val := by
  have hl : k < kds.length := (List.getElem?_eq_some_iff.mp hk).1
  apply List.ext_getElem?
  intro j
  by_cases hj : j = k
  · subst hj
    rw [List.getElem?_set_self (by simp [x_fvs, hl]), x_fvs_at hk, h0]
  · rw [List.getElem?_set_ne (Ne.symm hj)]
    simp only [x_fvs, List.getElem?_mapIdx]
    cases kds[j]? with
    | none => rfl
    | some q => simp [h1 j q hj]
theorem a_getI (X : Cx p s m args meth c cc nL ret own D tc aK aV A Rs) (r : Nat) {id ci k idx : Nat} {sh : List XK} {ad : Nat → Nat} {v : XM} {kds : List Nat} {ty : FieldType} (hf : x_fl own idx ci k 0 ty) (hr : Rs[r]? = some (sh, ad)) (hv : vs[r]? = some v) (hsk : sh[id]? = some (.inl (ci, kds))) (hk : kds[k]? = some 0) (hdg : decode cc pc = .ok (.getfield idx, 3))
    (kk : bW p l e R s m args below meth c D tc A nL Rs kc ks Q (pc + 3) lo (.int (v.1 id k) :: st) vs) : bW p l e R s m args below meth c D tc A nL Rs kc ks Q pc lo (.ref (ad id) :: st) vs := fun H locs ls hP hS hl => by
  obtain ⟨C, T, N, ty0, hc, hkN, hin, hlk, -⟩ := hf
  exact va_get X.1 X.2.1 X.2.2.2.2.1 hin X.2.2.2.1 X.2.2.2.2.2.1 (x_one hP hr hv hsk) 0 rfl hc k hkN (X.2.2.2.2.1 _ hlk) (fun _ h9 => h9) (v := .int (v.1 id k)) (x_fvs_at hk) hdg (kk H locs ls hP hS hl)
theorem a_getL (X : Cx p s m args meth c cc nL ret own D tc aK aV A Rs) (r : Nat) {id ci k idx : Nat} {sh : List XK} {ad : Nat → Nat} {v : XM} {kds : List Nat} {ty : FieldType} (hf : x_fl own idx ci k 1 ty) (hr : Rs[r]? = some (sh, ad)) (hv : vs[r]? = some v) (hsk : sh[id]? = some (.inl (ci, kds))) (hk : kds[k]? = some 1) (hdg : decode cc pc = .ok (.getfield idx, 3))
    (kk : bW p l e R s m args below meth c D tc A nL Rs kc ks Q (pc + 3) lo (.long (v.2 id k) :: st) vs) : bW p l e R s m args below meth c D tc A nL Rs kc ks Q pc lo (.ref (ad id) :: st) vs := fun H locs ls hP hS hl => by
  obtain ⟨C, T, N, ty0, hc, hkN, hin, hlk, -⟩ := hf
  exact va_get X.1 X.2.1 X.2.2.2.2.1 hin X.2.2.2.1 X.2.2.2.2.2.1 (x_one hP hr hv hsk) 0 rfl hc k hkN (X.2.2.2.2.1 _ hlk) (fun _ h9 => h9) (v := .long (v.2 id k)) (x_fvs_at hk) hdg (kk H locs ls hP hS hl)
theorem a_getR (X : Cx p s m args meth c cc nL ret own D tc aK aV A Rs) (r : Nat) (o id2 : Nat) {id ci k idx : Nat} {sh : List XK} {ad : Nat → Nat} {v : XM} {kds : List Nat} {ty : FieldType} (hf : x_fl own idx ci k 2 ty) (hr : Rs[r]? = some (sh, ad)) (hv : vs[r]? = some v) (hsk : sh[id]? = some (.inl (ci, kds))) (hk : kds[k]? = some (o + 2)) (hid : id + o = id2) (hdg : decode cc pc = .ok (.getfield idx, 3))
    (kk : bW p l e R s m args below meth c D tc A nL Rs kc ks Q (pc + 3) lo (.ref (ad id2) :: st) vs) (ho : o ≠ 0 := by decide) : bW p l e R s m args below meth c D tc A nL Rs kc ks Q pc lo (.ref (ad id) :: st) vs := fun H locs ls hP hS hl => by
  subst hid
  obtain ⟨o, rfl⟩ : ∃ q, o = q + 1 := ⟨o - 1, by omega⟩
  obtain ⟨C, T, N, ty0, hc, hkN, hin, hlk, -⟩ := hf
  exact va_get X.1 X.2.1 X.2.2.2.2.1 hin X.2.2.2.1 X.2.2.2.2.2.1 (x_one hP hr hv hsk) 0 rfl hc k hkN (X.2.2.2.2.1 _ hlk) (fun _ h9 => h9) (v := .ref (ad (id + (o + 1)))) (x_fvs_at hk) hdg (kk H locs ls hP hS hl)
theorem a_putG (X : Cx p s m args meth c cc nL ret own D tc aK aV A Rs) (r : Nat) {id ci k kd idx : Nat} {sh : List XK} {ad : Nat → Nat} {v v' : XM} {kds : List Nat} {ty : FieldType} {val : Value} (hf : x_fl own idx ci k kd ty) (hkd : kd < 2) (hr : Rs[r]? = some (sh, ad)) (hv : vs[r]? = some v) (hsk : sh[id]? = some (.inl (ci, kds))) (hk : kds[k]? = some kd) (hn : narrow ty val = val) (hfit : fits ty val = true)
    (hfs : x_fvs ad v' id kds = (x_fvs ad v id kds).set k val) (hag : ∀ i, i ≠ id → v'.1 i = v.1 i ∧ v'.2 i = v.2 i) (hdg : decode cc pc = .ok (.putfield idx, 3))
    (kk : bW p l e R s m args below meth c D tc A nL Rs kc ks Q (pc + 3) lo st (vs.set r v')) : bW p l e R s m args below meth c D tc A nL Rs kc ks Q pc lo (val :: .ref (ad id) :: st) vs := fun H locs ls hP hS hl => by
  obtain ⟨C, T, N, ty0, hc, hkN, hin, hlk, hty, hnm, hd, hfin⟩ := hf
  have hfin := hfin hkd
  obtain ⟨hx, hb, -, hown, hts, hK, hJ, hA, -⟩ := X
  have hap := va_apart (own := own) hts hin ty0 hty hnm hK hc
  have hlen : k < (x_fvs ad v id kds).length := by simp [x_fvs, (List.getElem?_eq_some_iff.mp hk).1]
  obtain ⟨r0, h1, cell, q1, q2, q3, q4⟩ := hP r (sh, ad) v id _ hr hv hsk
  have hr0 : r0 = (C, T, N) := Option.some.inj (h1.symm.trans hc)
  subst hr0
  obtain ⟨hSl, hfc, kC, hkC, hkind⟩ := hK.1 ci _ hc
  obtain ⟨cf, kf, fi, f, hi, hsl⟩ := hSl k hkN
  have hlay := hts _ (hin _ (u_in_lay hkN))
  unfold u_lay at hlay
  rw [if_neg (by rw [hfin]; decide)] at hlay
  have hst := (u_facts hfc hkC (u_lays hts hin hkN) hi).1
  have h6 := u_store hfc hkC hkind hlay hi hd hn hfit
  refine W.putK hx hb (f := f) ⟨hown, hts _ hlk, ⟨_, _, _, hi⟩, hst⟩ (by rw [q2]; exact h6) q1 q3 (by rw [hsl]; exact k2_hasslot (q4 k hkN)) rfl rfl hdg fun H' e1 e2 e3 => ?_
  rw [hsl] at e1 ⊢
  refine kk H' _ ls (hP.set hJ hr hv hsk ?_ e3 hag) (hS.put e2 e3 (hA r (sh, ad) id hr (List.getElem?_eq_some_iff.mp hsk).1)) hl
  show va_at D vwCl (ad id, .inr (ci, x_fvs ad v' id kds)) H'
  rw [hfs]
  exact ⟨_, hc, t_OB.to (V := updV (vp_V (x_fvs ad v id kds)) k val) ⟨_, e1, q2, q3, t_set q4 hap hkN val⟩ (fun j _ => vp_updV_set hlen val j)⟩
theorem x_si_off {v : XM} {id k : Nat} {x : Int32} (i : Nat) (h : i ≠ id) : (x_si v id k x).1 i = v.1 i ∧ (x_si v id k x).2 i = v.2 i := ⟨by funext j; simp [x_si, h], rfl⟩
theorem x_sl_off {v : XM} {id k : Nat} {x : Int64} (i : Nat) (h : i ≠ id) : (x_sl v id k x).1 i = v.1 i ∧ (x_sl v id k x).2 i = v.2 i := ⟨rfl, by funext j; simp [x_sl, h]⟩
theorem x_fvs_si {ad : Nat → Nat} {v : XM} {id k : Nat} {kds : List Nat} {x : Int32} (hk : kds[k]? = some 0) : x_fvs ad (x_si v id k x) id kds = (x_fvs ad v id kds).set k (.int x) := by
  refine x_fvs_set hk (by simp [x_fv, x_si]) (fun j q hj => ?_)
  match q with
  | 0 => simp [x_fv, x_si, hj]
  | 1 => rfl
  | 2 => rfl
  | o + 3 => rfl
theorem x_fvs_sl {ad : Nat → Nat} {v : XM} {id k : Nat} {kds : List Nat} {x : Int64} (hk : kds[k]? = some 1) : x_fvs ad (x_sl v id k x) id kds = (x_fvs ad v id kds).set k (.long x) := by
  refine x_fvs_set hk (by simp [x_fv, x_sl]) (fun j q hj => ?_)
  match q with
  | 0 => rfl
  | 1 => simp [x_fv, x_sl, hj]
  | 2 => rfl
  | o + 3 => rfl
theorem a_putI (X : Cx p s m args meth c cc nL ret own D tc aK aV A Rs) (r : Nat) {id ci k idx : Nat} {sh : List XK} {ad : Nat → Nat} {v : XM} {kds : List Nat} {x : Int32} (hf : x_fl own idx ci k 0 .int) (hr : Rs[r]? = some (sh, ad)) (hv : vs[r]? = some v) (hsk : sh[id]? = some (.inl (ci, kds))) (hk : kds[k]? = some 0) (hdg : decode cc pc = .ok (.putfield idx, 3))
    (kk : bW p l e R s m args below meth c D tc A nL Rs kc ks Q (pc + 3) lo st (vs.set r (x_si v id k x))) : bW p l e R s m args below meth c D tc A nL Rs kc ks Q pc lo (.int x :: .ref (ad id) :: st) vs :=
  a_putG X r hf (by decide) hr hv hsk hk rfl rfl (x_fvs_si hk) x_si_off hdg kk
theorem a_putZ (X : Cx p s m args meth c cc nL ret own D tc aK aV A Rs) (r : Nat) {id ci k idx : Nat} {sh : List XK} {ad : Nat → Nat} {v : XM} {kds : List Nat} {x : Int32} (hz : x_Z x) (hf : x_fl own idx ci k 0 .boolean) (hr : Rs[r]? = some (sh, ad)) (hv : vs[r]? = some v) (hsk : sh[id]? = some (.inl (ci, kds))) (hk : kds[k]? = some 0) (hdg : decode cc pc = .ok (.putfield idx, 3))
    (kk : bW p l e R s m args below meth c D tc A nL Rs kc ks Q (pc + 3) lo st (vs.set r (x_si v id k x))) : bW p l e R s m args below meth c D tc A nL Rs kc ks Q pc lo (.int x :: .ref (ad id) :: st) vs :=
  a_putG X r hf (by decide) hr hv hsk hk hz.nar (by rcases hz with rfl | rfl <;> decide) (x_fvs_si hk) x_si_off hdg kk
theorem a_putL (X : Cx p s m args meth c cc nL ret own D tc aK aV A Rs) (r : Nat) {id ci k idx : Nat} {sh : List XK} {ad : Nat → Nat} {v : XM} {kds : List Nat} {x : Int64} (hf : x_fl own idx ci k 1 .long) (hr : Rs[r]? = some (sh, ad)) (hv : vs[r]? = some v) (hsk : sh[id]? = some (.inl (ci, kds))) (hk : kds[k]? = some 1) (hdg : decode cc pc = .ok (.putfield idx, 3))
    (kk : bW p l e R s m args below meth c D tc A nL Rs kc ks Q (pc + 3) lo st (vs.set r (x_sl v id k x))) : bW p l e R s m args below meth c D tc A nL Rs kc ks Q pc lo (.long x :: .ref (ad id) :: st) vs :=
  a_putG X r hf (by decide) hr hv hsk hk rfl rfl (x_fvs_sl hk) x_sl_off hdg kk
theorem a_alenI (X : Cx p s m args meth c cc nL ret own D tc aK aV A Rs) (r : Nat) {id n : Nat} {x : Int32} {sh : List XK} {ad : Nat → Nat} {v : XM} (hr : Rs[r]? = some (sh, ad)) (hv : vs[r]? = some v) (hsk : sh[id]? = some (.inr (0, n))) (hx : Int32.ofNat n = x) (hdg : decode cc pc = .ok (.arraylength, 1))
    (kk : bW p l e R s m args below meth c D tc A nL Rs kc ks Q (pc + 1) lo (.int x :: st) vs) : bW p l e R s m args below meth c D tc A nL Rs kc ks Q pc lo (.ref (ad id) :: st) vs := fun H locs ls hP hS hl =>
  va_alen X.1 X.2.1 X.2.2.2.2.2.1 (x_one hP hr hv hsk) 0 0 rfl rfl hx hdg (kk H locs ls hP hS hl)
theorem a_alenL (X : Cx p s m args meth c cc nL ret own D tc aK aV A Rs) (r : Nat) {id n : Nat} {x : Int32} {sh : List XK} {ad : Nat → Nat} {v : XM} (hr : Rs[r]? = some (sh, ad)) (hv : vs[r]? = some v) (hsk : sh[id]? = some (.inr (1, n))) (hx : Int32.ofNat n = x) (hdg : decode cc pc = .ok (.arraylength, 1))
    (kk : bW p l e R s m args below meth c D tc A nL Rs kc ks Q (pc + 1) lo (.int x :: st) vs) : bW p l e R s m args below meth c D tc A nL Rs kc ks Q pc lo (.ref (ad id) :: st) vs := fun H locs ls hP hS hl =>
  va_alen X.1 X.2.1 X.2.2.2.2.2.1 (x_one hP hr hv hsk) 0 1 rfl rfl hx hdg (kk H locs ls hP hS hl)
theorem a_alenR (X : Cx p s m args meth c cc nL ret own D tc aK aV A Rs) (r : Nat) {id n o : Nat} {x : Int32} {sh : List XK} {ad : Nat → Nat} {v : XM} (hr : Rs[r]? = some (sh, ad)) (hv : vs[r]? = some v) (hsk : sh[id]? = some (.inr (o + 3, n))) (hx : Int32.ofNat n = x) (hdg : decode cc pc = .ok (.arraylength, 1))
    (kk : bW p l e R s m args below meth c D tc A nL Rs kc ks Q (pc + 1) lo (.int x :: st) vs) : bW p l e R s m args below meth c D tc A nL Rs kc ks Q pc lo (.ref (ad id) :: st) vs := fun H locs ls hP hS hl =>
  va_alen X.1 X.2.1 X.2.2.2.2.2.1 (x_one hP hr hv hsk) 0 3 rfl rfl hx hdg (kk H locs ls hP hS hl)
theorem a_iald (X : Cx p s m args meth c cc nL ret own D tc aK aV A Rs) (r : Nat) {id n : Nat} {i : Int32} {sh : List XK} {ad : Nat → Nat} {v : XM} (hr : Rs[r]? = some (sh, ad)) (hv : vs[r]? = some v) (hsk : sh[id]? = some (.inr (0, n))) (hin : vp_in i n) (hdg : decode cc pc = .ok (.iaload, 1))
    (kk : bW p l e R s m args below meth c D tc A nL Rs kc ks Q (pc + 1) lo (.int (x_ga v id i) :: st) vs) : bW p l e R s m args below meth c D tc A nL Rs kc ks Q pc lo (.int i :: .ref (ad id) :: st) vs := fun H locs ls hP hS hl =>
  va_iald X.1 X.2.1 X.2.2.2.2.2.1 (x_one hP hr hv hsk) 0 0 rfl rfl hin hdg (kk H locs ls hP hS hl)
theorem a_zald (X : Cx p s m args meth c cc nL ret own D tc aK aV A Rs) (r : Nat) {id n : Nat} {i : Int32} {sh : List XK} {ad : Nat → Nat} {v : XM} (hr : Rs[r]? = some (sh, ad)) (hv : vs[r]? = some v) (hsk : sh[id]? = some (.inr (2, n))) (hin : vp_in i n) (hdg : decode cc pc = .ok (.baload, 1))
    (kk : bW p l e R s m args below meth c D tc A nL Rs kc ks Q (pc + 1) lo (.int (x_ga v id i) :: st) vs) : bW p l e R s m args below meth c D tc A nL Rs kc ks Q pc lo (.int i :: .ref (ad id) :: st) vs := fun H locs ls hP hS hl =>
  va_zald X.1 X.2.1 X.2.2.2.2.2.1 (x_one hP hr hv hsk) 0 2 rfl rfl hin hdg (kk H locs ls hP hS hl)
theorem a_lald (X : Cx p s m args meth c cc nL ret own D tc aK aV A Rs) (r : Nat) {id n : Nat} {i : Int32} {sh : List XK} {ad : Nat → Nat} {v : XM} (hr : Rs[r]? = some (sh, ad)) (hv : vs[r]? = some v) (hsk : sh[id]? = some (.inr (1, n))) (hin : vp_in i n) (hdg : decode cc pc = .ok (.laload, 1))
    (kk : bW p l e R s m args below meth c D tc A nL Rs kc ks Q (pc + 1) lo (.long (x_gl v id i) :: st) vs) : bW p l e R s m args below meth c D tc A nL Rs kc ks Q pc lo (.int i :: .ref (ad id) :: st) vs := fun H locs ls hP hS hl =>
  va_lald X.1 X.2.1 X.2.2.2.2.2.1 (x_one hP hr hv hsk) 0 1 rfl rfl hin hdg (kk H locs ls hP hS hl)
theorem a_aald (X : Cx p s m args meth c cc nL ret own D tc aK aV A Rs) (r : Nat) {id n o : Nat} {i : Int32} {sh : List XK} {ad : Nat → Nat} {v : XM} (hr : Rs[r]? = some (sh, ad)) (hv : vs[r]? = some v) (hsk : sh[id]? = some (.inr (o + 3, n))) (hin : vp_in i n) (ho : o < 100) (hdg : decode cc pc = .ok (.aaload, 1))
    (kk : bW p l e R s m args below meth c D tc A nL Rs kc ks Q (pc + 1) lo (.ref (ad (id + 1 + o * i.toNatClampNeg)) :: st) vs) : bW p l e R s m args below meth c D tc A nL Rs kc ks Q pc lo (.int i :: .ref (ad id) :: st) vs := fun H locs ls hP hS hl => by
  refine va_aldq X.1 X.2.1 X.2.2.2.2.2.1 (x_one hP hr hv hsk) 0 3 rfl rfl hin hdg ?_
  have hlt : i.toNatClampNeg < n := Nat.not_le.mp fun q => hin (Or.inr q)
  show W _ _ _ _ _ _ _ _ _ _ _ _ _ _ _ (F0 m (pc + 1) ls (va_rf (if i.toNatClampNeg + o / 100 < n then some (ad (id + 1 + o % 100 * i.toNatClampNeg)) else none) :: st))
  rw [Nat.div_eq_of_lt ho, Nat.mod_eq_of_lt ho, if_pos (by omega)]
  exact kk H locs ls hP hS hl
theorem a_iast (X : Cx p s m args meth c cc nL ret own D tc aK aV A Rs) (r : Nat) {id n : Nat} {i x : Int32} {sh : List XK} {ad : Nat → Nat} {v : XM} (hr : Rs[r]? = some (sh, ad)) (hv : vs[r]? = some v) (hsk : sh[id]? = some (.inr (0, n))) (hin : vp_in i n) (hdg : decode cc pc = .ok (.iastore, 1))
    (kk : bW p l e R s m args below meth c D tc A nL Rs kc ks Q (pc + 1) lo st (vs.set r (x_pa v id i x))) : bW p l e R s m args below meth c D tc A nL Rs kc ks Q pc lo (.int x :: .int i :: .ref (ad id) :: st) vs := fun H locs ls hP hS hl => by
  obtain ⟨hx, hb, -, hown, hts, hK, hJ, hA, -⟩ := X
  have ha := hP r (sh, ad) v id _ hr hv hsk
  refine W.iast hx hb ha ((hK.2 0 _ rfl).1 n (fun j => .int (v.1 id j))) (fun q => by cases q) (by show ¬ (i < 0 ∨ (arrV _ _ _).slots.size ≤ _); rw [arrV_size]; exact hin) rfl rfl hdg fun H1 e z oq => ?_
  refine kk H1 _ ls (hP.set hJ hr hv hsk ?_ oq x_si_off) (hS.put z oq (hA r (sh, ad) id hr (List.getElem?_eq_some_iff.mp hsk).1)) hl
  show H1[ad id]? = some (vp_cell _ _)
  rw [e]
  show some ((arrV (tc 0) n (fun j => .int (v.1 id j))).setSlot _ _) = _
  rw [arrV_store]
  show _ = some (arrV (tc 0) n (fun j => .int ((x_pa v id i x).1 id j)))
  congr 2
  funext q
  by_cases hq : q = i.toNatClampNeg
  · subst hq
    simp [updV, x_pa, x_si]
  · simp [updV, x_pa, x_si, hq]
theorem a_last (X : Cx p s m args meth c cc nL ret own D tc aK aV A Rs) (r : Nat) {id n : Nat} {i : Int32} {x : Int64} {sh : List XK} {ad : Nat → Nat} {v : XM} (hr : Rs[r]? = some (sh, ad)) (hv : vs[r]? = some v) (hsk : sh[id]? = some (.inr (1, n))) (hin : vp_in i n) (hdg : decode cc pc = .ok (.lastore, 1))
    (kk : bW p l e R s m args below meth c D tc A nL Rs kc ks Q (pc + 1) lo st (vs.set r (x_pl v id i x))) : bW p l e R s m args below meth c D tc A nL Rs kc ks Q pc lo (.long x :: .int i :: .ref (ad id) :: st) vs := fun H locs ls hP hS hl => by
  obtain ⟨hx, hb, -, hown, hts, hK, hJ, hA, -⟩ := X
  have ha := hP r (sh, ad) v id _ hr hv hsk
  refine W.last hx hb ha ((hK.2 1 _ rfl).1 n (fun j => .long (v.2 id j))) (fun q => by cases q) (by show ¬ (i < 0 ∨ (arrV _ _ _).slots.size ≤ _); rw [arrV_size]; exact hin) rfl rfl hdg fun H1 e z oq => ?_
  refine kk H1 _ ls (hP.set hJ hr hv hsk ?_ oq x_sl_off) (hS.put z oq (hA r (sh, ad) id hr (List.getElem?_eq_some_iff.mp hsk).1)) hl
  show H1[ad id]? = some (vp_cell _ _)
  rw [e]
  show some ((arrV (tc 1) n (fun j => .long (v.2 id j))).setSlot _ _) = _
  rw [arrV_store]
  show _ = some (arrV (tc 1) n (fun j => .long ((x_pl v id i x).2 id j)))
  congr 2
  funext q
  by_cases hq : q = i.toNatClampNeg
  · subst hq
    simp [updV, x_pl, x_sl]
  · simp [updV, x_pl, x_sl, hq]
theorem a_zast (X : Cx p s m args meth c cc nL ret own D tc aK aV A Rs) (r : Nat) {id n : Nat} {i x : Int32} {sh : List XK} {ad : Nat → Nat} {v : XM} (hz : x_Z x) (hr : Rs[r]? = some (sh, ad)) (hv : vs[r]? = some v) (hsk : sh[id]? = some (.inr (2, n))) (hin : vp_in i n) (hdg : decode cc pc = .ok (.bastore, 1))
    (kk : bW p l e R s m args below meth c D tc A nL Rs kc ks Q (pc + 1) lo st (vs.set r (x_pa v id i x))) : bW p l e R s m args below meth c D tc A nL Rs kc ks Q pc lo (.int x :: .int i :: .ref (ad id) :: st) vs := fun H locs ls hP hS hl => by
  obtain ⟨hx, hb, -, hown, hts, hK, hJ, hA, -⟩ := X
  have ha := hP r (sh, ad) v id _ hr hv hsk
  refine W.zast hx hb ha ((hK.2 2 _ rfl).1 n (fun j => .int (v.1 id j))) (fun q => by cases q) (by show ¬ (i < 0 ∨ (arrV _ _ _).slots.size ≤ _); rw [arrV_size]; exact hin) rfl rfl hdg fun H1 e z oq => ?_
  refine kk H1 _ ls (hP.set hJ hr hv hsk ?_ oq x_si_off) (hS.put z oq (hA r (sh, ad) id hr (List.getElem?_eq_some_iff.mp hsk).1)) hl
  show H1[ad id]? = some (vp_cell _ _)
  rw [e, hz.nar]
  show some ((arrV (tc 2) n (fun j => .int (v.1 id j))).setSlot _ _) = _
  rw [arrV_store]
  show _ = some (arrV (tc 2) n (fun j => .int ((x_pa v id i x).1 id j)))
  congr 2
  funext q
  by_cases hq : q = i.toNatClampNeg
  · subst hq
    simp [updV, x_pa, x_si]
  · simp [updV, x_pa, x_si, hq]
-- the ends of a method
theorem a_iret (X : Cx p s m args meth c cc nL (some .int) own D tc aK aV A Rs) {v : Int32} (hz : zp) (hdg : decode cc pc = .ok (.ireturn, 1)) : bW p l e R s m args below meth c D tc A nL Rs kc ks (MQ below (x_Q (some (.int v)) zp D tc Rs vs A) args s kc ks A) pc lo [.int v] vs := fun H locs ls hP hS hl => by
  obtain ⟨hx, hb, -, -, -, -, -, -, -, -, hr, hlocks⟩ := X
  exact W.iret hx hb hr (fun t ht hW => ⟨rfl, hz, by rw [ht]; exact hP, hS.F ht⟩) hS.2.2 hdg hlocks
theorem a_zret (X : Cx p s m args meth c cc nL (some .boolean) own D tc aK aV A Rs) {v : Int32} (hv : x_Z v) (hz : zp) (hdg : decode cc pc = .ok (.ireturn, 1)) : bW p l e R s m args below meth c D tc A nL Rs kc ks (MQ below (x_Q (some (.int v)) zp D tc Rs vs A) args s kc ks A) pc lo [.int v] vs := fun H locs ls hP hS hl => by
  obtain ⟨hx, hb, -, -, -, -, -, -, -, -, hr, hlocks⟩ := X
  exact W.zret hx hb hr hv.nar (fun t ht hW => ⟨rfl, hz, by rw [ht]; exact hP, hS.F ht⟩) hS.2.2 hdg hlocks
theorem a_lret (X : Cx p s m args meth c cc nL (some .long) own D tc aK aV A Rs) {v : Int64} (hz : zp) (hdg : decode cc pc = .ok (.lreturn, 1)) : bW p l e R s m args below meth c D tc A nL Rs kc ks (MQ below (x_Q (some (.long v)) zp D tc Rs vs A) args s kc ks A) pc lo [.long v] vs := fun H locs ls hP hS hl => by
  obtain ⟨hx, hb, -, -, -, -, -, -, -, -, hr, hlocks⟩ := X
  exact W.lret hx hb hr (fun t ht hW => ⟨rfl, hz, by rw [ht]; exact hP, hS.F ht⟩) hS.2.2 hdg hlocks
theorem a_vret (X : Cx p s m args meth c cc nL none own D tc aK aV A Rs) (hz : zp) (hdg : decode cc pc = .ok (.return_, 1)) : bW p l e R s m args below meth c D tc A nL Rs kc ks (MQ below (x_Q none zp D tc Rs vs A) args s kc ks A) pc lo [] vs := fun H locs ls hP hS hl => by
  obtain ⟨hx, hb, -, -, -, -, -, -, -, -, hr, hlocks⟩ := X
  exact W.vret hx hb hr (fun t ht hW => ⟨rfl, hz, by rw [ht]; exact hP, hS.F ht⟩) hS.2.2 hdg hlocks
theorem a_aret {C : String} (X : Cx p s m args meth c cc nL (some (.object C)) own D tc aK aV A Rs) {v : Value} (hv : v = .null ∨ ∃ a, v = .ref a) (hz : zp) (hdg : decode cc pc = .ok (.areturn, 1)) : bW p l e R s m args below meth c D tc A nL Rs kc ks (MQ below (x_Q (some v) zp D tc Rs vs A) args s kc ks A) pc lo [v] vs := fun H locs ls hP hS hl => by
  obtain ⟨hx, hb, -, -, -, -, -, -, -, -, hr, hlocks⟩ := X
  exact W.aret hx hb hr (Or.inl ⟨_, rfl⟩) hv (fun t ht hW => ⟨rfl, hz, by rw [ht]; exact hP, hS.F ht⟩) hS.2.2 hdg hlocks
-- naming what stands on the stack, and a memory
theorem a_ni {x y : Int32} (h : x = y) (k : bW p l e R s m args below meth c D tc A nL Rs kc ks Q pc lo (.int y :: st) vs) : bW p l e R s m args below meth c D tc A nL Rs kc ks Q pc lo (.int x :: st) vs := h ▸ k
theorem a_nl {x y : Int64} (h : x = y) (k : bW p l e R s m args below meth c D tc A nL Rs kc ks Q pc lo (.long y :: st) vs) : bW p l e R s m args below meth c D tc A nL Rs kc ks Q pc lo (.long x :: st) vs := h ▸ k
theorem a_nm {vs2 : List XM} (h : vs = vs2) (k : bW p l e R s m args below meth c D tc A nL Rs kc ks Q pc lo st vs2) : bW p l e R s m args below meth c D tc A nL Rs kc ks Q pc lo st vs := h ▸ k
end XHEAP
theorem CT_of {l : Launch} {y : MethodName} {cc : ByteArray} {maxL : Nat} {ret : Option FieldType} {d : Nat} {Rs : List XR} {vs : List XM} {av : (Nat → Nat) → List Value} {rv : Option Value} {zp : Prop} {vo : List XM} (hcls : plainName y.cls = true) (hlen : ∀ aK, (lg_sl (av aK)).length ≤ maxL)
    (body : ∀ (p : Program) (e : Env) (s : State) (m : MethodId) (args : Array Value) (below : List Frame) (meth : Method) (c : Code) (D : va_G) (tc : Nat → ClassId) (aK aV : Nat → Nat) (A : Nat → Prop), Cx p s m args meth c cc maxL ret y.cls D tc aK aV A Rs → aW p l e (x_Rm d) s m args below meth c D tc A maxL Rs rv zp vo 0 (lv_args 0 (av aK)) [] vs) :
    CT l y cc maxL ret d Rs vs av rv zp vo := by
  intro D tc aK aV sz
  refine Met.ofW (cc := cc) (maxL := maxL) (ret := ret) hcls rfl ?_
  intro p e s m args below meth c s₁ B hml hv
  obtain ⟨rfl, hsz, hP, hK, hJ, hSt⟩ := hv
  have hts := atoms_spec (ws := .code y cc maxL ret :: x_TB) B.pre
  subst hsz
  have hl := lv_entry (av aK) (n := maxL) (hlen aK)
  rw [lg_entry_eq]
  exact body p e s m (av aK).toArray below meth c D tc aK aV (x_Ad Rs s.heap.size) ⟨B.exec, B.bytes, hml, findClass_of_methodNamed B.named, fun w hw => hts w (List.mem_cons_of_mem _ hw), hK, hJ, fun r x i h1 h2 => Or.inl ⟨r, x, i, h1, h2, rfl⟩, fun q h => Or.inr h, hSt, B.returns, B.notSynchronized⟩ s.heap [] _ hP va_S.rf hl
