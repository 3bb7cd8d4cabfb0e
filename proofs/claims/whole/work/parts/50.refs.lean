-- References that are chosen: null, the States that are kept, the images.
section XREFS
variable {p : Program} {l : Launch} {e : Env} {R : Room} {s : State} {m : MethodId} {args : Array Value} {below : List Frame} {meth : Method} {c : Code} {cc : ByteArray} {nL : Nat} {ret : Option FieldType} {own : String} {D : va_G} {tc : Nat → ClassId} {aK aV : Nat → Nat} {A : Nat → Prop} {Rs : List XR} {kc ks : Nat} {Q : State → Prop} {pc : Nat} {lo : List (Nat × Value)} {st : List Value} {vs : List XM}
theorem a_null (X : Cx p s m args meth c cc nL ret own D tc aK aV A Rs) (hdg : decode cc pc = .ok (.aconst_null, 1)) (k : bW p l e R s m args below meth c D tc A nL Rs kc ks Q (pc + 1) lo (.null :: st) vs) : bW p l e R s m args below meth c D tc A nL Rs kc ks Q pc lo st vs :=
  fun H locs ls hP hS hl => lv_null X.1 X.2.1 hdg (k H locs ls hP hS hl)
theorem a_aload_nN (X : Cx p s m args meth c cc nL ret own D tc aK aV A Rs) (j : Nat) {kk : Fin 4} {i : Nat} (hdg : decode cc pc = .ok (.aload_n kk, 1)) (hi : (kk : Nat) = i) (hj : lo[j]? = some (i, .null)) (k : bW p l e R s m args below meth c D tc A nL Rs kc ks Q (pc + 1) lo (.null :: st) vs) : bW p l e R s m args below meth c D tc A nL Rs kc ks Q pc lo st vs :=
  fun H locs ls hP hS hl => lv_aload_nN X.1 X.2.1 hdg hi (lv_at hl j hj) (k H locs ls hP hS hl)
theorem a_astore_nN (X : Cx p s m args meth c cc nL ret own D tc aK aV A Rs) {kk : Fin 4} {i : Nat} (lo2 : List (Nat × Value)) (hdg : decode cc pc = .ok (.astore_n kk, 1)) (hi : (kk : Nat) = i) (hn : i < nL) (hl2 : (i, Value.null) :: lo.filter (fun q => !(q.1 == i) && !(q.1 + 1 == i && q.2.category == 2)) = lo2) (k : bW p l e R s m args below meth c D tc A nL Rs kc ks Q (pc + 1) lo2 st vs) : bW p l e R s m args below meth c D tc A nL Rs kc ks Q pc lo (.null :: st) vs :=
  fun H locs ls hP hS hl => lv_astore_nN X.1 X.2.1 hdg hi hl hn hl2 (fun ls hl => k H locs ls hP hS hl)
theorem a_ifnonnull (X : Cx p s m args meth c cc nL ret own D tc aK aV A Rs) {x : Nat} {off : Int} (tgt : Nat) (hdg : decode cc pc = .ok (.ifnonnull off, 3)) (ht : (pc : Int) + off = (tgt : Int)) (k : bW p l e R s m args below meth c D tc A nL Rs kc ks Q tgt lo st vs) : bW p l e R s m args below meth c D tc A nL Rs kc ks Q pc lo (.ref x :: st) vs :=
  fun H locs ls hP hS hl => lv_ifnonnull X.1 X.2.1 hdg ht (k H locs ls hP hS hl)
theorem a_ifnonnullN (X : Cx p s m args meth c cc nL ret own D tc aK aV A Rs) {off : Int} (hdg : decode cc pc = .ok (.ifnonnull off, 3)) (k : bW p l e R s m args below meth c D tc A nL Rs kc ks Q (pc + 3) lo st vs) : bW p l e R s m args below meth c D tc A nL Rs kc ks Q pc lo (.null :: st) vs :=
  fun H locs ls hP hS hl => lv_ifnonnullN X.1 X.2.1 hdg (k H locs ls hP hS hl)
theorem a_ifnull (X : Cx p s m args meth c cc nL ret own D tc aK aV A Rs) {x : Nat} {off : Int} (hdg : decode cc pc = .ok (.ifnull off, 3)) (k : bW p l e R s m args below meth c D tc A nL Rs kc ks Q (pc + 3) lo st vs) : bW p l e R s m args below meth c D tc A nL Rs kc ks Q pc lo (.ref x :: st) vs :=
  fun H locs ls hP hS hl => lv_ifnull X.1 X.2.1 hdg (k H locs ls hP hS hl)
theorem a_ifnullN (X : Cx p s m args meth c cc nL ret own D tc aK aV A Rs) {off : Int} (tgt : Nat) (hdg : decode cc pc = .ok (.ifnull off, 3)) (ht : (pc : Int) + off = (tgt : Int)) (k : bW p l e R s m args below meth c D tc A nL Rs kc ks Q tgt lo st vs) : bW p l e R s m args below meth c D tc A nL Rs kc ks Q pc lo (.null :: st) vs :=
  fun H locs ls hP hS hl => lv_ifnullN X.1 X.2.1 hdg ht (k H locs ls hP hS hl)
end XREFS
theorem dX1_placeAt_0 : decode cX1_placeAt 0 = .ok (.iload_n 1, 1) := by decide +kernel
theorem dX1_placeAt_1 : decode cX1_placeAt 1 = .ok (.ifCond .lt 21, 3) := by decide +kernel
theorem dX1_placeAt_4 : decode cX1_placeAt 4 = .ok (.iload_n 1, 1) := by decide +kernel
theorem dX1_placeAt_5 : decode cX1_placeAt 5 = .ok (.aload_n 0, 1) := by decide +kernel
theorem dX1_placeAt_6 : decode cX1_placeAt 6 = .ok (.getfield 11, 3) := by decide +kernel
theorem dX1_placeAt_9 : decode cX1_placeAt 9 = .ok (.arraylength, 1) := by decide +kernel
theorem dX1_placeAt_10 : decode cX1_placeAt 10 = .ok (.if_icmp .ge 12, 3) := by decide +kernel
theorem dX1_placeAt_13 : decode cX1_placeAt 13 = .ok (.aload_n 0, 1) := by decide +kernel
theorem dX1_placeAt_14 : decode cX1_placeAt 14 = .ok (.getfield 11, 3) := by decide +kernel
theorem dX1_placeAt_17 : decode cX1_placeAt 17 = .ok (.iload_n 1, 1) := by decide +kernel
theorem dX1_placeAt_18 : decode cX1_placeAt 18 = .ok (.aaload, 1) := by decide +kernel
theorem dX1_placeAt_19 : decode cX1_placeAt 19 = .ok (.goto 4, 3) := by decide +kernel
theorem dX1_placeAt_22 : decode cX1_placeAt 22 = .ok (.aconst_null, 1) := by decide +kernel
theorem dX1_placeAt_23 : decode cX1_placeAt 23 = .ok (.areturn, 1) := by decide +kernel
theorem dX11_imagePlace_0 : decode cX11_imagePlace 0 = .ok (.iload_n 1, 1) := by decide +kernel
theorem dX11_imagePlace_1 : decode cX11_imagePlace 1 = .ok (.lookupswitch 37 #[(0, 27), (1, 32)], 27) := by decide +kernel
theorem dX11_imagePlace_28 : decode cX11_imagePlace 28 = .ok (.aload_n 0, 1) := by decide +kernel
theorem dX11_imagePlace_29 : decode cX11_imagePlace 29 = .ok (.getfield 23, 3) := by decide +kernel
theorem dX11_imagePlace_32 : decode cX11_imagePlace 32 = .ok (.areturn, 1) := by decide +kernel
theorem dX11_imagePlace_33 : decode cX11_imagePlace 33 = .ok (.aload_n 0, 1) := by decide +kernel
theorem dX11_imagePlace_34 : decode cX11_imagePlace 34 = .ok (.getfield 26, 3) := by decide +kernel
theorem dX11_imagePlace_37 : decode cX11_imagePlace 37 = .ok (.areturn, 1) := by decide +kernel
theorem dX11_imagePlace_38 : decode cX11_imagePlace 38 = .ok (.aconst_null, 1) := by decide +kernel
theorem dX11_imagePlace_39 : decode cX11_imagePlace 39 = .ok (.areturn, 1) := by decide +kernel
set_option maxRecDepth 100000 in
set_option maxHeartbeats 4000000 in
theorem c_placeAt_in {l : Launch} {ad0 : Nat → Nat} {v0 : XM} {i : Int32} (h : 0 ≤ i.toInt ∧ i.toInt < (8 : Nat)) : CT l yX1_placeAt cX1_placeAt 2 (some (.object "FoldRoads$State")) 0 [(shHistory, ad0)] [v0] (fun aK => [.ref (ad0 0), .int i]) (some (.ref (ad0 (1 + 1 + 15 * i.toNatClampNeg)))) True [v0] := by
  refine CT_of (by decide) (fun _ => Nat.le_of_ble_eq_true rfl) ?_
  intro p e s m args below meth c D tc aK aV A X
  have X : Cx p s m args meth c cX1_placeAt 2 (some (.object "FoldRoads$State")) RX1 D tc aK aV A [(shHistory, ad0)] := X
  show aW p l e (x_Rm 0) s m args below meth c D tc A 2 [(shHistory, ad0)] (some (.ref (ad0 (1 + 1 + 15 * i.toNatClampNeg)))) True [v0] 0 [(0, .ref (ad0 0)), (1, .int i)] [] [v0]
  refine a_iload_n (pc := 0) X 1 dX1_placeAt_0 rfl rfl ?_
  refine a_if_lt (pc := 1) X 22 dX1_placeAt_1 rfl (fun q => absurd ((i_lt0 i).mp q) (by omega)) (fun _ => ?_)
  refine a_iload_n (pc := 4) X 1 dX1_placeAt_4 rfl rfl ?_
  refine a_aload_n (pc := 5) X 0 dX1_placeAt_5 rfl rfl ?_
  refine a_getR (pc := 6) X 0 1 1 fl_RX1_11 rfl rfl rfl rfl rfl dX1_placeAt_6 ?_
  refine a_alenR (pc := 9) (x := 8) X 0 rfl rfl rfl (by decide) dX1_placeAt_9 ?_
  refine a_icmp_ge (pc := 10) X 22 dX1_placeAt_10 rfl (fun q => absurd ((i_len (n := 8) (by decide) i).mp q) (by omega)) (fun _ => ?_)
  refine a_aload_n (pc := 13) X 0 dX1_placeAt_13 rfl rfl ?_
  refine a_getR (pc := 14) X 0 1 1 fl_RX1_11 rfl rfl rfl rfl rfl dX1_placeAt_14 ?_
  refine a_iload_n (pc := 17) X 1 dX1_placeAt_17 rfl rfl ?_
  refine a_aald (pc := 18) X 0 rfl rfl rfl (vp_in_iff.mpr h) (by decide) dX1_placeAt_18 ?_
  refine a_goto (pc := 19) X 23 dX1_placeAt_19 rfl ?_
  exact a_aret (pc := 23) X (Or.inr ⟨_, rfl⟩) trivial dX1_placeAt_23
set_option maxRecDepth 100000 in
set_option maxHeartbeats 4000000 in
theorem c_placeAt_out {l : Launch} {ad0 : Nat → Nat} {v0 : XM} {i : Int32} (h : ¬ (0 ≤ i.toInt ∧ i.toInt < (8 : Nat))) : CT l yX1_placeAt cX1_placeAt 2 (some (.object "FoldRoads$State")) 0 [(shHistory, ad0)] [v0] (fun aK => [.ref (ad0 0), .int i]) (some .null) True [v0] := by
  refine CT_of (by decide) (fun _ => Nat.le_of_ble_eq_true rfl) ?_
  intro p e s m args below meth c D tc aK aV A X
  have X : Cx p s m args meth c cX1_placeAt 2 (some (.object "FoldRoads$State")) RX1 D tc aK aV A [(shHistory, ad0)] := X
  show aW p l e (x_Rm 0) s m args below meth c D tc A 2 [(shHistory, ad0)] (some .null) True [v0] 0 [(0, .ref (ad0 0)), (1, .int i)] [] [v0]
  refine a_iload_n (pc := 0) X 1 dX1_placeAt_0 rfl rfl ?_
  refine a_if_lt (pc := 1) X 22 dX1_placeAt_1 rfl (fun _ => ?_) (fun q => ?_)
  · refine a_null (pc := 22) X dX1_placeAt_22 ?_
    exact a_aret (pc := 23) X (Or.inl rfl) trivial dX1_placeAt_23
  refine a_iload_n (pc := 4) X 1 dX1_placeAt_4 rfl rfl ?_
  refine a_aload_n (pc := 5) X 0 dX1_placeAt_5 rfl rfl ?_
  refine a_getR (pc := 6) X 0 1 1 fl_RX1_11 rfl rfl rfl rfl rfl dX1_placeAt_6 ?_
  refine a_alenR (pc := 9) (x := 8) X 0 rfl rfl rfl (by decide) dX1_placeAt_9 ?_
  refine a_icmp_ge (pc := 10) X 22 dX1_placeAt_10 rfl (fun _ => ?_) (fun q2 => absurd ⟨by rw [i_lt0] at q; omega, by have := mt (i_len (n := 8) (by decide) i).mpr q2; omega⟩ h)
  refine a_null (pc := 22) X dX1_placeAt_22 ?_
  exact a_aret (pc := 23) X (Or.inl rfl) trivial dX1_placeAt_23
theorem c_X1_placeAt_0 {l : Launch} {ad0 : Nat → Nat} {v0 : XM} : CT l yX1_placeAt cX1_placeAt 2 (some (.object "FoldRoads$State")) 0 [(shHistory, ad0)] [v0] (fun aK => [.ref (ad0 0), .int (0 : Int32)]) (some (.ref (ad0 2))) True [v0] := by
  have h := c_placeAt_in (l := l) (ad0 := ad0) (v0 := v0) (i := (0 : Int32)) (by decide)
  rwa [show 1 + 1 + 15 * (0 : Int32).toNatClampNeg = 2 from by decide] at h
theorem c_X1_placeAt_1 {l : Launch} {ad0 : Nat → Nat} {v0 : XM} : CT l yX1_placeAt cX1_placeAt 2 (some (.object "FoldRoads$State")) 0 [(shHistory, ad0)] [v0] (fun aK => [.ref (ad0 0), .int (1 : Int32)]) (some (.ref (ad0 17))) True [v0] := by
  have h := c_placeAt_in (l := l) (ad0 := ad0) (v0 := v0) (i := (1 : Int32)) (by decide)
  rwa [show 1 + 1 + 15 * (1 : Int32).toNatClampNeg = 17 from by decide] at h
theorem c_X1_placeAt_2 {l : Launch} {ad0 : Nat → Nat} {v0 : XM} : CT l yX1_placeAt cX1_placeAt 2 (some (.object "FoldRoads$State")) 0 [(shHistory, ad0)] [v0] (fun aK => [.ref (ad0 0), .int (2 : Int32)]) (some (.ref (ad0 32))) True [v0] := by
  have h := c_placeAt_in (l := l) (ad0 := ad0) (v0 := v0) (i := (2 : Int32)) (by decide)
  rwa [show 1 + 1 + 15 * (2 : Int32).toNatClampNeg = 32 from by decide] at h
theorem c_X1_placeAt_3 {l : Launch} {ad0 : Nat → Nat} {v0 : XM} : CT l yX1_placeAt cX1_placeAt 2 (some (.object "FoldRoads$State")) 0 [(shHistory, ad0)] [v0] (fun aK => [.ref (ad0 0), .int (3 : Int32)]) (some (.ref (ad0 47))) True [v0] := by
  have h := c_placeAt_in (l := l) (ad0 := ad0) (v0 := v0) (i := (3 : Int32)) (by decide)
  rwa [show 1 + 1 + 15 * (3 : Int32).toNatClampNeg = 47 from by decide] at h
theorem c_X1_placeAt_4 {l : Launch} {ad0 : Nat → Nat} {v0 : XM} : CT l yX1_placeAt cX1_placeAt 2 (some (.object "FoldRoads$State")) 0 [(shHistory, ad0)] [v0] (fun aK => [.ref (ad0 0), .int (4 : Int32)]) (some (.ref (ad0 62))) True [v0] := by
  have h := c_placeAt_in (l := l) (ad0 := ad0) (v0 := v0) (i := (4 : Int32)) (by decide)
  rwa [show 1 + 1 + 15 * (4 : Int32).toNatClampNeg = 62 from by decide] at h
theorem c_X1_placeAt_5 {l : Launch} {ad0 : Nat → Nat} {v0 : XM} : CT l yX1_placeAt cX1_placeAt 2 (some (.object "FoldRoads$State")) 0 [(shHistory, ad0)] [v0] (fun aK => [.ref (ad0 0), .int (5 : Int32)]) (some (.ref (ad0 77))) True [v0] := by
  have h := c_placeAt_in (l := l) (ad0 := ad0) (v0 := v0) (i := (5 : Int32)) (by decide)
  rwa [show 1 + 1 + 15 * (5 : Int32).toNatClampNeg = 77 from by decide] at h
theorem c_X1_placeAt_6 {l : Launch} {ad0 : Nat → Nat} {v0 : XM} : CT l yX1_placeAt cX1_placeAt 2 (some (.object "FoldRoads$State")) 0 [(shHistory, ad0)] [v0] (fun aK => [.ref (ad0 0), .int (6 : Int32)]) (some (.ref (ad0 92))) True [v0] := by
  have h := c_placeAt_in (l := l) (ad0 := ad0) (v0 := v0) (i := (6 : Int32)) (by decide)
  rwa [show 1 + 1 + 15 * (6 : Int32).toNatClampNeg = 92 from by decide] at h
theorem c_X1_placeAt_7 {l : Launch} {ad0 : Nat → Nat} {v0 : XM} : CT l yX1_placeAt cX1_placeAt 2 (some (.object "FoldRoads$State")) 0 [(shHistory, ad0)] [v0] (fun aK => [.ref (ad0 0), .int (7 : Int32)]) (some (.ref (ad0 107))) True [v0] := by
  have h := c_placeAt_in (l := l) (ad0 := ad0) (v0 := v0) (i := (7 : Int32)) (by decide)
  rwa [show 1 + 1 + 15 * (7 : Int32).toNatClampNeg = 107 from by decide] at h
theorem c_X1_placeAt_N {l : Launch} {ad0 : Nat → Nat} {v0 : XM} {i : Int32} (h0 : ¬ i = (0 : Int32)) (h1 : ¬ i = (1 : Int32)) (h2 : ¬ i = (2 : Int32)) (h3 : ¬ i = (3 : Int32)) (h4 : ¬ i = (4 : Int32)) (h5 : ¬ i = (5 : Int32)) (h6 : ¬ i = (6 : Int32)) (h7 : ¬ i = (7 : Int32)) : CT l yX1_placeAt cX1_placeAt 2 (some (.object "FoldRoads$State")) 0 [(shHistory, ad0)] [v0] (fun aK => [.ref (ad0 0), .int i]) (some .null) True [v0] := by
  refine c_placeAt_out (fun q => ?_)
  have q0 : i.toInt ≠ 0 := x_ne h0
  have q1 : i.toInt ≠ 1 := x_ne h1
  have q2 : i.toInt ≠ 2 := x_ne h2
  have q3 : i.toInt ≠ 3 := x_ne h3
  have q4 : i.toInt ≠ 4 := x_ne h4
  have q5 : i.toInt ≠ 5 := x_ne h5
  have q6 : i.toInt ≠ 6 := x_ne h6
  have q7 : i.toInt ≠ 7 := x_ne h7
  omega
set_option maxRecDepth 100000 in
set_option maxHeartbeats 4000000 in
theorem c_X11_imagePlace_0 {l : Launch} {ad0 : Nat → Nat} {v0 : XM} : CT l yX11_imagePlace cX11_imagePlace 2 (some (.object "FoldRoads$World")) 0 [(shFoldRoads, ad0)] [v0] (fun aK => [.ref (ad0 0), .int (0 : Int32)]) (some (.ref (ad0 46))) True [v0] := by
  refine CT_of (by decide) (fun _ => Nat.le_of_ble_eq_true rfl) ?_
  intro p e s m args below meth c D tc aK aV A X
  have X : Cx p s m args meth c cX11_imagePlace 2 (some (.object "FoldRoads$World")) RX11 D tc aK aV A [(shFoldRoads, ad0)] := X
  show aW p l e (x_Rm 0) s m args below meth c D tc A 2 [(shFoldRoads, ad0)] (some (.ref (ad0 46))) True [v0] 0 [(0, .ref (ad0 0)), (1, .int (0 : Int32))] [] [v0]
  refine a_iload_n (pc := 0) X 1 dX11_imagePlace_0 rfl rfl ?_
  refine a_lookup (pc := 1) (off := 27) X 28 dX11_imagePlace_1 (by decide) rfl rfl ?_
  refine a_aload_n (pc := 28) X 0 dX11_imagePlace_28 rfl rfl ?_
  refine a_getR (pc := 29) X 0 46 46 fl_RX11_23 rfl rfl rfl rfl rfl dX11_imagePlace_29 ?_
  exact a_aret (pc := 32) X (Or.inr ⟨_, rfl⟩) trivial dX11_imagePlace_32
set_option maxRecDepth 100000 in
set_option maxHeartbeats 4000000 in
theorem c_X11_imagePlace_1 {l : Launch} {ad0 : Nat → Nat} {v0 : XM} : CT l yX11_imagePlace cX11_imagePlace 2 (some (.object "FoldRoads$World")) 0 [(shFoldRoads, ad0)] [v0] (fun aK => [.ref (ad0 0), .int (1 : Int32)]) (some (.ref (ad0 87))) True [v0] := by
  refine CT_of (by decide) (fun _ => Nat.le_of_ble_eq_true rfl) ?_
  intro p e s m args below meth c D tc aK aV A X
  have X : Cx p s m args meth c cX11_imagePlace 2 (some (.object "FoldRoads$World")) RX11 D tc aK aV A [(shFoldRoads, ad0)] := X
  show aW p l e (x_Rm 0) s m args below meth c D tc A 2 [(shFoldRoads, ad0)] (some (.ref (ad0 87))) True [v0] 0 [(0, .ref (ad0 0)), (1, .int (1 : Int32))] [] [v0]
  refine a_iload_n (pc := 0) X 1 dX11_imagePlace_0 rfl rfl ?_
  refine a_lookup (pc := 1) (off := 32) X 33 dX11_imagePlace_1 (by decide) rfl rfl ?_
  refine a_aload_n (pc := 33) X 0 dX11_imagePlace_33 rfl rfl ?_
  refine a_getR (pc := 34) X 0 87 87 fl_RX11_26 rfl rfl rfl rfl rfl dX11_imagePlace_34 ?_
  exact a_aret (pc := 37) X (Or.inr ⟨_, rfl⟩) trivial dX11_imagePlace_37
set_option maxRecDepth 100000 in
set_option maxHeartbeats 4000000 in
theorem c_X11_imagePlace_N {l : Launch} {ad0 : Nat → Nat} {v0 : XM} {i : Int32} (h0 : ¬ i = (0 : Int32)) (h1 : ¬ i = (1 : Int32)) : CT l yX11_imagePlace cX11_imagePlace 2 (some (.object "FoldRoads$World")) 0 [(shFoldRoads, ad0)] [v0] (fun aK => [.ref (ad0 0), .int i]) (some .null) True [v0] := by
  refine CT_of (by decide) (fun _ => Nat.le_of_ble_eq_true rfl) ?_
  intro p e s m args below meth c D tc aK aV A X
  have X : Cx p s m args meth c cX11_imagePlace 2 (some (.object "FoldRoads$World")) RX11 D tc aK aV A [(shFoldRoads, ad0)] := X
  show aW p l e (x_Rm 0) s m args below meth c D tc A 2 [(shFoldRoads, ad0)] (some .null) True [v0] 0 [(0, .ref (ad0 0)), (1, .int i)] [] [v0]
  refine a_iload_n (pc := 0) X 1 dX11_imagePlace_0 rfl rfl ?_
  have q0 : i.toInt ≠ 0 := x_ne h0
  have q1 : i.toInt ≠ 1 := x_ne h1
  refine a_lookup (pc := 1) (off := 37) X 38 dX11_imagePlace_1 (by decide) (by simp [Op.lookupswitch.offset, q0, q1, Ne.symm q0, Ne.symm q1]) rfl ?_
  refine a_null (pc := 38) X dX11_imagePlace_38 ?_
  exact a_aret (pc := 39) X (Or.inl rfl) trivial dX11_imagePlace_39
