-- String constants: length, charAt; written by wip/whole/strs.py.
section XSTR
variable {p : Program} {l : Launch} {e : Env} {R : Room} {s : State} {m : MethodId} {args : Array Value} {below : List Frame} {meth : Method} {c : Code} {cc : ByteArray} {nL : Nat} {ret : Option FieldType} {own : String} {D : va_G} {tc : Nat → ClassId} {aK aV : Nat → Nat} {A : Nat → Prop} {Rs : List XR} {kc ks : Nat} {Q : State → Prop} {pc : Nat} {lo : List (Nat × Value)} {st : List Value} {vs vs2 vo : List XM} {zp : Prop}
variable {y : MethodName} {cc1 : ByteArray} {maxL1 d n idx : Nat} {ret1 : Option FieldType} {av1 : (Nat → Nat) → List Value} {rv1 : Option Value} {zp1 : Prop}
theorem x_sts (X : Cx p s m args meth c cc nL ret own D tc aK aV A Rs) : x_St aK aV A s s.heap := X.2.2.2.2.2.2.2.2.2.1
theorem a_sval (X : Cx p s m args meth c cc nL ret own D tc aK aV A Rs) {k : Nat} (hk : k < 5) (hw : Cond.fieldLink own idx "java/lang/String" "value" "[B" ∈ x_TB) (hdg : decode cc pc = .ok (.getfield idx, 3)) (kk : bW p l e R s m args below meth c D tc A nL Rs kc ks Q (pc + 3) lo (.ref (aK (k + 1000)) :: st) vs) : bW p l e R s m args below meth c D tc A nL Rs kc ks Q pc lo (.ref (aK k) :: st) vs :=
  fun H locs ls hP hS hl => vk_getf X.1 X.2.1 (by have h := ((x_sts X).1.2.1.1 k hk).2.2.1; rw [(x_sts X).1.1] at h; exact h) hS X.2.2.2.1 (X.2.2.2.2.1 _ hw) (fun _ h => h) hdg (kk H locs ls hP hS hl)
theorem a_scod (X : Cx p s m args meth c cc nL ret own D tc aK aV A Rs) {k : Nat} (hk : k < 5) (hw : Cond.fieldLink own idx "java/lang/String" "coder" "B" ∈ x_TB) (hdg : decode cc pc = .ok (.getfield idx, 3)) (kk : bW p l e R s m args below meth c D tc A nL Rs kc ks Q (pc + 3) lo (.int 0 :: st) vs) : bW p l e R s m args below meth c D tc A nL Rs kc ks Q pc lo (.ref (aK k) :: st) vs :=
  fun H locs ls hP hS hl => vk_getf X.1 X.2.1 ((x_sts X).1.2.1.1 k hk).2.1 hS X.2.2.2.1 (X.2.2.2.2.1 _ hw) (fun _ h => h) hdg (kk H locs ls hP hS hl)
theorem a_scom (X : Cx p s m args meth c cc nL ret own D tc aK aV A Rs) (hw : Cond.fieldLink own idx "java/lang/String" "COMPACT_STRINGS" "Z" ∈ x_TB) (hdg : decode cc pc = .ok (.getstatic idx, 3)) (kk : bW p l e R s m args below meth c D tc A nL Rs kc ks Q (pc + 3) lo (.int 1 :: st) vs) : bW p l e R s m args below meth c D tc A nL Rs kc ks Q pc lo st vs :=
  fun H locs ls hP hS hl => va_gets X.1 X.2.1 (x_sts X).1.2.2.1 hS X.2.2.2.1 (X.2.2.2.2.1 _ hw) (fun _ h => h) hdg (kk H locs ls hP hS hl)
theorem a_sfmt (X : Cx p s m args meth c cc nL ret own D tc aK aV A Rs) (hw : Cond.fieldLink own idx "jdk/internal/util/Preconditions" "SIOOBE_FORMATTER" "Ljava/util/function/BiFunction;" ∈ x_TB) (hdg : decode cc pc = .ok (.getstatic idx, 3)) (kk : ∀ w : Value, (w = .null ∨ ∃ t, w = .ref t) → bW p l e R s m args below meth c D tc A nL Rs kc ks Q (pc + 3) lo (w :: st) vs) : bW p l e R s m args below meth c D tc A nL Rs kc ks Q pc lo st vs :=
  fun H locs ls hP hS hl => by
    rcases (x_sts X).1.2.2.2.1 with h | ⟨t, h⟩
    · exact va_gets X.1 X.2.1 h hS X.2.2.2.1 (X.2.2.2.2.1 _ hw) (fun _ h => h) hdg (kk _ (Or.inl rfl) H locs ls hP hS hl)
    · exact va_gets X.1 X.2.1 h hS X.2.2.2.1 (X.2.2.2.2.1 _ hw) (fun _ h => h) hdg (kk _ (Or.inr ⟨t, rfl⟩) H locs ls hP hS hl)
theorem a_blen (X : Cx p s m args meth c cc nL ret own D tc aK aV A Rs) {k : Nat} (hk : k < 5) (hdg : decode cc pc = .ok (.arraylength, 1)) (kk : bW p l e R s m args below meth c D tc A nL Rs kc ks Q (pc + 1) lo (.int (Int32.ofNat (x_len.getD k 0)) :: st) vs) : bW p l e R s m args below meth c D tc A nL Rs kc ks Q pc lo (.ref (aK (k + 1000)) :: st) vs :=
  fun H locs ls hP hS hl => va_tlen X.1 X.2.1 (by have h := ((x_sts X).1.2.1.1 k hk).2.2.2; rw [(x_sts X).1.1] at h; exact h) hS rfl hdg (kk H locs ls hP hS hl)
theorem a_bld (X : Cx p s m args meth c cc nL ret own D tc aK aV A Rs) {k : Nat} {i : Int32} (hk : k < 5) (hin : vp_in i (x_len.getD k 0)) (hdg : decode cc pc = .ok (.baload, 1)) (kk : bW p l e R s m args below meth c D tc A nL Rs kc ks Q (pc + 1) lo (.int ((x_byt.getD k []).getD i.toNatClampNeg 0) :: st) vs) : bW p l e R s m args below meth c D tc A nL Rs kc ks Q pc lo (.int i :: .ref (aK (k + 1000)) :: st) vs :=
  fun H locs ls hP hS hl => va_tb X.1 X.2.1 (by have h := ((x_sts X).1.2.1.1 k hk).2.2.2; rw [(x_sts X).1.1] at h; exact h) hS hin rfl hdg (kk H locs ls hP hS hl)
theorem a_i2c (X : Cx p s m args meth c cc nL ret own D tc aK aV A Rs) {x : Int32} (hdg : decode cc pc = .ok (.i2c, 1)) (kk : bW p l e R s m args below meth c D tc A nL Rs kc ks Q (pc + 1) lo (.int (x.toUInt32 % 65536).toInt32 :: st) vs) : bW p l e R s m args below meth c D tc A nL Rs kc ks Q pc lo (.int x :: st) vs :=
  fun H locs ls hP hS hl => lv_i2c X.1 X.2.1 hdg rfl (kk H locs ls hP hS hl)
theorem a_nret {ty : FieldType} (X : Cx p s m args meth c cc nL (some ty) own D tc aK aV A Rs) {v : Int32} (hn : narrow ty (.int v) = .int v) (hz : zp) (hdg : decode cc pc = .ok (.ireturn, 1)) : bW p l e R s m args below meth c D tc A nL Rs kc ks (MQ below (x_Q (some (.int v)) zp D tc Rs vs A) args s kc ks A) pc lo [.int v] vs := fun H locs ls hP hS hl => by
  obtain ⟨hx, hb, -, -, -, -, -, -, -, -, hr, hlocks⟩ := X
  exact W.zret hx hb hr hn (fun t ht hW => ⟨rfl, hz, by rw [ht]; exact hP, hS.F ht⟩) hS.2.2 hdg hlocks
theorem a_callVK (X : Cx p s m args meth c cc nL ret own D tc aK aV A Rs) {k : Nat} (hk : k < 5) (As rest : List Value) {st2 : List Value} (hc : x_cv own idx y cc1 maxL1 ret1 n) (hcls : y.cls = "java/lang/String") (hM : CT l y cc1 maxL1 ret1 d [] [] av1 rv1 zp1 [])
    (hav : av1 aK = .ref (aK k) :: As) (hvl : vs.length = Rs.length) (h4 : x_nv Rs [] [] 0 vs = vs2) (h5 : rv1.toList ++ rest = st2)
    (hn : As.length = n) (hst : As.reverse ++ .ref (aK k) :: rest = st) (hW : (rest.map fun v => v.category).sum ≤ 8) (hR : d + 1 ≤ R.frames ∧ 8 + (maxL1 + 11) + 60 * d ≤ R.locals) (hdg : decode cc pc = .ok (.invokevirtual idx, 3))
    (kk : zp1 → bW p l e R s m args below meth c D tc A nL Rs kc ks Q (pc + 3) lo st2 vs2) (hroom : kc ≤ R.cells ∧ ks ≤ R.slots := by exact ⟨Nat.zero_le _, Nat.zero_le _⟩) : bW p l e R s m args below meth c D tc A nL Rs kc ks Q pc lo st vs := by
  refine a_callG X (Rs1 := []) (vs1 := []) (vo1 := []) (sg := []) (os := []) (av := (Value.ref (aK k) :: As).toArray) hvl rfl rfl rfl rfl rfl h4 h5 (fun H locs ls hP hS hl => ?_) kk
  have hM := hM D tc aK aV H.size
  rw [hav] at hM
  subst hst
  have hre := vk_recv (x_sts X).1.2.1 hk hS
  rw [← hcls] at hre
  exact va_runV ⟨X.1, X.2.1, X.2.2.1, X.2.2.2.1, X.2.2.2.2.1⟩ hM (x_callW X hc hR) ⟨x_PB_blind, hre, x_pre (sg := []) X hvl rfl hP hS⟩ rfl hn hl.1 rfl (by show 2 * 0 + _ ≤ 8; omega) hdg hroom
end XSTR
theorem a_ldcS0 {p : Program} {l : Launch} {e : Env} {R : Room} {s : State} {m : MethodId} {args : Array Value} {below : List Frame} {meth : Method} {c : Code} {cc : ByteArray} {nL : Nat} {ret : Option FieldType} {D : va_G} {tc : Nat → ClassId} {aK aV : Nat → Nat} {A : Nat → Prop} {Rs : List XR} {kc ks : Nat} {Q : State → Prop} {pc : Nat} {lo : List (Nat × Value)} {st : List Value} {vs : List XM} (X : Cx p s m args meth c cc nL ret "FoldRoads$Tape" D tc aK aV A Rs) (hdg : decode cc pc = .ok (.ldc 24, 2)) (kk : bW p l e R s m args below meth c D tc A nL Rs kc ks Q (pc + 2) lo (.ref (aK 0) :: st) vs) : bW p l e R s m args below meth c D tc A nL Rs kc ks Q pc lo st vs :=
  fun H locs ls hP hS hl => va_ldcS X.1 X.2.1 X.2.2.2.1 (x_sts X).2.1 hdg (kk H locs ls hP hS hl)
theorem a_ldcS1 {p : Program} {l : Launch} {e : Env} {R : Room} {s : State} {m : MethodId} {args : Array Value} {below : List Frame} {meth : Method} {c : Code} {cc : ByteArray} {nL : Nat} {ret : Option FieldType} {D : va_G} {tc : Nat → ClassId} {aK aV : Nat → Nat} {A : Nat → Prop} {Rs : List XR} {kc ks : Nat} {Q : State → Prop} {pc : Nat} {lo : List (Nat × Value)} {st : List Value} {vs : List XM} (X : Cx p s m args meth c cc nL ret "FoldRoads$Tag" D tc aK aV A Rs) (hdg : decode cc pc = .ok (.ldc 44, 2)) (kk : bW p l e R s m args below meth c D tc A nL Rs kc ks Q (pc + 2) lo (.ref (aK 1) :: st) vs) : bW p l e R s m args below meth c D tc A nL Rs kc ks Q pc lo st vs :=
  fun H locs ls hP hS hl => va_ldcS X.1 X.2.1 X.2.2.2.1 (x_sts X).2.2.1 hdg (kk H locs ls hP hS hl)
theorem a_ldcS2 {p : Program} {l : Launch} {e : Env} {R : Room} {s : State} {m : MethodId} {args : Array Value} {below : List Frame} {meth : Method} {c : Code} {cc : ByteArray} {nL : Nat} {ret : Option FieldType} {D : va_G} {tc : Nat → ClassId} {aK aV : Nat → Nat} {A : Nat → Prop} {Rs : List XR} {kc ks : Nat} {Q : State → Prop} {pc : Nat} {lo : List (Nat × Value)} {st : List Value} {vs : List XM} (X : Cx p s m args meth c cc nL ret "FoldRoads$Tag" D tc aK aV A Rs) (hdg : decode cc pc = .ok (.ldc 46, 2)) (kk : bW p l e R s m args below meth c D tc A nL Rs kc ks Q (pc + 2) lo (.ref (aK 2) :: st) vs) : bW p l e R s m args below meth c D tc A nL Rs kc ks Q pc lo st vs :=
  fun H locs ls hP hS hl => va_ldcS X.1 X.2.1 X.2.2.2.1 (x_sts X).2.2.2.1 hdg (kk H locs ls hP hS hl)
theorem a_ldcS3 {p : Program} {l : Launch} {e : Env} {R : Room} {s : State} {m : MethodId} {args : Array Value} {below : List Frame} {meth : Method} {c : Code} {cc : ByteArray} {nL : Nat} {ret : Option FieldType} {D : va_G} {tc : Nat → ClassId} {aK aV : Nat → Nat} {A : Nat → Prop} {Rs : List XR} {kc ks : Nat} {Q : State → Prop} {pc : Nat} {lo : List (Nat × Value)} {st : List Value} {vs : List XM} (X : Cx p s m args meth c cc nL ret "FoldRoads$Tag" D tc aK aV A Rs) (hdg : decode cc pc = .ok (.ldc 65, 2)) (kk : bW p l e R s m args below meth c D tc A nL Rs kc ks Q (pc + 2) lo (.ref (aK 3) :: st) vs) : bW p l e R s m args below meth c D tc A nL Rs kc ks Q pc lo st vs :=
  fun H locs ls hP hS hl => va_ldcS X.1 X.2.1 X.2.2.2.1 (x_sts X).2.2.2.2.1 hdg (kk H locs ls hP hS hl)
theorem a_ldcS4 {p : Program} {l : Launch} {e : Env} {R : Room} {s : State} {m : MethodId} {args : Array Value} {below : List Frame} {meth : Method} {c : Code} {cc : ByteArray} {nL : Nat} {ret : Option FieldType} {D : va_G} {tc : Nat → ClassId} {aK aV : Nat → Nat} {A : Nat → Prop} {Rs : List XR} {kc ks : Nat} {Q : State → Prop} {pc : Nat} {lo : List (Nat × Value)} {st : List Value} {vs : List XM} (X : Cx p s m args meth c cc nL ret "FoldRoads$Tag" D tc aK aV A Rs) (hdg : decode cc pc = .ok (.ldc 73, 2)) (kk : bW p l e R s m args below meth c D tc A nL Rs kc ks Q (pc + 2) lo (.ref (aK 4) :: st) vs) : bW p l e R s m args below meth c D tc A nL Rs kc ks Q pc lo st vs :=
  fun H locs ls hP hS hl => va_ldcS X.1 X.2.1 X.2.2.2.1 (x_sts X).2.2.2.2.2 hdg (kk H locs ls hP hS hl)
theorem xf_val : Cond.fieldLink RJ0 9 "java/lang/String" "value" "[B" ∈ x_TB := (x_tb (x_t9 (List.mem_of_getElem? (i := 174) rfl)) rfl)
theorem xf_cod : Cond.fieldLink RJ0 15 "java/lang/String" "coder" "B" ∈ x_TB := (x_tb (x_t9 (List.mem_of_getElem? (i := 175) rfl)) rfl)
theorem xf_com : Cond.fieldLink RJ0 38 "java/lang/String" "COMPACT_STRINGS" "Z" ∈ x_TB := (x_tb (x_t1 (List.mem_of_getElem? (i := 58) rfl)) rfl)
theorem xf_fmt : Cond.fieldLink RJ0 1053 "jdk/internal/util/Preconditions" "SIOOBE_FORMATTER" "Ljava/util/function/BiFunction;" ∈ x_TB := (x_tb (x_t1 (List.mem_of_getElem? (i := 74) rfl)) rfl)
theorem cv_RJ0_335 : x_cv RJ0 335 yJ0_coder_7d493 cJ0_coder_7d493 1 (some .byte) 0 := ⟨(x_tb (x_t1 (List.mem_of_getElem? (i := 54) rfl)) rfl), (x_tb (x_t1 (List.mem_of_getElem? (i := 55) rfl)) rfl), (x_tb (x_t1 (List.mem_of_getElem? (i := 56) rfl)) rfl), (x_tb (x_t1 (List.mem_of_getElem? (i := 4) rfl)) rfl), (x_tb (x_t1 (List.mem_of_getElem? (i := 57) rfl)) rfl), by decide, by decide, by decide +kernel⟩
theorem cv_RJ0_492 : x_cv RJ0 492 yJ0_isLatin1_aae02 cJ0_isLatin1_aae02 1 (some .boolean) 0 := ⟨(x_tb (x_t1 (List.mem_of_getElem? (i := 64) rfl)) rfl), (x_tb (x_t1 (List.mem_of_getElem? (i := 65) rfl)) rfl), (x_tb (x_t1 (List.mem_of_getElem? (i := 66) rfl)) rfl), (x_tb (x_t1 (List.mem_of_getElem? (i := 4) rfl)) rfl), (x_tb (x_t1 (List.mem_of_getElem? (i := 67) rfl)) rfl), by decide, by decide, by decide +kernel⟩
theorem cs_RJ0_495 : x_cs RJ0 495 yJ1_charAt_3b067 cJ1_charAt_3b067 2 (some .char) 2 := ⟨(x_tb (x_t1 (List.mem_of_getElem? (i := 68) rfl)) rfl), (x_tb (x_t1 (List.mem_of_getElem? (i := 69) rfl)) rfl), (x_tb (x_t1 (List.mem_of_getElem? (i := 5) rfl)) rfl), (x_tb (x_t1 (List.mem_of_getElem? (i := 70) rfl)) rfl), by decide, by decide, by decide +kernel⟩
theorem cs_RJ0_1059 : x_cs RJ0 1059 yJ3_checkIndex_8e157 cJ3_checkIndex_8e157 3 (some .int) 3 := ⟨(x_tb (x_t1 (List.mem_of_getElem? (i := 76) rfl)) rfl), (x_tb (x_t1 (List.mem_of_getElem? (i := 77) rfl)) rfl), (x_tb (x_t1 (List.mem_of_getElem? (i := 6) rfl)) rfl), (x_tb (x_t1 (List.mem_of_getElem? (i := 78) rfl)) rfl), by decide, by decide, by decide +kernel⟩
theorem cs_RJ1_9 : x_cs RJ1 9 yJ0_checkIndex_df160 cJ0_checkIndex_df160 2 none 2 := ⟨(x_tb (x_t1 (List.mem_of_getElem? (i := 71) rfl)) rfl), (x_tb (x_t1 (List.mem_of_getElem? (i := 72) rfl)) rfl), (x_tb (x_t1 (List.mem_of_getElem? (i := 4) rfl)) rfl), (x_tb (x_t1 (List.mem_of_getElem? (i := 73) rfl)) rfl), by decide, by decide, by decide +kernel⟩
theorem cv_RX7_84 : x_cv RX7 84 yJ0_charAt_5068e cJ0_charAt_5068e 2 (some .char) 1 := ⟨(x_tb (x_t5 (List.mem_of_getElem? (i := 196) rfl)) rfl), (x_tb (x_t1 (List.mem_of_getElem? (i := 61) rfl)) rfl), (x_tb (x_t1 (List.mem_of_getElem? (i := 62) rfl)) rfl), (x_tb (x_t1 (List.mem_of_getElem? (i := 4) rfl)) rfl), (x_tb (x_t1 (List.mem_of_getElem? (i := 63) rfl)) rfl), by decide, by decide, by decide +kernel⟩
theorem cv_RX8_32 : x_cv RX8 32 yJ0_charAt_5068e cJ0_charAt_5068e 2 (some .char) 1 := ⟨(x_tb (x_t1 (List.mem_of_getElem? (i := 60) rfl)) rfl), (x_tb (x_t1 (List.mem_of_getElem? (i := 61) rfl)) rfl), (x_tb (x_t1 (List.mem_of_getElem? (i := 62) rfl)) rfl), (x_tb (x_t1 (List.mem_of_getElem? (i := 4) rfl)) rfl), (x_tb (x_t1 (List.mem_of_getElem? (i := 63) rfl)) rfl), by decide, by decide, by decide +kernel⟩
theorem dJ0_length_8abf5_0 : decode cJ0_length_8abf5 0 = .ok (.aload_n 0, 1) := by decide +kernel
theorem dJ0_length_8abf5_1 : decode cJ0_length_8abf5 1 = .ok (.getfield 9, 3) := by decide +kernel
theorem dJ0_length_8abf5_4 : decode cJ0_length_8abf5 4 = .ok (.arraylength, 1) := by decide +kernel
theorem dJ0_length_8abf5_5 : decode cJ0_length_8abf5 5 = .ok (.aload_n 0, 1) := by decide +kernel
theorem dJ0_length_8abf5_6 : decode cJ0_length_8abf5 6 = .ok (.invokevirtual 335, 3) := by decide +kernel
theorem dJ0_length_8abf5_9 : decode cJ0_length_8abf5 9 = .ok (.ishr, 1) := by decide +kernel
theorem dJ0_length_8abf5_10 : decode cJ0_length_8abf5 10 = .ok (.ireturn, 1) := by decide +kernel
theorem dJ0_charAt_5068e_0 : decode cJ0_charAt_5068e 0 = .ok (.aload_n 0, 1) := by decide +kernel
theorem dJ0_charAt_5068e_1 : decode cJ0_charAt_5068e 1 = .ok (.invokevirtual 492, 3) := by decide +kernel
theorem dJ0_charAt_5068e_4 : decode cJ0_charAt_5068e 4 = .ok (.ifCond .eq 12, 3) := by decide +kernel
theorem dJ0_charAt_5068e_7 : decode cJ0_charAt_5068e 7 = .ok (.aload_n 0, 1) := by decide +kernel
theorem dJ0_charAt_5068e_8 : decode cJ0_charAt_5068e 8 = .ok (.getfield 9, 3) := by decide +kernel
theorem dJ0_charAt_5068e_11 : decode cJ0_charAt_5068e 11 = .ok (.iload_n 1, 1) := by decide +kernel
theorem dJ0_charAt_5068e_12 : decode cJ0_charAt_5068e 12 = .ok (.invokestatic 495, 3) := by decide +kernel
theorem dJ0_charAt_5068e_15 : decode cJ0_charAt_5068e 15 = .ok (.ireturn, 1) := by decide +kernel
theorem dJ0_charAt_5068e_16 : decode cJ0_charAt_5068e 16 = .ok (.aload_n 0, 1) := by decide +kernel
theorem dJ0_charAt_5068e_17 : decode cJ0_charAt_5068e 17 = .ok (.getfield 9, 3) := by decide +kernel
theorem dJ0_charAt_5068e_20 : decode cJ0_charAt_5068e 20 = .ok (.iload_n 1, 1) := by decide +kernel
theorem dJ0_charAt_5068e_21 : decode cJ0_charAt_5068e 21 = .ok (.invokestatic 498, 3) := by decide +kernel
theorem dJ0_charAt_5068e_24 : decode cJ0_charAt_5068e 24 = .ok (.ireturn, 1) := by decide +kernel
theorem dJ0_coder_7d493_0 : decode cJ0_coder_7d493 0 = .ok (.getstatic 38, 3) := by decide +kernel
theorem dJ0_coder_7d493_3 : decode cJ0_coder_7d493 3 = .ok (.ifCond .eq 10, 3) := by decide +kernel
theorem dJ0_coder_7d493_6 : decode cJ0_coder_7d493 6 = .ok (.aload_n 0, 1) := by decide +kernel
theorem dJ0_coder_7d493_7 : decode cJ0_coder_7d493 7 = .ok (.getfield 15, 3) := by decide +kernel
theorem dJ0_coder_7d493_10 : decode cJ0_coder_7d493 10 = .ok (.goto 4, 3) := by decide +kernel
theorem dJ0_coder_7d493_13 : decode cJ0_coder_7d493 13 = .ok (.iconst 1, 1) := by decide +kernel
theorem dJ0_coder_7d493_14 : decode cJ0_coder_7d493 14 = .ok (.ireturn, 1) := by decide +kernel
theorem dJ0_isLatin1_aae02_0 : decode cJ0_isLatin1_aae02 0 = .ok (.getstatic 38, 3) := by decide +kernel
theorem dJ0_isLatin1_aae02_3 : decode cJ0_isLatin1_aae02 3 = .ok (.ifCond .eq 14, 3) := by decide +kernel
theorem dJ0_isLatin1_aae02_6 : decode cJ0_isLatin1_aae02 6 = .ok (.aload_n 0, 1) := by decide +kernel
theorem dJ0_isLatin1_aae02_7 : decode cJ0_isLatin1_aae02 7 = .ok (.getfield 15, 3) := by decide +kernel
theorem dJ0_isLatin1_aae02_10 : decode cJ0_isLatin1_aae02 10 = .ok (.ifCond .ne 7, 3) := by decide +kernel
theorem dJ0_isLatin1_aae02_13 : decode cJ0_isLatin1_aae02 13 = .ok (.iconst 1, 1) := by decide +kernel
theorem dJ0_isLatin1_aae02_14 : decode cJ0_isLatin1_aae02 14 = .ok (.goto 4, 3) := by decide +kernel
theorem dJ0_isLatin1_aae02_17 : decode cJ0_isLatin1_aae02 17 = .ok (.iconst 0, 1) := by decide +kernel
theorem dJ0_isLatin1_aae02_18 : decode cJ0_isLatin1_aae02 18 = .ok (.ireturn, 1) := by decide +kernel
theorem dJ0_checkIndex_df160_0 : decode cJ0_checkIndex_df160 0 = .ok (.iload_n 0, 1) := by decide +kernel
theorem dJ0_checkIndex_df160_1 : decode cJ0_checkIndex_df160 1 = .ok (.iload_n 1, 1) := by decide +kernel
theorem dJ0_checkIndex_df160_2 : decode cJ0_checkIndex_df160 2 = .ok (.getstatic 1053, 3) := by decide +kernel
theorem dJ0_checkIndex_df160_5 : decode cJ0_checkIndex_df160 5 = .ok (.invokestatic 1059, 3) := by decide +kernel
theorem dJ0_checkIndex_df160_8 : decode cJ0_checkIndex_df160 8 = .ok (.pop, 1) := by decide +kernel
theorem dJ0_checkIndex_df160_9 : decode cJ0_checkIndex_df160 9 = .ok (.return_, 1) := by decide +kernel
theorem dJ1_charAt_3b067_0 : decode cJ1_charAt_3b067 0 = .ok (.iload_n 1, 1) := by decide +kernel
theorem dJ1_charAt_3b067_1 : decode cJ1_charAt_3b067 1 = .ok (.aload_n 0, 1) := by decide +kernel
theorem dJ1_charAt_3b067_2 : decode cJ1_charAt_3b067 2 = .ok (.arraylength, 1) := by decide +kernel
theorem dJ1_charAt_3b067_3 : decode cJ1_charAt_3b067 3 = .ok (.invokestatic 9, 3) := by decide +kernel
theorem dJ1_charAt_3b067_6 : decode cJ1_charAt_3b067 6 = .ok (.aload_n 0, 1) := by decide +kernel
theorem dJ1_charAt_3b067_7 : decode cJ1_charAt_3b067 7 = .ok (.iload_n 1, 1) := by decide +kernel
theorem dJ1_charAt_3b067_8 : decode cJ1_charAt_3b067 8 = .ok (.baload, 1) := by decide +kernel
theorem dJ1_charAt_3b067_9 : decode cJ1_charAt_3b067 9 = .ok (.sipush 255, 3) := by decide +kernel
theorem dJ1_charAt_3b067_12 : decode cJ1_charAt_3b067 12 = .ok (.iand, 1) := by decide +kernel
theorem dJ1_charAt_3b067_13 : decode cJ1_charAt_3b067 13 = .ok (.i2c, 1) := by decide +kernel
theorem dJ1_charAt_3b067_14 : decode cJ1_charAt_3b067 14 = .ok (.ireturn, 1) := by decide +kernel
theorem dJ3_checkIndex_8e157_0 : decode cJ3_checkIndex_8e157 0 = .ok (.iload_n 0, 1) := by decide +kernel
theorem dJ3_checkIndex_8e157_1 : decode cJ3_checkIndex_8e157 1 = .ok (.ifCond .lt 8, 3) := by decide +kernel
theorem dJ3_checkIndex_8e157_4 : decode cJ3_checkIndex_8e157 4 = .ok (.iload_n 0, 1) := by decide +kernel
theorem dJ3_checkIndex_8e157_5 : decode cJ3_checkIndex_8e157 5 = .ok (.iload_n 1, 1) := by decide +kernel
theorem dJ3_checkIndex_8e157_6 : decode cJ3_checkIndex_8e157 6 = .ok (.if_icmp .lt 10, 3) := by decide +kernel
theorem dJ3_checkIndex_8e157_9 : decode cJ3_checkIndex_8e157 9 = .ok (.aload_n 2, 1) := by decide +kernel
theorem dJ3_checkIndex_8e157_10 : decode cJ3_checkIndex_8e157 10 = .ok (.iload_n 0, 1) := by decide +kernel
theorem dJ3_checkIndex_8e157_11 : decode cJ3_checkIndex_8e157 11 = .ok (.iload_n 1, 1) := by decide +kernel
theorem dJ3_checkIndex_8e157_12 : decode cJ3_checkIndex_8e157 12 = .ok (.invokestatic 95, 3) := by decide +kernel
theorem dJ3_checkIndex_8e157_15 : decode cJ3_checkIndex_8e157 15 = .ok (.athrow, 1) := by decide +kernel
theorem dJ3_checkIndex_8e157_16 : decode cJ3_checkIndex_8e157 16 = .ok (.iload_n 0, 1) := by decide +kernel
theorem dJ3_checkIndex_8e157_17 : decode cJ3_checkIndex_8e157 17 = .ok (.ireturn, 1) := by decide +kernel
set_option maxRecDepth 100000 in
set_option maxHeartbeats 4000000 in
theorem c_coder {l : Launch} {k : Nat} (hk : k < 5) : CT l yJ0_coder_7d493 cJ0_coder_7d493 1 (some .byte) 0 [] [] (fun aK => [.ref (aK k)]) (some (.int 0)) True [] := by
  refine CT_of (by decide) (fun _ => Nat.le_of_ble_eq_true rfl) ?_
  intro p e s m args below meth c D tc aK aV A X
  have X : Cx p s m args meth c cJ0_coder_7d493 1 (some .byte) RJ0 D tc aK aV A [] := X
  show aW p l e (x_Rm 0) s m args below meth c D tc A 1 [] (some (.int 0)) True [] 0 [(0, .ref (aK k))] [] []
  refine a_scom (pc := 0) X xf_com dJ0_coder_7d493_0 ?_
  refine a_if_eq (pc := 3) X 13 dJ0_coder_7d493_3 rfl (fun q => absurd q (by decide)) (fun _ => ?_)
  refine a_aload_n (pc := 6) X 0 dJ0_coder_7d493_6 rfl rfl ?_
  refine a_scod (pc := 7) X hk xf_cod dJ0_coder_7d493_7 ?_
  refine a_goto (pc := 10) X 14 dJ0_coder_7d493_10 rfl ?_
  exact a_nret (pc := 14) X (by decide) trivial dJ0_coder_7d493_14
set_option maxRecDepth 100000 in
set_option maxHeartbeats 4000000 in
theorem c_isLatin1 {l : Launch} {k : Nat} (hk : k < 5) : CT l yJ0_isLatin1_aae02 cJ0_isLatin1_aae02 1 (some .boolean) 0 [] [] (fun aK => [.ref (aK k)]) (some (.int 1)) True [] := by
  refine CT_of (by decide) (fun _ => Nat.le_of_ble_eq_true rfl) ?_
  intro p e s m args below meth c D tc aK aV A X
  have X : Cx p s m args meth c cJ0_isLatin1_aae02 1 (some .boolean) RJ0 D tc aK aV A [] := X
  show aW p l e (x_Rm 0) s m args below meth c D tc A 1 [] (some (.int 1)) True [] 0 [(0, .ref (aK k))] [] []
  refine a_scom (pc := 0) X xf_com dJ0_isLatin1_aae02_0 ?_
  refine a_if_eq (pc := 3) X 17 dJ0_isLatin1_aae02_3 rfl (fun q => absurd q (by decide)) (fun _ => ?_)
  refine a_aload_n (pc := 6) X 0 dJ0_isLatin1_aae02_6 rfl rfl ?_
  refine a_scod (pc := 7) X hk xf_cod dJ0_isLatin1_aae02_7 ?_
  refine a_if_ne (pc := 10) X 17 dJ0_isLatin1_aae02_10 rfl (fun q => absurd rfl q) (fun _ => ?_)
  refine a_iconst (pc := 13) X dJ0_isLatin1_aae02_13 q_ic_1 ?_
  refine a_goto (pc := 14) X 18 dJ0_isLatin1_aae02_14 rfl ?_
  exact a_nret (pc := 18) X (by decide) trivial dJ0_isLatin1_aae02_18
set_option maxRecDepth 100000 in
set_option maxHeartbeats 4000000 in
theorem c_slen {l : Launch} {k : Nat} (hk : k < 5) : CT l yJ0_length_8abf5 cJ0_length_8abf5 1 (some .int) 1 [] [] (fun aK => [.ref (aK k)]) (some (.int (Int32.ofNat (x_len.getD k 0)))) True [] := by
  refine CT_of (by decide) (fun _ => Nat.le_of_ble_eq_true rfl) ?_
  intro p e s m args below meth c D tc aK aV A X
  have X : Cx p s m args meth c cJ0_length_8abf5 1 (some .int) RJ0 D tc aK aV A [] := X
  show aW p l e (x_Rm 1) s m args below meth c D tc A 1 [] (some (.int (Int32.ofNat (x_len.getD k 0)))) True [] 0 [(0, .ref (aK k))] [] []
  refine a_aload_n (pc := 0) X 0 dJ0_length_8abf5_0 rfl rfl ?_
  refine a_sval (pc := 1) X hk xf_val dJ0_length_8abf5_1 ?_
  refine a_blen (pc := 4) X hk dJ0_length_8abf5_4 ?_
  refine a_aload_n (pc := 5) X 0 dJ0_length_8abf5_5 rfl rfl ?_
  refine a_callVK (pc := 6) (st2 := [.int 0, .int (Int32.ofNat (x_len.getD k 0))]) (vs2 := []) X hk [] [.int (Int32.ofNat (x_len.getD k 0))] cv_RJ0_335 rfl (c_coder hk) rfl rfl rfl rfl rfl rfl (Nat.le_of_ble_eq_true rfl) ⟨Nat.le_of_ble_eq_true rfl, Nat.le_of_ble_eq_true rfl⟩ dJ0_length_8abf5_6 (fun _ => ?_)
  refine a_ishr (pc := 9) X dJ0_length_8abf5_9 ?_
  refine a_ni (y := Int32.ofNat (x_len.getD k 0)) (by match k, hk with | 0, _ => decide | 1, _ => decide | 2, _ => decide | 3, _ => decide | 4, _ => decide | k + 5, h => omega) ?_
  exact a_iret (pc := 10) X trivial dJ0_length_8abf5_10
set_option maxRecDepth 100000 in
set_option maxHeartbeats 4000000 in
theorem c_pck {l : Launch} {i n : Int32} {w : Value} (hw : w = .null ∨ ∃ t, w = .ref t) (h0 : ¬ i < 0) (h1 : i < n) : CT l yJ3_checkIndex_8e157 cJ3_checkIndex_8e157 3 (some .int) 0 [] [] (fun aK => [.int i, .int n, w]) (some (.int i)) True [] := by
  rcases hw with rfl | ⟨t, rfl⟩
  · refine CT_of (by decide) (fun _ => Nat.le_of_ble_eq_true rfl) ?_
    intro p e s m args below meth c D tc aK aV A X
    have X : Cx p s m args meth c cJ3_checkIndex_8e157 3 (some .int) RJ3 D tc aK aV A [] := X
    show aW p l e (x_Rm 0) s m args below meth c D tc A 3 [] (some (.int i)) True [] 0 [(0, .int i), (1, .int n), (2, .null)] [] []
    refine a_iload_n (pc := 0) X 0 dJ3_checkIndex_8e157_0 rfl rfl ?_
    refine a_if_lt (pc := 1) X 9 dJ3_checkIndex_8e157_1 rfl (fun q => absurd q h0) (fun _ => ?_)
    refine a_iload_n (pc := 4) X 0 dJ3_checkIndex_8e157_4 rfl rfl ?_
    refine a_iload_n (pc := 5) X 1 dJ3_checkIndex_8e157_5 rfl rfl ?_
    refine a_icmp_lt (pc := 6) X 16 dJ3_checkIndex_8e157_6 rfl (fun _ => ?_) (fun q => absurd h1 q)
    refine a_iload_n (pc := 16) X 0 dJ3_checkIndex_8e157_16 rfl rfl ?_
    exact a_iret (pc := 17) X trivial dJ3_checkIndex_8e157_17
  · refine CT_of (by decide) (fun _ => Nat.le_of_ble_eq_true rfl) ?_
    intro p e s m args below meth c D tc aK aV A X
    have X : Cx p s m args meth c cJ3_checkIndex_8e157 3 (some .int) RJ3 D tc aK aV A [] := X
    show aW p l e (x_Rm 0) s m args below meth c D tc A 3 [] (some (.int i)) True [] 0 [(0, .int i), (1, .int n), (2, .ref t)] [] []
    refine a_iload_n (pc := 0) X 0 dJ3_checkIndex_8e157_0 rfl rfl ?_
    refine a_if_lt (pc := 1) X 9 dJ3_checkIndex_8e157_1 rfl (fun q => absurd q h0) (fun _ => ?_)
    refine a_iload_n (pc := 4) X 0 dJ3_checkIndex_8e157_4 rfl rfl ?_
    refine a_iload_n (pc := 5) X 1 dJ3_checkIndex_8e157_5 rfl rfl ?_
    refine a_icmp_lt (pc := 6) X 16 dJ3_checkIndex_8e157_6 rfl (fun _ => ?_) (fun q => absurd h1 q)
    refine a_iload_n (pc := 16) X 0 dJ3_checkIndex_8e157_16 rfl rfl ?_
    exact a_iret (pc := 17) X trivial dJ3_checkIndex_8e157_17
set_option maxRecDepth 100000 in
set_option maxHeartbeats 4000000 in
theorem c_sck {l : Launch} {i n : Int32} (h0 : ¬ i < 0) (h1 : i < n) : CT l yJ0_checkIndex_df160 cJ0_checkIndex_df160 2 none 1 [] [] (fun aK => [.int i, .int n]) none True [] := by
  refine CT_of (by decide) (fun _ => Nat.le_of_ble_eq_true rfl) ?_
  intro p e s m args below meth c D tc aK aV A X
  have X : Cx p s m args meth c cJ0_checkIndex_df160 2 none RJ0 D tc aK aV A [] := X
  show aW p l e (x_Rm 1) s m args below meth c D tc A 2 [] none True [] 0 [(0, .int i), (1, .int n)] [] []
  refine a_iload_n (pc := 0) X 0 dJ0_checkIndex_df160_0 rfl rfl ?_
  refine a_iload_n (pc := 1) X 1 dJ0_checkIndex_df160_1 rfl rfl ?_
  refine a_sfmt (pc := 2) X xf_fmt dJ0_checkIndex_df160_2 (fun w hw => ?_)
  refine a_callS (pc := 5) (st2 := [.int i]) (vs2 := []) X [] [] [.int i, .int n, w] [] cs_RJ0_1059 (c_pck hw h0 h1) rfl rfl rfl rfl rfl rfl rfl rfl rfl rfl rfl (Nat.le_of_ble_eq_true rfl) ⟨Nat.le_of_ble_eq_true rfl, Nat.le_of_ble_eq_true rfl⟩ dJ0_checkIndex_df160_5 (fun _ => ?_)
  refine a_pop (pc := 8) X dJ0_checkIndex_df160_8 rfl ?_
  exact a_vret (pc := 9) X trivial dJ0_checkIndex_df160_9
def x_ch (k : Nat) (i : Int32) : Int32 := (((x_byt.getD k []).getD i.toNatClampNeg 0 &&& 255).toUInt32 % 65536).toInt32
theorem x_in0 {i : Int32} {n : Nat} (h : vp_in i n) : ¬ i < 0 := fun q => h (Or.inl q)
theorem x_in1 {i : Int32} {k : Nat} (hk : k < 5) (h : vp_in i (x_len.getD k 0)) : i < Int32.ofNat (x_len.getD k 0) := by
  have hl : x_len.getD k 0 < 2 ^ 31 := by match k, hk with | 0, _ => decide | 1, _ => decide | 2, _ => decide | 3, _ => decide | 4, _ => decide | k + 5, h => omega
  obtain ⟨h1, h2⟩ := vp_in_iff.mp h
  rw [Int32.lt_iff_toInt_lt, show (Int32.ofNat (x_len.getD k 0)).toInt = _ from nI_toInt hl]
  exact h2
set_option maxRecDepth 100000 in
set_option maxHeartbeats 4000000 in
theorem c_lch {l : Launch} {k : Nat} {i : Int32} (hk : k < 5) (hi : vp_in i (x_len.getD k 0)) : CT l yJ1_charAt_3b067 cJ1_charAt_3b067 2 (some .char) 2 [] [] (fun aK => [.ref (aK (k + 1000)), .int i]) (some (.int (x_ch k i))) True [] := by
  refine CT_of (by decide) (fun _ => Nat.le_of_ble_eq_true rfl) ?_
  intro p e s m args below meth c D tc aK aV A X
  have X : Cx p s m args meth c cJ1_charAt_3b067 2 (some .char) RJ1 D tc aK aV A [] := X
  show aW p l e (x_Rm 2) s m args below meth c D tc A 2 [] (some (.int (x_ch k i))) True [] 0 [(0, .ref (aK (k + 1000))), (1, .int i)] [] []
  refine a_iload_n (pc := 0) X 1 dJ1_charAt_3b067_0 rfl rfl ?_
  refine a_aload_n (pc := 1) X 0 dJ1_charAt_3b067_1 rfl rfl ?_
  refine a_blen (pc := 2) X hk dJ1_charAt_3b067_2 ?_
  refine a_callS (pc := 3) (st2 := []) (vs2 := []) X [] [] [.int i, .int (Int32.ofNat (x_len.getD k 0))] [] cs_RJ1_9 (c_sck (x_in0 hi) (x_in1 hk hi)) rfl rfl rfl rfl rfl rfl rfl rfl rfl rfl rfl (Nat.le_of_ble_eq_true rfl) ⟨Nat.le_of_ble_eq_true rfl, Nat.le_of_ble_eq_true rfl⟩ dJ1_charAt_3b067_3 (fun _ => ?_)
  refine a_aload_n (pc := 6) X 0 dJ1_charAt_3b067_6 rfl rfl ?_
  refine a_iload_n (pc := 7) X 1 dJ1_charAt_3b067_7 rfl rfl ?_
  refine a_bld (pc := 8) X hk hi dJ1_charAt_3b067_8 ?_
  refine a_sipush (pc := 9) X dJ1_charAt_3b067_9 (by decide : (Int16.ofInt 255).toInt32 = 255) ?_
  refine a_iand (pc := 12) X dJ1_charAt_3b067_12 ?_
  refine a_i2c (pc := 13) X dJ1_charAt_3b067_13 ?_
  exact a_nret (pc := 14) X (pk_nc _) trivial dJ1_charAt_3b067_14
set_option maxRecDepth 100000 in
set_option maxHeartbeats 4000000 in
theorem c_sch {l : Launch} {k : Nat} {i : Int32} (hk : k < 5) (hi : vp_in i (x_len.getD k 0)) : CT l yJ0_charAt_5068e cJ0_charAt_5068e 2 (some .char) 3 [] [] (fun aK => [.ref (aK k), .int i]) (some (.int (x_ch k i))) True [] := by
  refine CT_of (by decide) (fun _ => Nat.le_of_ble_eq_true rfl) ?_
  intro p e s m args below meth c D tc aK aV A X
  have X : Cx p s m args meth c cJ0_charAt_5068e 2 (some .char) RJ0 D tc aK aV A [] := X
  show aW p l e (x_Rm 3) s m args below meth c D tc A 2 [] (some (.int (x_ch k i))) True [] 0 [(0, .ref (aK k)), (1, .int i)] [] []
  refine a_aload_n (pc := 0) X 0 dJ0_charAt_5068e_0 rfl rfl ?_
  refine a_callVK (pc := 1) (st2 := [.int 1]) (vs2 := []) X hk [] [] cv_RJ0_492 rfl (c_isLatin1 hk) rfl rfl rfl rfl rfl rfl (Nat.le_of_ble_eq_true rfl) ⟨Nat.le_of_ble_eq_true rfl, Nat.le_of_ble_eq_true rfl⟩ dJ0_charAt_5068e_1 (fun _ => ?_)
  refine a_if_eq (pc := 4) X 16 dJ0_charAt_5068e_4 rfl (fun q => absurd q (by decide)) (fun _ => ?_)
  refine a_aload_n (pc := 7) X 0 dJ0_charAt_5068e_7 rfl rfl ?_
  refine a_sval (pc := 8) X hk xf_val dJ0_charAt_5068e_8 ?_
  refine a_iload_n (pc := 11) X 1 dJ0_charAt_5068e_11 rfl rfl ?_
  refine a_callS (pc := 12) (st2 := [.int (x_ch k i)]) (vs2 := []) X [] [] [.ref (aK (k + 1000)), .int i] [] cs_RJ0_495 (c_lch hk hi) rfl rfl rfl rfl rfl rfl rfl rfl rfl rfl rfl (Nat.le_of_ble_eq_true rfl) ⟨Nat.le_of_ble_eq_true rfl, Nat.le_of_ble_eq_true rfl⟩ dJ0_charAt_5068e_12 (fun _ => ?_)
  exact a_nret (pc := 15) X (pk_nc _) trivial dJ0_charAt_5068e_15
