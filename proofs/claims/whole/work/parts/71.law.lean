-- The law: its blocks walked (wip/whole/lawgen.py).
set_option maxRecDepth 100000 in
set_option maxHeartbeats 4000000 in
theorem w_L_law_1427 {p : Program} {l : Launch} {e : Env} {s : State} {m : MethodId} {below : List Frame} {meth : Method} {c : Code} {D : va_G} {tc : Nat → ClassId} {aK aV : Nat → Nat} {A : Nat → Prop} {b kc ks : Nat} {ad0 : Nat → Nat} {ad1 : Nat → Nat} {ad2 : Nat → Nat} {L : Nat} {xs : Nat → Int32} (X : Cx p s m #[Value.ref b] meth c code 7 ret RL D tc aK aV A [(shFoldRoads, ad0), (shModel, ad1), ((shLongs 1), ad2)]) (hB : va_X b L xs s s.heap ∧ b < s.heap.size ∧ ¬ A b) (hA : ∀ q, A q → s.heap.size ≤ q) (hl0 : l.stackTraces = false) (hNw : x_Nw s) (hr0 : kc ≤ room_1.cells ∧ ks ≤ room_1.slots) (hr1 : kc + 1 ≤ room_1.cells ∧ ks + 6 ≤ room_1.slots) {k23 : XM → XM → XM → Int32 → Option (Int32)} (hk23 : ∀ (w0 : XM) (w1 : XM) (w2 : XM) (l4 : Int32), k23 w0 w1 w2 l4 = some 1 → bW p l e room_1 s m #[Value.ref b] below meth c D tc A 7 [(shFoldRoads, ad0), (shModel, ad1), ((shLongs 1), ad2)] (kc + 1) (ks + 6) (lw_Z below #[Value.ref b] s) 23 [(0, .ref b), (1, .ref (ad0 0)), (2, .ref (ad1 0)), (3, .ref (ad2 0)), (4, .int l4)] [] [w0, w1, w2]) {w0 : XM} {w1 : XM} {w2 : XM} {l4 : Int32}  (h : f_L_law_1427 L xs k23 w0 w1 w2 l4 = some 1) : bW p l e room_1 s m #[Value.ref b] below meth c D tc A 7 [(shFoldRoads, ad0), (shModel, ad1), ((shLongs 1), ad2)] (kc + 1) (ks + 6) (lw_Z below #[Value.ref b] s) 1427 [(0, .ref b), (1, .ref (ad0 0)), (2, .ref (ad1 0)), (3, .ref (ad2 0)), (4, .int l4)] [] [w0, w1, w2] := by
  unfold f_L_law_1427 at h
  refine a_iinc (pc := 1427) X 4 [(4, .int (l4 + 6)), (0, .ref b), (1, .ref (ad0 0)), (2, .ref (ad1 0)), (3, .ref (ad2 0))] dL_law_1427 rfl (congrArg (HAdd.hAdd l4) q_ic_6) (by decide) rfl ?_
  refine a_goto (pc := 1430) X 23 dL_law_1430 rfl ?_
  refine a_sub [1, 2, 3, 4, 0] rfl ?_
  exact hk23 _ _ _ _ h
set_option maxRecDepth 100000 in
set_option maxHeartbeats 4000000 in
theorem w_L_law_220 {p : Program} {l : Launch} {e : Env} {s : State} {m : MethodId} {below : List Frame} {meth : Method} {c : Code} {D : va_G} {tc : Nat → ClassId} {aK aV : Nat → Nat} {A : Nat → Prop} {b kc ks : Nat} {ad0 : Nat → Nat} {ad1 : Nat → Nat} {ad2 : Nat → Nat} {L : Nat} {xs : Nat → Int32} (X : Cx p s m #[Value.ref b] meth c code 7 ret RL D tc aK aV A [(shFoldRoads, ad0), (shModel, ad1), ((shLongs 1), ad2)]) (hB : va_X b L xs s s.heap ∧ b < s.heap.size ∧ ¬ A b) (hA : ∀ q, A q → s.heap.size ≤ q) (hl0 : l.stackTraces = false) (hNw : x_Nw s) (hr0 : kc ≤ room_1.cells ∧ ks ≤ room_1.slots) (hr1 : kc + 1 ≤ room_1.cells ∧ ks + 6 ≤ room_1.slots) {k23 : XM → XM → XM → Int32 → Option (Int32)} (hk23 : ∀ (w0 : XM) (w1 : XM) (w2 : XM) (l4 : Int32), k23 w0 w1 w2 l4 = some 1 → bW p l e room_1 s m #[Value.ref b] below meth c D tc A 7 [(shFoldRoads, ad0), (shModel, ad1), ((shLongs 1), ad2)] (kc + 1) (ks + 6) (lw_Z below #[Value.ref b] s) 23 [(0, .ref b), (1, .ref (ad0 0)), (2, .ref (ad1 0)), (3, .ref (ad2 0)), (4, .int l4)] [] [w0, w1, w2]) {w0 : XM} {w1 : XM} {w2 : XM} {l4 : Int32}  (h : f_L_law_220 L xs k23 w0 w1 w2 l4 = some 1) : bW p l e room_1 s m #[Value.ref b] below meth c D tc A 7 [(shFoldRoads, ad0), (shModel, ad1), ((shLongs 1), ad2)] kc ks (lw_Z below #[Value.ref b] s) 220 [(0, .ref b), (1, .ref (ad0 0)), (2, .ref (ad1 0)), (3, .ref (ad2 0)), (4, .int l4)] [] [w0, w1, w2] := by
  unfold f_L_law_220 at h
  refine a_aload_n (pc := 220) X 1 dL_law_220 rfl rfl ?_
  refine a_aload_n (pc := 221) X 0 dL_law_221 rfl rfl ?_
  refine a_iload (pc := 222) X 4 dL_law_222 rfl ?_
  refine a_iconst (pc := 224) X dL_law_224 q_ic_1 ?_
  refine a_iadd (pc := 225) X dL_law_225 ?_
  obtain ⟨c_226, h⟩ := x_ck_elim h
  refine y_sld (pc := 226) X hB c_226 dL_law_226 ?_
  refine a_aload_n (pc := 227) X 0 dL_law_227 rfl rfl ?_
  refine a_iload (pc := 228) X 4 dL_law_228 rfl ?_
  refine a_iconst (pc := 230) X dL_law_230 q_ic_2 ?_
  refine a_iadd (pc := 231) X dL_law_231 ?_
  obtain ⟨c_232, h⟩ := x_ck_elim h
  refine y_sld (pc := 232) X hB c_232 dL_law_232 ?_
  refine a_aload_n (pc := 233) X 0 dL_law_233 rfl rfl ?_
  refine a_iload (pc := 234) X 4 dL_law_234 rfl ?_
  refine a_iconst (pc := 236) X dL_law_236 q_ic_3 ?_
  refine a_iadd (pc := 237) X dL_law_237 ?_
  obtain ⟨c_238, h⟩ := x_ck_elim h
  refine y_sld (pc := 238) X hB c_238 dL_law_238 ?_
  refine a_aload_n (pc := 239) X 0 dL_law_239 rfl rfl ?_
  refine a_iload (pc := 240) X 4 dL_law_240 rfl ?_
  refine a_iconst (pc := 242) X dL_law_242 q_ic_4 ?_
  refine a_iadd (pc := 243) X dL_law_243 ?_
  obtain ⟨c_244, h⟩ := x_ck_elim h
  refine y_sld (pc := 244) X hB c_244 dL_law_244 ?_
  refine a_aload_n (pc := 245) X 0 dL_law_245 rfl rfl ?_
  refine a_iload (pc := 246) X 4 dL_law_246 rfl ?_
  refine a_iconst (pc := 248) X dL_law_248 q_ic_5 ?_
  refine a_iadd (pc := 249) X dL_law_249 ?_
  obtain ⟨c_250, h⟩ := x_ck_elim h
  refine y_sld (pc := 250) X hB c_250 dL_law_250 ?_
  obtain ⟨y1, e_y1, h⟩ := x_bo_elim h
  refine a_callV (pc := 251) (st2 := [.int y1.1]) (vs2 := [y1.2, w1, w2]) X [(0, 0, 318)] [some y1.2] 0 0 11 [.int (xs (l4 + (1 : Int32)).toNatClampNeg), .int (xs (l4 + (2 : Int32)).toNatClampNeg), .int (xs (l4 + (3 : Int32)).toNatClampNeg), .int (xs (l4 + (4 : Int32)).toNatClampNeg), .int (xs (l4 + (5 : Int32)).toNatClampNeg)] [] cv_RL_22 (c_X11_feed (ad0 := ad0)  e_y1) rfl rfl rfl rfl rfl rfl rfl rfl rfl rfl rfl rfl rfl rfl rfl (Nat.le_of_ble_eq_true rfl) ⟨Nat.le_of_ble_eq_true rfl, Nat.le_of_ble_eq_true rfl⟩ dL_law_251 (fun _ => ?_) hr0
  refine a_aload_n (pc := 254) X 2 dL_law_254 rfl rfl ?_
  refine a_aload_n (pc := 255) X 0 dL_law_255 rfl rfl ?_
  refine a_iload (pc := 256) X 4 dL_law_256 rfl ?_
  refine a_iconst (pc := 258) X dL_law_258 q_ic_1 ?_
  refine a_iadd (pc := 259) X dL_law_259 ?_
  obtain ⟨c_260, h⟩ := x_ck_elim h
  refine y_sld (pc := 260) X hB c_260 dL_law_260 ?_
  refine a_aload_n (pc := 261) X 0 dL_law_261 rfl rfl ?_
  refine a_iload (pc := 262) X 4 dL_law_262 rfl ?_
  refine a_iconst (pc := 264) X dL_law_264 q_ic_2 ?_
  refine a_iadd (pc := 265) X dL_law_265 ?_
  obtain ⟨c_266, h⟩ := x_ck_elim h
  refine y_sld (pc := 266) X hB c_266 dL_law_266 ?_
  refine a_aload_n (pc := 267) X 0 dL_law_267 rfl rfl ?_
  refine a_iload (pc := 268) X 4 dL_law_268 rfl ?_
  refine a_iconst (pc := 270) X dL_law_270 q_ic_3 ?_
  refine a_iadd (pc := 271) X dL_law_271 ?_
  obtain ⟨c_272, h⟩ := x_ck_elim h
  refine y_sld (pc := 272) X hB c_272 dL_law_272 ?_
  refine a_aload_n (pc := 273) X 0 dL_law_273 rfl rfl ?_
  refine a_iload (pc := 274) X 4 dL_law_274 rfl ?_
  refine a_iconst (pc := 276) X dL_law_276 q_ic_4 ?_
  refine a_iadd (pc := 277) X dL_law_277 ?_
  obtain ⟨c_278, h⟩ := x_ck_elim h
  refine y_sld (pc := 278) X hB c_278 dL_law_278 ?_
  refine a_aload_n (pc := 279) X 0 dL_law_279 rfl rfl ?_
  refine a_iload (pc := 280) X 4 dL_law_280 rfl ?_
  refine a_iconst (pc := 282) X dL_law_282 q_ic_5 ?_
  refine a_iadd (pc := 283) X dL_law_283 ?_
  obtain ⟨c_284, h⟩ := x_ck_elim h
  refine y_sld (pc := 284) X hB c_284 dL_law_284 ?_
  obtain ⟨y2, e_y2, h⟩ := x_bo_elim h
  refine a_callV (pc := 285) (st2 := [.int y2.1, .int y1.1]) (vs2 := [y1.2, y2.2, w2]) X [(1, 0, 20)] [some y2.2] 1 0 12 [.int (xs (l4 + (1 : Int32)).toNatClampNeg), .int (xs (l4 + (2 : Int32)).toNatClampNeg), .int (xs (l4 + (3 : Int32)).toNatClampNeg), .int (xs (l4 + (4 : Int32)).toNatClampNeg), .int (xs (l4 + (5 : Int32)).toNatClampNeg)] [.int y1.1] cv_RL_26 (c_X12_feed (ad0 := ad1)  e_y2) rfl rfl rfl rfl rfl rfl rfl rfl rfl rfl rfl rfl rfl rfl rfl (Nat.le_of_ble_eq_true rfl) ⟨Nat.le_of_ble_eq_true rfl, Nat.le_of_ble_eq_true rfl⟩ dL_law_285 (fun _ => ?_) hr0
  refine a_icmp_eq (pc := 288) X 1427 dL_law_288 rfl (fun c_288 => ?_) (fun c_288 => ?_)
  · have h := x_ifp c_288 h
    refine y_wid ?_
    exact w_L_law_1427 X hB hA hl0 hNw hr0 hr1  hk23  h
  · have h := x_ifn c_288 h
    refine a_iconst (pc := 291) X dL_law_291 q_ic_0 ?_
    exact absurd (Option.some.inj h) (by decide)
set_option maxRecDepth 100000 in
set_option maxHeartbeats 4000000 in
theorem w_L_law_293 {p : Program} {l : Launch} {e : Env} {s : State} {m : MethodId} {below : List Frame} {meth : Method} {c : Code} {D : va_G} {tc : Nat → ClassId} {aK aV : Nat → Nat} {A : Nat → Prop} {b kc ks : Nat} {ad0 : Nat → Nat} {ad1 : Nat → Nat} {ad2 : Nat → Nat} {L : Nat} {xs : Nat → Int32} (X : Cx p s m #[Value.ref b] meth c code 7 ret RL D tc aK aV A [(shFoldRoads, ad0), (shModel, ad1), ((shLongs 1), ad2)]) (hB : va_X b L xs s s.heap ∧ b < s.heap.size ∧ ¬ A b) (hA : ∀ q, A q → s.heap.size ≤ q) (hl0 : l.stackTraces = false) (hNw : x_Nw s) (hr0 : kc ≤ room_1.cells ∧ ks ≤ room_1.slots) (hr1 : kc + 1 ≤ room_1.cells ∧ ks + 6 ≤ room_1.slots) {k23 : XM → XM → XM → Int32 → Option (Int32)} (hk23 : ∀ (w0 : XM) (w1 : XM) (w2 : XM) (l4 : Int32), k23 w0 w1 w2 l4 = some 1 → bW p l e room_1 s m #[Value.ref b] below meth c D tc A 7 [(shFoldRoads, ad0), (shModel, ad1), ((shLongs 1), ad2)] (kc + 1) (ks + 6) (lw_Z below #[Value.ref b] s) 23 [(0, .ref b), (1, .ref (ad0 0)), (2, .ref (ad1 0)), (3, .ref (ad2 0)), (4, .int l4)] [] [w0, w1, w2]) {w0 : XM} {w1 : XM} {w2 : XM} {l4 : Int32}  (h : f_L_law_293 L xs k23 w0 w1 w2 l4 = some 1) : bW p l e room_1 s m #[Value.ref b] below meth c D tc A 7 [(shFoldRoads, ad0), (shModel, ad1), ((shLongs 1), ad2)] kc ks (lw_Z below #[Value.ref b] s) 293 [(0, .ref b), (1, .ref (ad0 0)), (2, .ref (ad1 0)), (3, .ref (ad2 0)), (4, .int l4)] [] [w0, w1, w2] := by
  unfold f_L_law_293 at h
  refine a_aload_n (pc := 293) X 1 dL_law_293 rfl rfl ?_
  refine a_aload_n (pc := 294) X 0 dL_law_294 rfl rfl ?_
  refine a_iload (pc := 295) X 4 dL_law_295 rfl ?_
  refine a_iconst (pc := 297) X dL_law_297 q_ic_1 ?_
  refine a_iadd (pc := 298) X dL_law_298 ?_
  obtain ⟨c_299, h⟩ := x_ck_elim h
  refine y_sld (pc := 299) X hB c_299 dL_law_299 ?_
  obtain ⟨y3, e_y3, h⟩ := x_lt_elim h
  refine a_callV (pc := 300) (st2 := [.int y3.1]) (vs2 := [y3.2, w1, w2]) X [(0, 0, 318)] [some y3.2] 0 0 11 [.int (xs (l4 + (1 : Int32)).toNatClampNeg)] [] cv_RL_27 (c_X11_end (ad0 := ad0)  e_y3) rfl rfl rfl rfl rfl rfl rfl rfl rfl rfl rfl rfl rfl rfl rfl (Nat.le_of_ble_eq_true rfl) ⟨Nat.le_of_ble_eq_true rfl, Nat.le_of_ble_eq_true rfl⟩ dL_law_300 (fun z_300 => ?_) hr0
  refine a_aload_n (pc := 303) X 2 dL_law_303 rfl rfl ?_
  refine a_aload_n (pc := 304) X 0 dL_law_304 rfl rfl ?_
  refine a_iload (pc := 305) X 4 dL_law_305 rfl ?_
  refine a_iconst (pc := 307) X dL_law_307 q_ic_1 ?_
  refine a_iadd (pc := 308) X dL_law_308 ?_
  obtain ⟨c_309, h⟩ := x_ck_elim h
  refine y_sld (pc := 309) X hB c_309 dL_law_309 ?_
  obtain ⟨y4, e_y4, h⟩ := x_lt_elim h
  refine a_callV (pc := 310) (st2 := [.int y4.1, .int y3.1]) (vs2 := [y3.2, y4.2, w2]) X [(1, 0, 20)] [some y4.2] 1 0 12 [.int (xs (l4 + (1 : Int32)).toNatClampNeg)] [.int y3.1] cv_RL_31 (c_X12_end (ad0 := ad1)  e_y4) rfl rfl rfl rfl rfl rfl rfl rfl rfl rfl rfl rfl rfl rfl rfl (Nat.le_of_ble_eq_true rfl) ⟨Nat.le_of_ble_eq_true rfl, Nat.le_of_ble_eq_true rfl⟩ dL_law_310 (fun z_310 => ?_) hr0
  refine a_icmp_eq (pc := 313) X 1427 dL_law_313 rfl (fun c_313 => ?_) (fun c_313 => ?_)
  · have h := x_ifp c_313 h
    refine y_wid ?_
    exact w_L_law_1427 X hB hA hl0 hNw hr0 hr1  hk23  h
  · have h := x_ifn c_313 h
    refine a_iconst (pc := 316) X dL_law_316 q_ic_0 ?_
    exact absurd (Option.some.inj h) (by decide)
set_option maxRecDepth 100000 in
set_option maxHeartbeats 4000000 in
theorem w_L_law_318 {p : Program} {l : Launch} {e : Env} {s : State} {m : MethodId} {below : List Frame} {meth : Method} {c : Code} {D : va_G} {tc : Nat → ClassId} {aK aV : Nat → Nat} {A : Nat → Prop} {b kc ks : Nat} {ad0 : Nat → Nat} {ad1 : Nat → Nat} {ad2 : Nat → Nat} {L : Nat} {xs : Nat → Int32} (X : Cx p s m #[Value.ref b] meth c code 7 ret RL D tc aK aV A [(shFoldRoads, ad0), (shModel, ad1), ((shLongs 1), ad2)]) (hB : va_X b L xs s s.heap ∧ b < s.heap.size ∧ ¬ A b) (hA : ∀ q, A q → s.heap.size ≤ q) (hl0 : l.stackTraces = false) (hNw : x_Nw s) (hr0 : kc ≤ room_1.cells ∧ ks ≤ room_1.slots) (hr1 : kc + 1 ≤ room_1.cells ∧ ks + 6 ≤ room_1.slots) {k23 : XM → XM → XM → Int32 → Option (Int32)} (hk23 : ∀ (w0 : XM) (w1 : XM) (w2 : XM) (l4 : Int32), k23 w0 w1 w2 l4 = some 1 → bW p l e room_1 s m #[Value.ref b] below meth c D tc A 7 [(shFoldRoads, ad0), (shModel, ad1), ((shLongs 1), ad2)] (kc + 1) (ks + 6) (lw_Z below #[Value.ref b] s) 23 [(0, .ref b), (1, .ref (ad0 0)), (2, .ref (ad1 0)), (3, .ref (ad2 0)), (4, .int l4)] [] [w0, w1, w2]) {w0 : XM} {w1 : XM} {w2 : XM} {l4 : Int32}  (h : f_L_law_318 L xs k23 w0 w1 w2 l4 = some 1) : bW p l e room_1 s m #[Value.ref b] below meth c D tc A 7 [(shFoldRoads, ad0), (shModel, ad1), ((shLongs 1), ad2)] kc ks (lw_Z below #[Value.ref b] s) 318 [(0, .ref b), (1, .ref (ad0 0)), (2, .ref (ad1 0)), (3, .ref (ad2 0)), (4, .int l4)] [] [w0, w1, w2] := by
  unfold f_L_law_318 at h
  refine a_aload_n (pc := 318) X 1 dL_law_318 rfl rfl ?_
  obtain ⟨y5, e_y5, h⟩ := x_bo_elim h
  refine a_callV (pc := 319) (st2 := [.int y5.1]) (vs2 := [y5.2, w1, w2]) X [(0, 0, 318)] [some y5.2] 0 0 11 [] [] cv_RL_32 (c_X11_valley (ad0 := ad0)  e_y5) rfl rfl rfl rfl rfl rfl rfl rfl rfl rfl rfl rfl rfl rfl rfl (Nat.le_of_ble_eq_true rfl) ⟨Nat.le_of_ble_eq_true rfl, Nat.le_of_ble_eq_true rfl⟩ dL_law_319 (fun _ => ?_) hr0
  refine a_aload_n (pc := 322) X 2 dL_law_322 rfl rfl ?_
  obtain ⟨y6, e_y6, h⟩ := x_bo_elim h
  refine a_callV (pc := 323) (st2 := [.int y6.1, .int y5.1]) (vs2 := [y5.2, y6.2, w2]) X [(1, 0, 20)] [some y6.2] 1 0 12 [] [.int y5.1] cv_RL_36 (c_X12_valley (ad0 := ad1)  e_y6) rfl rfl rfl rfl rfl rfl rfl rfl rfl rfl rfl rfl rfl rfl rfl (Nat.le_of_ble_eq_true rfl) ⟨Nat.le_of_ble_eq_true rfl, Nat.le_of_ble_eq_true rfl⟩ dL_law_323 (fun _ => ?_) hr0
  refine a_icmp_eq (pc := 326) X 1427 dL_law_326 rfl (fun c_326 => ?_) (fun c_326 => ?_)
  · have h := x_ifp c_326 h
    refine y_wid ?_
    exact w_L_law_1427 X hB hA hl0 hNw hr0 hr1  hk23  h
  · have h := x_ifn c_326 h
    refine a_iconst (pc := 329) X dL_law_329 q_ic_0 ?_
    exact absurd (Option.some.inj h) (by decide)
set_option maxRecDepth 100000 in
set_option maxHeartbeats 4000000 in
theorem w_L_law_331 {p : Program} {l : Launch} {e : Env} {s : State} {m : MethodId} {below : List Frame} {meth : Method} {c : Code} {D : va_G} {tc : Nat → ClassId} {aK aV : Nat → Nat} {A : Nat → Prop} {b kc ks : Nat} {ad0 : Nat → Nat} {ad1 : Nat → Nat} {ad2 : Nat → Nat} {L : Nat} {xs : Nat → Int32} (X : Cx p s m #[Value.ref b] meth c code 7 ret RL D tc aK aV A [(shFoldRoads, ad0), (shModel, ad1), ((shLongs 1), ad2)]) (hB : va_X b L xs s s.heap ∧ b < s.heap.size ∧ ¬ A b) (hA : ∀ q, A q → s.heap.size ≤ q) (hl0 : l.stackTraces = false) (hNw : x_Nw s) (hr0 : kc ≤ room_1.cells ∧ ks ≤ room_1.slots) (hr1 : kc + 1 ≤ room_1.cells ∧ ks + 6 ≤ room_1.slots) {k23 : XM → XM → XM → Int32 → Option (Int32)} (hk23 : ∀ (w0 : XM) (w1 : XM) (w2 : XM) (l4 : Int32), k23 w0 w1 w2 l4 = some 1 → bW p l e room_1 s m #[Value.ref b] below meth c D tc A 7 [(shFoldRoads, ad0), (shModel, ad1), ((shLongs 1), ad2)] (kc + 1) (ks + 6) (lw_Z below #[Value.ref b] s) 23 [(0, .ref b), (1, .ref (ad0 0)), (2, .ref (ad1 0)), (3, .ref (ad2 0)), (4, .int l4)] [] [w0, w1, w2]) {w0 : XM} {w1 : XM} {w2 : XM} {l4 : Int32}  (h : f_L_law_331 L xs k23 w0 w1 w2 l4 = some 1) : bW p l e room_1 s m #[Value.ref b] below meth c D tc A 7 [(shFoldRoads, ad0), (shModel, ad1), ((shLongs 1), ad2)] kc ks (lw_Z below #[Value.ref b] s) 331 [(0, .ref b), (1, .ref (ad0 0)), (2, .ref (ad1 0)), (3, .ref (ad2 0)), (4, .int l4)] [] [w0, w1, w2] := by
  unfold f_L_law_331 at h
  refine a_aload_n (pc := 331) X 1 dL_law_331 rfl rfl ?_
  obtain ⟨y7, e_y7, h⟩ := x_lt_elim h
  refine a_callV (pc := 332) (st2 := [.int y7]) (vs2 := [w0, w1, w2]) X [(0, 0, 318)] [none] 0 0 11 [] [] cv_RL_37 (c_X11_fault (ad0 := ad0)  e_y7) rfl rfl rfl rfl rfl rfl rfl rfl rfl rfl rfl rfl rfl rfl rfl (Nat.le_of_ble_eq_true rfl) ⟨Nat.le_of_ble_eq_true rfl, Nat.le_of_ble_eq_true rfl⟩ dL_law_332 (fun _ => ?_) hr0
  refine a_aload_n (pc := 335) X 2 dL_law_335 rfl rfl ?_
  obtain ⟨y8, e_y8, h⟩ := x_lt_elim h
  refine a_callV (pc := 336) (st2 := [.int y8.1, .int y7]) (vs2 := [w0, y8.2, w2]) X [(1, 0, 20)] [some y8.2] 1 0 12 [] [.int y7] cv_RL_40 (c_X12_fault (ad0 := ad1)  e_y8) rfl rfl rfl rfl rfl rfl rfl rfl rfl rfl rfl rfl rfl rfl rfl (Nat.le_of_ble_eq_true rfl) ⟨Nat.le_of_ble_eq_true rfl, Nat.le_of_ble_eq_true rfl⟩ dL_law_336 (fun _ => ?_) hr0
  refine a_icmp_eq (pc := 339) X 1427 dL_law_339 rfl (fun c_339 => ?_) (fun c_339 => ?_)
  · have h := x_ifp c_339 h
    refine y_wid ?_
    exact w_L_law_1427 X hB hA hl0 hNw hr0 hr1  hk23  h
  · have h := x_ifn c_339 h
    refine a_iconst (pc := 342) X dL_law_342 q_ic_0 ?_
    exact absurd (Option.some.inj h) (by decide)
set_option maxRecDepth 100000 in
set_option maxHeartbeats 4000000 in
theorem w_L_law_409 {p : Program} {l : Launch} {e : Env} {s : State} {m : MethodId} {below : List Frame} {meth : Method} {c : Code} {D : va_G} {tc : Nat → ClassId} {aK aV : Nat → Nat} {A : Nat → Prop} {b kc ks : Nat} {ad0 : Nat → Nat} {ad1 : Nat → Nat} {ad2 : Nat → Nat} {L : Nat} {xs : Nat → Int32} (X : Cx p s m #[Value.ref b] meth c code 7 ret RL D tc aK aV A [(shFoldRoads, ad0), (shModel, ad1), ((shLongs 1), ad2)]) (hB : va_X b L xs s s.heap ∧ b < s.heap.size ∧ ¬ A b) (hA : ∀ q, A q → s.heap.size ≤ q) (hl0 : l.stackTraces = false) (hNw : x_Nw s) (hr0 : kc ≤ room_1.cells ∧ ks ≤ room_1.slots) (hr1 : kc + 1 ≤ room_1.cells ∧ ks + 6 ≤ room_1.slots) {k23 : XM → XM → XM → Int32 → Option (Int32)} (hk23 : ∀ (w0 : XM) (w1 : XM) (w2 : XM) (l4 : Int32), k23 w0 w1 w2 l4 = some 1 → bW p l e room_1 s m #[Value.ref b] below meth c D tc A 7 [(shFoldRoads, ad0), (shModel, ad1), ((shLongs 1), ad2)] (kc + 1) (ks + 6) (lw_Z below #[Value.ref b] s) 23 [(0, .ref b), (1, .ref (ad0 0)), (2, .ref (ad1 0)), (3, .ref (ad2 0)), (4, .int l4)] [] [w0, w1, w2]) {w0 : XM} {w1 : XM} {w2 : XM} {l4 : Int32}  (h : f_L_law_409 L xs k23 w0 w1 w2 l4 = some 1) : bW p l e room_1 s m #[Value.ref b] below meth c D tc A 7 [(shFoldRoads, ad0), (shModel, ad1), ((shLongs 1), ad2)] (kc + 1) (ks + 6) (lw_Z below #[Value.ref b] s) 409 [(0, .ref b), (1, .ref (ad0 0)), (2, .ref (ad1 0)), (3, .ref (ad2 0)), (4, .int l4)] [] [w0, w1, w2] := by
  unfold f_L_law_409 at h
  refine a_goto (pc := 409) X 1427 dL_law_409 rfl ?_
  exact w_L_law_1427 X hB hA hl0 hNw hr0 hr1  hk23  h
set_option maxRecDepth 100000 in
set_option maxHeartbeats 4000000 in
theorem w_L_law_344 {p : Program} {l : Launch} {e : Env} {s : State} {m : MethodId} {below : List Frame} {meth : Method} {c : Code} {D : va_G} {tc : Nat → ClassId} {aK aV : Nat → Nat} {A : Nat → Prop} {b kc ks : Nat} {ad0 : Nat → Nat} {ad1 : Nat → Nat} {ad2 : Nat → Nat} {L : Nat} {xs : Nat → Int32} (X : Cx p s m #[Value.ref b] meth c code 7 ret RL D tc aK aV A [(shFoldRoads, ad0), (shModel, ad1), ((shLongs 1), ad2)]) (hB : va_X b L xs s s.heap ∧ b < s.heap.size ∧ ¬ A b) (hA : ∀ q, A q → s.heap.size ≤ q) (hl0 : l.stackTraces = false) (hNw : x_Nw s) (hr0 : kc ≤ room_1.cells ∧ ks ≤ room_1.slots) (hr1 : kc + 1 ≤ room_1.cells ∧ ks + 6 ≤ room_1.slots) {k23 : XM → XM → XM → Int32 → Option (Int32)} (hk23 : ∀ (w0 : XM) (w1 : XM) (w2 : XM) (l4 : Int32), k23 w0 w1 w2 l4 = some 1 → bW p l e room_1 s m #[Value.ref b] below meth c D tc A 7 [(shFoldRoads, ad0), (shModel, ad1), ((shLongs 1), ad2)] (kc + 1) (ks + 6) (lw_Z below #[Value.ref b] s) 23 [(0, .ref b), (1, .ref (ad0 0)), (2, .ref (ad1 0)), (3, .ref (ad2 0)), (4, .int l4)] [] [w0, w1, w2]) {w0 : XM} {w1 : XM} {w2 : XM} {l4 : Int32}  (h : f_L_law_344 L xs k23 w0 w1 w2 l4 = some 1) : bW p l e room_1 s m #[Value.ref b] below meth c D tc A 7 [(shFoldRoads, ad0), (shModel, ad1), ((shLongs 1), ad2)] kc ks (lw_Z below #[Value.ref b] s) 344 [(0, .ref b), (1, .ref (ad0 0)), (2, .ref (ad1 0)), (3, .ref (ad2 0)), (4, .int l4)] [] [w0, w1, w2] := by
  unfold f_L_law_344 at h
  refine a_aload_n (pc := 344) X 1 dL_law_344 rfl rfl ?_
  refine a_aload_n (pc := 345) X 0 dL_law_345 rfl rfl ?_
  refine a_iload (pc := 346) X 4 dL_law_346 rfl ?_
  refine a_iconst (pc := 348) X dL_law_348 q_ic_1 ?_
  refine a_iadd (pc := 349) X dL_law_349 ?_
  obtain ⟨c_350, h⟩ := x_ck_elim h
  refine y_sld (pc := 350) X hB c_350 dL_law_350 ?_
  refine a_aload_n (pc := 351) X 0 dL_law_351 rfl rfl ?_
  refine a_iload (pc := 352) X 4 dL_law_352 rfl ?_
  refine a_iconst (pc := 354) X dL_law_354 q_ic_2 ?_
  refine a_iadd (pc := 355) X dL_law_355 ?_
  obtain ⟨c_356, h⟩ := x_ck_elim h
  refine y_sld (pc := 356) X hB c_356 dL_law_356 ?_
  refine a_aload_n (pc := 357) X 3 dL_law_357 rfl rfl ?_
  obtain ⟨y9, e_y9, h⟩ := x_bo_elim h
  refine y_callSW (pc := 358) (st2 := [.int y9.1]) (vs2 := [y9.2.1, w1, y9.2.2]) X hNw [(0, 0, 318), (2, 0, 1)] [some y9.2.1, some y9.2.2] [.ref (ad0 0), .int (xs (l4 + (1 : Int32)).toNatClampNeg), .int (xs (l4 + (2 : Int32)).toNatClampNeg), .ref (ad2 0)] [] cw_RL_41 (c_L_walker hl0 (ad0 := ad0) (ad1 := ad2) e_y9) rfl rfl rfl rfl rfl rfl rfl rfl rfl rfl rfl (Nat.le_of_ble_eq_true rfl) ⟨Nat.le_of_ble_eq_true rfl, Nat.le_of_ble_eq_true rfl⟩ dL_law_358 hr1 ?_
  refine a_istore (pc := 361) X [(5, .int y9.1), (0, .ref b), (1, .ref (ad0 0)), (2, .ref (ad1 0)), (3, .ref (ad2 0)), (4, .int l4)] dL_law_361 (by decide) rfl ?_
  refine a_aload_n (pc := 363) X 3 dL_law_363 rfl rfl ?_
  refine a_aload_n (pc := 364) X 1 dL_law_364 rfl rfl ?_
  refine a_iload (pc := 365) X 5 dL_law_365 rfl ?_
  refine a_iconst (pc := 367) X dL_law_367 q_ic_1 ?_
  refine a_iadd (pc := 368) X dL_law_368 ?_
  obtain ⟨c_369, h⟩ := x_ck_elim h
  refine y_sld (pc := 369) X hB c_369 dL_law_369 ?_
  refine a_aload_n (pc := 370) X 1 dL_law_370 rfl rfl ?_
  refine a_iload (pc := 371) X 5 dL_law_371 rfl ?_
  refine a_iconst (pc := 373) X dL_law_373 q_ic_2 ?_
  refine a_iadd (pc := 374) X dL_law_374 ?_
  obtain ⟨c_375, h⟩ := x_ck_elim h
  refine y_sld (pc := 375) X hB c_375 dL_law_375 ?_
  obtain ⟨y10, e_y10, h⟩ := x_bo_elim h
  refine a_callV (pc := 376) (st2 := [.int y10.1]) (vs2 := [y9.2.1, y10.2, y9.2.2]) X [(1, 0, 20)] [some y10.2] 1 0 12 [.int (xs (l4 + (1 : Int32)).toNatClampNeg), .int (xs (l4 + (2 : Int32)).toNatClampNeg)] [] cv_RL_46 (c_X12_walker (ad0 := ad1)  e_y10) rfl rfl rfl rfl rfl rfl rfl rfl rfl rfl rfl rfl rfl rfl rfl (Nat.le_of_ble_eq_true rfl) ⟨Nat.le_of_ble_eq_true rfl, Nat.le_of_ble_eq_true rfl⟩ dL_law_376 (fun _ => ?_) hr1
  refine a_istore (pc := 379) X [(6, .int y10.1), (5, .int y9.1), (0, .ref b), (1, .ref (ad0 0)), (2, .ref (ad1 0)), (3, .ref (ad2 0)), (4, .int l4)] dL_law_379 (by decide) rfl ?_
  refine a_aload_n (pc := 381) X 4 dL_law_381 rfl rfl ?_
  obtain ⟨y11, e_y11, h⟩ := x_lt_elim h
  refine a_callV (pc := 382) (st2 := [.int y11]) (vs2 := [y9.2.1, y10.2, y9.2.2]) X [(1, 0, 20)] [none] 1 0 12 [] [] cv_RL_47 (c_X12_thrown (ad0 := ad1)  e_y11) rfl rfl rfl rfl rfl rfl rfl rfl rfl rfl rfl rfl rfl rfl rfl (Nat.le_of_ble_eq_true rfl) ⟨Nat.le_of_ble_eq_true rfl, Nat.le_of_ble_eq_true rfl⟩ dL_law_382 (fun _ => ?_) hr1
  refine a_iload (pc := 385) X 1 dL_law_385 rfl ?_
  refine a_icmp_eq (pc := 387) X 392 dL_law_387 rfl (fun c_387 => ?_) (fun c_387 => ?_)
  · have h := x_ifp c_387 h
    refine a_iload (pc := 392) X 1 dL_law_392 rfl ?_
    refine a_if_ne (pc := 394) X 409 dL_law_394 rfl (fun c_394 => ?_) (fun c_394 => ?_)
    · have h := x_ifn c_394 h
      refine a_sub [2, 3, 4, 5, 6] rfl ?_
      exact w_L_law_409 X hB hA hl0 hNw hr0 hr1  hk23  h
    · have h := x_ifp c_394 h
      refine a_aload_n (pc := 397) X 5 dL_law_397 rfl rfl ?_
      refine a_iconst (pc := 398) X dL_law_398 q_ic_0 ?_
      refine a_lald (pc := 399) X 2 rfl rfl rfl (x_inl (by decide)) dL_law_399 ?_
      refine a_iload (pc := 400) X 0 dL_law_400 rfl ?_
      refine a_i2l (pc := 402) X dL_law_402 ?_
      refine a_lcmp (pc := 403) X dL_law_403 ?_
      refine a_if_eq (pc := 404) X 409 dL_law_404 rfl (fun c_404 => ?_) (fun c_404 => ?_)
      · have h := x_ifp c_404 h
        refine a_sub [2, 3, 4, 5, 6] rfl ?_
        exact w_L_law_409 X hB hA hl0 hNw hr0 hr1  hk23  h
      · have h := x_ifn c_404 h
        refine a_iconst (pc := 407) X dL_law_407 q_ic_0 ?_
        exact absurd (Option.some.inj h) (by decide)
  · have h := x_ifn c_387 h
    refine a_iconst (pc := 390) X dL_law_390 q_ic_0 ?_
    exact absurd (Option.some.inj h) (by decide)
set_option maxRecDepth 100000 in
set_option maxHeartbeats 4000000 in
theorem w_L_law_412 {p : Program} {l : Launch} {e : Env} {s : State} {m : MethodId} {below : List Frame} {meth : Method} {c : Code} {D : va_G} {tc : Nat → ClassId} {aK aV : Nat → Nat} {A : Nat → Prop} {b kc ks : Nat} {ad0 : Nat → Nat} {ad1 : Nat → Nat} {ad2 : Nat → Nat} {L : Nat} {xs : Nat → Int32} (X : Cx p s m #[Value.ref b] meth c code 7 ret RL D tc aK aV A [(shFoldRoads, ad0), (shModel, ad1), ((shLongs 1), ad2)]) (hB : va_X b L xs s s.heap ∧ b < s.heap.size ∧ ¬ A b) (hA : ∀ q, A q → s.heap.size ≤ q) (hl0 : l.stackTraces = false) (hNw : x_Nw s) (hr0 : kc ≤ room_1.cells ∧ ks ≤ room_1.slots) (hr1 : kc + 1 ≤ room_1.cells ∧ ks + 6 ≤ room_1.slots) {k23 : XM → XM → XM → Int32 → Option (Int32)} (hk23 : ∀ (w0 : XM) (w1 : XM) (w2 : XM) (l4 : Int32), k23 w0 w1 w2 l4 = some 1 → bW p l e room_1 s m #[Value.ref b] below meth c D tc A 7 [(shFoldRoads, ad0), (shModel, ad1), ((shLongs 1), ad2)] (kc + 1) (ks + 6) (lw_Z below #[Value.ref b] s) 23 [(0, .ref b), (1, .ref (ad0 0)), (2, .ref (ad1 0)), (3, .ref (ad2 0)), (4, .int l4)] [] [w0, w1, w2]) {w0 : XM} {w1 : XM} {w2 : XM} {l4 : Int32}  (h : f_L_law_412 L xs k23 w0 w1 w2 l4 = some 1) : bW p l e room_1 s m #[Value.ref b] below meth c D tc A 7 [(shFoldRoads, ad0), (shModel, ad1), ((shLongs 1), ad2)] kc ks (lw_Z below #[Value.ref b] s) 412 [(0, .ref b), (1, .ref (ad0 0)), (2, .ref (ad1 0)), (3, .ref (ad2 0)), (4, .int l4)] [] [w0, w1, w2] := by
  unfold f_L_law_412 at h
  refine a_aload_n (pc := 412) X 1 dL_law_412 rfl rfl ?_
  refine a_aload_n (pc := 413) X 0 dL_law_413 rfl rfl ?_
  refine a_iload (pc := 414) X 4 dL_law_414 rfl ?_
  refine a_iconst (pc := 416) X dL_law_416 q_ic_1 ?_
  refine a_iadd (pc := 417) X dL_law_417 ?_
  obtain ⟨c_418, h⟩ := x_ck_elim h
  refine y_sld (pc := 418) X hB c_418 dL_law_418 ?_
  refine a_aload_n (pc := 419) X 0 dL_law_419 rfl rfl ?_
  refine a_iload (pc := 420) X 4 dL_law_420 rfl ?_
  refine a_iconst (pc := 422) X dL_law_422 q_ic_2 ?_
  refine a_iadd (pc := 423) X dL_law_423 ?_
  obtain ⟨c_424, h⟩ := x_ck_elim h
  refine y_sld (pc := 424) X hB c_424 dL_law_424 ?_
  obtain ⟨y12, e_y12, h⟩ := x_bo_elim h
  refine a_callV (pc := 425) (st2 := [.int y12]) (vs2 := [w0, w1, w2]) X [(0, 0, 318)] [none] 0 0 11 [.int (xs (l4 + (1 : Int32)).toNatClampNeg), .int (xs (l4 + (2 : Int32)).toNatClampNeg)] [] cv_RL_50 (c_X11_fold (ad0 := ad0)  e_y12) rfl rfl rfl rfl rfl rfl rfl rfl rfl rfl rfl rfl rfl rfl rfl (Nat.le_of_ble_eq_true rfl) ⟨Nat.le_of_ble_eq_true rfl, Nat.le_of_ble_eq_true rfl⟩ dL_law_425 (fun _ => ?_) hr0
  refine a_aload_n (pc := 428) X 2 dL_law_428 rfl rfl ?_
  refine a_aload_n (pc := 429) X 0 dL_law_429 rfl rfl ?_
  refine a_iload (pc := 430) X 4 dL_law_430 rfl ?_
  refine a_iconst (pc := 432) X dL_law_432 q_ic_1 ?_
  refine a_iadd (pc := 433) X dL_law_433 ?_
  obtain ⟨c_434, h⟩ := x_ck_elim h
  refine y_sld (pc := 434) X hB c_434 dL_law_434 ?_
  refine a_aload_n (pc := 435) X 0 dL_law_435 rfl rfl ?_
  refine a_iload (pc := 436) X 4 dL_law_436 rfl ?_
  refine a_iconst (pc := 438) X dL_law_438 q_ic_2 ?_
  refine a_iadd (pc := 439) X dL_law_439 ?_
  obtain ⟨c_440, h⟩ := x_ck_elim h
  refine y_sld (pc := 440) X hB c_440 dL_law_440 ?_
  obtain ⟨y13, e_y13, h⟩ := x_bo_elim h
  refine a_callV (pc := 441) (st2 := [.int y13.1, .int y12]) (vs2 := [w0, y13.2, w2]) X [(1, 0, 20)] [some y13.2] 1 0 12 [.int (xs (l4 + (1 : Int32)).toNatClampNeg), .int (xs (l4 + (2 : Int32)).toNatClampNeg)] [.int y12] cv_RL_53 (c_X12_fold (ad0 := ad1)  e_y13) rfl rfl rfl rfl rfl rfl rfl rfl rfl rfl rfl rfl rfl rfl rfl (Nat.le_of_ble_eq_true rfl) ⟨Nat.le_of_ble_eq_true rfl, Nat.le_of_ble_eq_true rfl⟩ dL_law_441 (fun _ => ?_) hr0
  refine a_icmp_eq (pc := 444) X 1427 dL_law_444 rfl (fun c_444 => ?_) (fun c_444 => ?_)
  · have h := x_ifp c_444 h
    refine y_wid ?_
    exact w_L_law_1427 X hB hA hl0 hNw hr0 hr1  hk23  h
  · have h := x_ifn c_444 h
    refine a_iconst (pc := 447) X dL_law_447 q_ic_0 ?_
    exact absurd (Option.some.inj h) (by decide)
set_option maxRecDepth 100000 in
set_option maxHeartbeats 4000000 in
theorem w_L_law_449 {p : Program} {l : Launch} {e : Env} {s : State} {m : MethodId} {below : List Frame} {meth : Method} {c : Code} {D : va_G} {tc : Nat → ClassId} {aK aV : Nat → Nat} {A : Nat → Prop} {b kc ks : Nat} {ad0 : Nat → Nat} {ad1 : Nat → Nat} {ad2 : Nat → Nat} {L : Nat} {xs : Nat → Int32} (X : Cx p s m #[Value.ref b] meth c code 7 ret RL D tc aK aV A [(shFoldRoads, ad0), (shModel, ad1), ((shLongs 1), ad2)]) (hB : va_X b L xs s s.heap ∧ b < s.heap.size ∧ ¬ A b) (hA : ∀ q, A q → s.heap.size ≤ q) (hl0 : l.stackTraces = false) (hNw : x_Nw s) (hr0 : kc ≤ room_1.cells ∧ ks ≤ room_1.slots) (hr1 : kc + 1 ≤ room_1.cells ∧ ks + 6 ≤ room_1.slots) {k23 : XM → XM → XM → Int32 → Option (Int32)} (hk23 : ∀ (w0 : XM) (w1 : XM) (w2 : XM) (l4 : Int32), k23 w0 w1 w2 l4 = some 1 → bW p l e room_1 s m #[Value.ref b] below meth c D tc A 7 [(shFoldRoads, ad0), (shModel, ad1), ((shLongs 1), ad2)] (kc + 1) (ks + 6) (lw_Z below #[Value.ref b] s) 23 [(0, .ref b), (1, .ref (ad0 0)), (2, .ref (ad1 0)), (3, .ref (ad2 0)), (4, .int l4)] [] [w0, w1, w2]) {w0 : XM} {w1 : XM} {w2 : XM} {l4 : Int32}  (h : f_L_law_449 L xs k23 w0 w1 w2 l4 = some 1) : bW p l e room_1 s m #[Value.ref b] below meth c D tc A 7 [(shFoldRoads, ad0), (shModel, ad1), ((shLongs 1), ad2)] kc ks (lw_Z below #[Value.ref b] s) 449 [(0, .ref b), (1, .ref (ad0 0)), (2, .ref (ad1 0)), (3, .ref (ad2 0)), (4, .int l4)] [] [w0, w1, w2] := by
  unfold f_L_law_449 at h
  refine a_aload_n (pc := 449) X 1 dL_law_449 rfl rfl ?_
  refine a_aload_n (pc := 450) X 0 dL_law_450 rfl rfl ?_
  refine a_iload (pc := 451) X 4 dL_law_451 rfl ?_
  refine a_iconst (pc := 453) X dL_law_453 q_ic_1 ?_
  refine a_iadd (pc := 454) X dL_law_454 ?_
  obtain ⟨c_455, h⟩ := x_ck_elim h
  refine y_sld (pc := 455) X hB c_455 dL_law_455 ?_
  refine a_aload_n (pc := 456) X 0 dL_law_456 rfl rfl ?_
  refine a_iload (pc := 457) X 4 dL_law_457 rfl ?_
  refine a_iconst (pc := 459) X dL_law_459 q_ic_2 ?_
  refine a_iadd (pc := 460) X dL_law_460 ?_
  obtain ⟨c_461, h⟩ := x_ck_elim h
  refine y_sld (pc := 461) X hB c_461 dL_law_461 ?_
  obtain ⟨y14, e_y14, h⟩ := x_bo_elim h
  refine a_callV (pc := 462) (st2 := [.int y14]) (vs2 := [w0, w1, w2]) X [(0, 0, 318)] [none] 0 0 11 [.int (xs (l4 + (1 : Int32)).toNatClampNeg), .int (xs (l4 + (2 : Int32)).toNatClampNeg)] [] cv_RL_54 (c_X11_spot (ad0 := ad0)  e_y14) rfl rfl rfl rfl rfl rfl rfl rfl rfl rfl rfl rfl rfl rfl rfl (Nat.le_of_ble_eq_true rfl) ⟨Nat.le_of_ble_eq_true rfl, Nat.le_of_ble_eq_true rfl⟩ dL_law_462 (fun _ => ?_) hr0
  refine a_aload_n (pc := 465) X 2 dL_law_465 rfl rfl ?_
  refine a_aload_n (pc := 466) X 0 dL_law_466 rfl rfl ?_
  refine a_iload (pc := 467) X 4 dL_law_467 rfl ?_
  refine a_iconst (pc := 469) X dL_law_469 q_ic_1 ?_
  refine a_iadd (pc := 470) X dL_law_470 ?_
  obtain ⟨c_471, h⟩ := x_ck_elim h
  refine y_sld (pc := 471) X hB c_471 dL_law_471 ?_
  refine a_aload_n (pc := 472) X 0 dL_law_472 rfl rfl ?_
  refine a_iload (pc := 473) X 4 dL_law_473 rfl ?_
  refine a_iconst (pc := 475) X dL_law_475 q_ic_2 ?_
  refine a_iadd (pc := 476) X dL_law_476 ?_
  obtain ⟨c_477, h⟩ := x_ck_elim h
  refine y_sld (pc := 477) X hB c_477 dL_law_477 ?_
  obtain ⟨y15, e_y15, h⟩ := x_bo_elim h
  refine a_callV (pc := 478) (st2 := [.int y15.1, .int y14]) (vs2 := [w0, y15.2, w2]) X [(1, 0, 20)] [some y15.2] 1 0 12 [.int (xs (l4 + (1 : Int32)).toNatClampNeg), .int (xs (l4 + (2 : Int32)).toNatClampNeg)] [.int y14] cv_RL_57 (c_X12_spot (ad0 := ad1)  e_y15) rfl rfl rfl rfl rfl rfl rfl rfl rfl rfl rfl rfl rfl rfl rfl (Nat.le_of_ble_eq_true rfl) ⟨Nat.le_of_ble_eq_true rfl, Nat.le_of_ble_eq_true rfl⟩ dL_law_478 (fun _ => ?_) hr0
  refine a_icmp_eq (pc := 481) X 1427 dL_law_481 rfl (fun c_481 => ?_) (fun c_481 => ?_)
  · have h := x_ifp c_481 h
    refine y_wid ?_
    exact w_L_law_1427 X hB hA hl0 hNw hr0 hr1  hk23  h
  · have h := x_ifn c_481 h
    refine a_iconst (pc := 484) X dL_law_484 q_ic_0 ?_
    exact absurd (Option.some.inj h) (by decide)
set_option maxRecDepth 100000 in
set_option maxHeartbeats 4000000 in
theorem w_L_law_486 {p : Program} {l : Launch} {e : Env} {s : State} {m : MethodId} {below : List Frame} {meth : Method} {c : Code} {D : va_G} {tc : Nat → ClassId} {aK aV : Nat → Nat} {A : Nat → Prop} {b kc ks : Nat} {ad0 : Nat → Nat} {ad1 : Nat → Nat} {ad2 : Nat → Nat} {L : Nat} {xs : Nat → Int32} (X : Cx p s m #[Value.ref b] meth c code 7 ret RL D tc aK aV A [(shFoldRoads, ad0), (shModel, ad1), ((shLongs 1), ad2)]) (hB : va_X b L xs s s.heap ∧ b < s.heap.size ∧ ¬ A b) (hA : ∀ q, A q → s.heap.size ≤ q) (hl0 : l.stackTraces = false) (hNw : x_Nw s) (hr0 : kc ≤ room_1.cells ∧ ks ≤ room_1.slots) (hr1 : kc + 1 ≤ room_1.cells ∧ ks + 6 ≤ room_1.slots) {k23 : XM → XM → XM → Int32 → Option (Int32)} (hk23 : ∀ (w0 : XM) (w1 : XM) (w2 : XM) (l4 : Int32), k23 w0 w1 w2 l4 = some 1 → bW p l e room_1 s m #[Value.ref b] below meth c D tc A 7 [(shFoldRoads, ad0), (shModel, ad1), ((shLongs 1), ad2)] (kc + 1) (ks + 6) (lw_Z below #[Value.ref b] s) 23 [(0, .ref b), (1, .ref (ad0 0)), (2, .ref (ad1 0)), (3, .ref (ad2 0)), (4, .int l4)] [] [w0, w1, w2]) {w0 : XM} {w1 : XM} {w2 : XM} {l4 : Int32}  (h : f_L_law_486 L xs k23 w0 w1 w2 l4 = some 1) : bW p l e room_1 s m #[Value.ref b] below meth c D tc A 7 [(shFoldRoads, ad0), (shModel, ad1), ((shLongs 1), ad2)] kc ks (lw_Z below #[Value.ref b] s) 486 [(0, .ref b), (1, .ref (ad0 0)), (2, .ref (ad1 0)), (3, .ref (ad2 0)), (4, .int l4)] [] [w0, w1, w2] := by
  unfold f_L_law_486 at h
  refine a_aload_n (pc := 486) X 1 dL_law_486 rfl rfl ?_
  refine a_aload_n (pc := 487) X 0 dL_law_487 rfl rfl ?_
  refine a_iload (pc := 488) X 4 dL_law_488 rfl ?_
  refine a_iconst (pc := 490) X dL_law_490 q_ic_1 ?_
  refine a_iadd (pc := 491) X dL_law_491 ?_
  obtain ⟨c_492, h⟩ := x_ck_elim h
  refine y_sld (pc := 492) X hB c_492 dL_law_492 ?_
  obtain ⟨y16, e_y16, h⟩ := x_bo_elim h
  refine a_callV (pc := 493) (st2 := [.int y16.1]) (vs2 := [y16.2, w1, w2]) X [(0, 0, 318)] [some y16.2] 0 0 11 [.int (xs (l4 + (1 : Int32)).toNatClampNeg)] [] cv_RL_58 (c_X11_now (ad0 := ad0)  e_y16) rfl rfl rfl rfl rfl rfl rfl rfl rfl rfl rfl rfl rfl rfl rfl (Nat.le_of_ble_eq_true rfl) ⟨Nat.le_of_ble_eq_true rfl, Nat.le_of_ble_eq_true rfl⟩ dL_law_493 (fun _ => ?_) hr0
  refine a_aload_n (pc := 496) X 2 dL_law_496 rfl rfl ?_
  refine a_aload_n (pc := 497) X 0 dL_law_497 rfl rfl ?_
  refine a_iload (pc := 498) X 4 dL_law_498 rfl ?_
  refine a_iconst (pc := 500) X dL_law_500 q_ic_1 ?_
  refine a_iadd (pc := 501) X dL_law_501 ?_
  obtain ⟨c_502, h⟩ := x_ck_elim h
  refine y_sld (pc := 502) X hB c_502 dL_law_502 ?_
  obtain ⟨y17, e_y17, h⟩ := x_bo_elim h
  refine a_callV (pc := 503) (st2 := [.int y17.1, .int y16.1]) (vs2 := [y16.2, y17.2, w2]) X [(1, 0, 20)] [some y17.2] 1 0 12 [.int (xs (l4 + (1 : Int32)).toNatClampNeg)] [.int y16.1] cv_RL_62 (c_X12_now (ad0 := ad1)  e_y17) rfl rfl rfl rfl rfl rfl rfl rfl rfl rfl rfl rfl rfl rfl rfl (Nat.le_of_ble_eq_true rfl) ⟨Nat.le_of_ble_eq_true rfl, Nat.le_of_ble_eq_true rfl⟩ dL_law_503 (fun _ => ?_) hr0
  refine a_icmp_eq (pc := 506) X 1427 dL_law_506 rfl (fun c_506 => ?_) (fun c_506 => ?_)
  · have h := x_ifp c_506 h
    refine y_wid ?_
    exact w_L_law_1427 X hB hA hl0 hNw hr0 hr1  hk23  h
  · have h := x_ifn c_506 h
    refine a_iconst (pc := 509) X dL_law_509 q_ic_0 ?_
    exact absurd (Option.some.inj h) (by decide)
set_option maxRecDepth 100000 in
set_option maxHeartbeats 4000000 in
theorem w_L_law_511 {p : Program} {l : Launch} {e : Env} {s : State} {m : MethodId} {below : List Frame} {meth : Method} {c : Code} {D : va_G} {tc : Nat → ClassId} {aK aV : Nat → Nat} {A : Nat → Prop} {b kc ks : Nat} {ad0 : Nat → Nat} {ad1 : Nat → Nat} {ad2 : Nat → Nat} {L : Nat} {xs : Nat → Int32} (X : Cx p s m #[Value.ref b] meth c code 7 ret RL D tc aK aV A [(shFoldRoads, ad0), (shModel, ad1), ((shLongs 1), ad2)]) (hB : va_X b L xs s s.heap ∧ b < s.heap.size ∧ ¬ A b) (hA : ∀ q, A q → s.heap.size ≤ q) (hl0 : l.stackTraces = false) (hNw : x_Nw s) (hr0 : kc ≤ room_1.cells ∧ ks ≤ room_1.slots) (hr1 : kc + 1 ≤ room_1.cells ∧ ks + 6 ≤ room_1.slots) {k23 : XM → XM → XM → Int32 → Option (Int32)} (hk23 : ∀ (w0 : XM) (w1 : XM) (w2 : XM) (l4 : Int32), k23 w0 w1 w2 l4 = some 1 → bW p l e room_1 s m #[Value.ref b] below meth c D tc A 7 [(shFoldRoads, ad0), (shModel, ad1), ((shLongs 1), ad2)] (kc + 1) (ks + 6) (lw_Z below #[Value.ref b] s) 23 [(0, .ref b), (1, .ref (ad0 0)), (2, .ref (ad1 0)), (3, .ref (ad2 0)), (4, .int l4)] [] [w0, w1, w2]) {w0 : XM} {w1 : XM} {w2 : XM} {l4 : Int32}  (h : f_L_law_511 L xs k23 w0 w1 w2 l4 = some 1) : bW p l e room_1 s m #[Value.ref b] below meth c D tc A 7 [(shFoldRoads, ad0), (shModel, ad1), ((shLongs 1), ad2)] kc ks (lw_Z below #[Value.ref b] s) 511 [(0, .ref b), (1, .ref (ad0 0)), (2, .ref (ad1 0)), (3, .ref (ad2 0)), (4, .int l4)] [] [w0, w1, w2] := by
  unfold f_L_law_511 at h
  refine a_aload_n (pc := 511) X 1 dL_law_511 rfl rfl ?_
  refine a_aload_n (pc := 512) X 0 dL_law_512 rfl rfl ?_
  refine a_iload (pc := 513) X 4 dL_law_513 rfl ?_
  refine a_iconst (pc := 515) X dL_law_515 q_ic_1 ?_
  refine a_iadd (pc := 516) X dL_law_516 ?_
  obtain ⟨c_517, h⟩ := x_ck_elim h
  refine y_sld (pc := 517) X hB c_517 dL_law_517 ?_
  refine a_aload_n (pc := 518) X 0 dL_law_518 rfl rfl ?_
  refine a_iload (pc := 519) X 4 dL_law_519 rfl ?_
  refine a_iconst (pc := 521) X dL_law_521 q_ic_2 ?_
  refine a_iadd (pc := 522) X dL_law_522 ?_
  obtain ⟨c_523, h⟩ := x_ck_elim h
  refine y_sld (pc := 523) X hB c_523 dL_law_523 ?_
  obtain ⟨y18, e_y18, h⟩ := x_bo_elim h
  refine a_callV (pc := 524) (st2 := [.int y18.1]) (vs2 := [y18.2, w1, w2]) X [(0, 0, 318)] [some y18.2] 0 0 11 [.int (xs (l4 + (1 : Int32)).toNatClampNeg), .int (xs (l4 + (2 : Int32)).toNatClampNeg)] [] cv_RL_63 (c_X11_walk (ad0 := ad0)  e_y18) rfl rfl rfl rfl rfl rfl rfl rfl rfl rfl rfl rfl rfl rfl rfl (Nat.le_of_ble_eq_true rfl) ⟨Nat.le_of_ble_eq_true rfl, Nat.le_of_ble_eq_true rfl⟩ dL_law_524 (fun _ => ?_) hr0
  refine a_aload_n (pc := 527) X 2 dL_law_527 rfl rfl ?_
  refine a_aload_n (pc := 528) X 0 dL_law_528 rfl rfl ?_
  refine a_iload (pc := 529) X 4 dL_law_529 rfl ?_
  refine a_iconst (pc := 531) X dL_law_531 q_ic_1 ?_
  refine a_iadd (pc := 532) X dL_law_532 ?_
  obtain ⟨c_533, h⟩ := x_ck_elim h
  refine y_sld (pc := 533) X hB c_533 dL_law_533 ?_
  refine a_aload_n (pc := 534) X 0 dL_law_534 rfl rfl ?_
  refine a_iload (pc := 535) X 4 dL_law_535 rfl ?_
  refine a_iconst (pc := 537) X dL_law_537 q_ic_2 ?_
  refine a_iadd (pc := 538) X dL_law_538 ?_
  obtain ⟨c_539, h⟩ := x_ck_elim h
  refine y_sld (pc := 539) X hB c_539 dL_law_539 ?_
  obtain ⟨y19, e_y19, h⟩ := x_bo_elim h
  refine a_callV (pc := 540) (st2 := [.int y19.1, .int y18.1]) (vs2 := [y18.2, y19.2, w2]) X [(1, 0, 20)] [some y19.2] 1 0 12 [.int (xs (l4 + (1 : Int32)).toNatClampNeg), .int (xs (l4 + (2 : Int32)).toNatClampNeg)] [.int y18.1] cv_RL_66 (c_X12_walk (ad0 := ad1)  e_y19) rfl rfl rfl rfl rfl rfl rfl rfl rfl rfl rfl rfl rfl rfl rfl (Nat.le_of_ble_eq_true rfl) ⟨Nat.le_of_ble_eq_true rfl, Nat.le_of_ble_eq_true rfl⟩ dL_law_540 (fun _ => ?_) hr0
  refine a_icmp_eq (pc := 543) X 1427 dL_law_543 rfl (fun c_543 => ?_) (fun c_543 => ?_)
  · have h := x_ifp c_543 h
    refine y_wid ?_
    exact w_L_law_1427 X hB hA hl0 hNw hr0 hr1  hk23  h
  · have h := x_ifn c_543 h
    refine a_iconst (pc := 546) X dL_law_546 q_ic_0 ?_
    exact absurd (Option.some.inj h) (by decide)
set_option maxRecDepth 100000 in
set_option maxHeartbeats 4000000 in
theorem w_L_law_548 {p : Program} {l : Launch} {e : Env} {s : State} {m : MethodId} {below : List Frame} {meth : Method} {c : Code} {D : va_G} {tc : Nat → ClassId} {aK aV : Nat → Nat} {A : Nat → Prop} {b kc ks : Nat} {ad0 : Nat → Nat} {ad1 : Nat → Nat} {ad2 : Nat → Nat} {L : Nat} {xs : Nat → Int32} (X : Cx p s m #[Value.ref b] meth c code 7 ret RL D tc aK aV A [(shFoldRoads, ad0), (shModel, ad1), ((shLongs 1), ad2)]) (hB : va_X b L xs s s.heap ∧ b < s.heap.size ∧ ¬ A b) (hA : ∀ q, A q → s.heap.size ≤ q) (hl0 : l.stackTraces = false) (hNw : x_Nw s) (hr0 : kc ≤ room_1.cells ∧ ks ≤ room_1.slots) (hr1 : kc + 1 ≤ room_1.cells ∧ ks + 6 ≤ room_1.slots) {k23 : XM → XM → XM → Int32 → Option (Int32)} (hk23 : ∀ (w0 : XM) (w1 : XM) (w2 : XM) (l4 : Int32), k23 w0 w1 w2 l4 = some 1 → bW p l e room_1 s m #[Value.ref b] below meth c D tc A 7 [(shFoldRoads, ad0), (shModel, ad1), ((shLongs 1), ad2)] (kc + 1) (ks + 6) (lw_Z below #[Value.ref b] s) 23 [(0, .ref b), (1, .ref (ad0 0)), (2, .ref (ad1 0)), (3, .ref (ad2 0)), (4, .int l4)] [] [w0, w1, w2]) {w0 : XM} {w1 : XM} {w2 : XM} {l4 : Int32}  (h : f_L_law_548 L xs k23 w0 w1 w2 l4 = some 1) : bW p l e room_1 s m #[Value.ref b] below meth c D tc A 7 [(shFoldRoads, ad0), (shModel, ad1), ((shLongs 1), ad2)] kc ks (lw_Z below #[Value.ref b] s) 548 [(0, .ref b), (1, .ref (ad0 0)), (2, .ref (ad1 0)), (3, .ref (ad2 0)), (4, .int l4)] [] [w0, w1, w2] := by
  unfold f_L_law_548 at h
  refine a_aload_n (pc := 548) X 1 dL_law_548 rfl rfl ?_
  refine a_aload_n (pc := 549) X 0 dL_law_549 rfl rfl ?_
  refine a_iload (pc := 550) X 4 dL_law_550 rfl ?_
  refine a_iconst (pc := 552) X dL_law_552 q_ic_1 ?_
  refine a_iadd (pc := 553) X dL_law_553 ?_
  obtain ⟨c_554, h⟩ := x_ck_elim h
  refine y_sld (pc := 554) X hB c_554 dL_law_554 ?_
  refine a_aload_n (pc := 555) X 0 dL_law_555 rfl rfl ?_
  refine a_iload (pc := 556) X 4 dL_law_556 rfl ?_
  refine a_iconst (pc := 558) X dL_law_558 q_ic_2 ?_
  refine a_iadd (pc := 559) X dL_law_559 ?_
  obtain ⟨c_560, h⟩ := x_ck_elim h
  refine y_sld (pc := 560) X hB c_560 dL_law_560 ?_
  obtain ⟨y20, e_y20, h⟩ := x_bo_elim h
  refine a_callV (pc := 561) (st2 := [.int y20.1]) (vs2 := [y20.2, w1, w2]) X [(0, 0, 318)] [some y20.2] 0 0 11 [.int (xs (l4 + (1 : Int32)).toNatClampNeg), .int (xs (l4 + (2 : Int32)).toNatClampNeg)] [] cv_RL_67 (c_X11_learn (ad0 := ad0)  e_y20) rfl rfl rfl rfl rfl rfl rfl rfl rfl rfl rfl rfl rfl rfl rfl (Nat.le_of_ble_eq_true rfl) ⟨Nat.le_of_ble_eq_true rfl, Nat.le_of_ble_eq_true rfl⟩ dL_law_561 (fun _ => ?_) hr0
  refine a_aload_n (pc := 564) X 2 dL_law_564 rfl rfl ?_
  refine a_aload_n (pc := 565) X 0 dL_law_565 rfl rfl ?_
  refine a_iload (pc := 566) X 4 dL_law_566 rfl ?_
  refine a_iconst (pc := 568) X dL_law_568 q_ic_1 ?_
  refine a_iadd (pc := 569) X dL_law_569 ?_
  obtain ⟨c_570, h⟩ := x_ck_elim h
  refine y_sld (pc := 570) X hB c_570 dL_law_570 ?_
  refine a_aload_n (pc := 571) X 0 dL_law_571 rfl rfl ?_
  refine a_iload (pc := 572) X 4 dL_law_572 rfl ?_
  refine a_iconst (pc := 574) X dL_law_574 q_ic_2 ?_
  refine a_iadd (pc := 575) X dL_law_575 ?_
  obtain ⟨c_576, h⟩ := x_ck_elim h
  refine y_sld (pc := 576) X hB c_576 dL_law_576 ?_
  obtain ⟨y21, e_y21, h⟩ := x_bo_elim h
  refine a_callV (pc := 577) (st2 := [.int y21.1, .int y20.1]) (vs2 := [y20.2, y21.2, w2]) X [(1, 0, 20)] [some y21.2] 1 0 12 [.int (xs (l4 + (1 : Int32)).toNatClampNeg), .int (xs (l4 + (2 : Int32)).toNatClampNeg)] [.int y20.1] cv_RL_70 (c_X12_learn (ad0 := ad1)  e_y21) rfl rfl rfl rfl rfl rfl rfl rfl rfl rfl rfl rfl rfl rfl rfl (Nat.le_of_ble_eq_true rfl) ⟨Nat.le_of_ble_eq_true rfl, Nat.le_of_ble_eq_true rfl⟩ dL_law_577 (fun _ => ?_) hr0
  refine a_icmp_eq (pc := 580) X 1427 dL_law_580 rfl (fun c_580 => ?_) (fun c_580 => ?_)
  · have h := x_ifp c_580 h
    refine y_wid ?_
    exact w_L_law_1427 X hB hA hl0 hNw hr0 hr1  hk23  h
  · have h := x_ifn c_580 h
    refine a_iconst (pc := 583) X dL_law_583 q_ic_0 ?_
    exact absurd (Option.some.inj h) (by decide)
set_option maxRecDepth 100000 in
set_option maxHeartbeats 4000000 in
theorem w_L_law_585 {p : Program} {l : Launch} {e : Env} {s : State} {m : MethodId} {below : List Frame} {meth : Method} {c : Code} {D : va_G} {tc : Nat → ClassId} {aK aV : Nat → Nat} {A : Nat → Prop} {b kc ks : Nat} {ad0 : Nat → Nat} {ad1 : Nat → Nat} {ad2 : Nat → Nat} {L : Nat} {xs : Nat → Int32} (X : Cx p s m #[Value.ref b] meth c code 7 ret RL D tc aK aV A [(shFoldRoads, ad0), (shModel, ad1), ((shLongs 1), ad2)]) (hB : va_X b L xs s s.heap ∧ b < s.heap.size ∧ ¬ A b) (hA : ∀ q, A q → s.heap.size ≤ q) (hl0 : l.stackTraces = false) (hNw : x_Nw s) (hr0 : kc ≤ room_1.cells ∧ ks ≤ room_1.slots) (hr1 : kc + 1 ≤ room_1.cells ∧ ks + 6 ≤ room_1.slots) {k23 : XM → XM → XM → Int32 → Option (Int32)} (hk23 : ∀ (w0 : XM) (w1 : XM) (w2 : XM) (l4 : Int32), k23 w0 w1 w2 l4 = some 1 → bW p l e room_1 s m #[Value.ref b] below meth c D tc A 7 [(shFoldRoads, ad0), (shModel, ad1), ((shLongs 1), ad2)] (kc + 1) (ks + 6) (lw_Z below #[Value.ref b] s) 23 [(0, .ref b), (1, .ref (ad0 0)), (2, .ref (ad1 0)), (3, .ref (ad2 0)), (4, .int l4)] [] [w0, w1, w2]) {w0 : XM} {w1 : XM} {w2 : XM} {l4 : Int32}  (h : f_L_law_585 L xs k23 w0 w1 w2 l4 = some 1) : bW p l e room_1 s m #[Value.ref b] below meth c D tc A 7 [(shFoldRoads, ad0), (shModel, ad1), ((shLongs 1), ad2)] kc ks (lw_Z below #[Value.ref b] s) 585 [(0, .ref b), (1, .ref (ad0 0)), (2, .ref (ad1 0)), (3, .ref (ad2 0)), (4, .int l4)] [] [w0, w1, w2] := by
  unfold f_L_law_585 at h
  refine a_aload_n (pc := 585) X 1 dL_law_585 rfl rfl ?_
  refine a_aload_n (pc := 586) X 0 dL_law_586 rfl rfl ?_
  refine a_iload (pc := 587) X 4 dL_law_587 rfl ?_
  refine a_iconst (pc := 589) X dL_law_589 q_ic_1 ?_
  refine a_iadd (pc := 590) X dL_law_590 ?_
  obtain ⟨c_591, h⟩ := x_ck_elim h
  refine y_sld (pc := 591) X hB c_591 dL_law_591 ?_
  refine a_aload_n (pc := 592) X 0 dL_law_592 rfl rfl ?_
  refine a_iload (pc := 593) X 4 dL_law_593 rfl ?_
  refine a_iconst (pc := 595) X dL_law_595 q_ic_2 ?_
  refine a_iadd (pc := 596) X dL_law_596 ?_
  obtain ⟨c_597, h⟩ := x_ck_elim h
  refine y_sld (pc := 597) X hB c_597 dL_law_597 ?_
  obtain ⟨y22, e_y22, h⟩ := x_bo_elim h
  refine a_callV (pc := 598) (st2 := [.int y22.1]) (vs2 := [y22.2, w1, w2]) X [(0, 0, 318)] [some y22.2] 0 0 11 [.int (xs (l4 + (1 : Int32)).toNatClampNeg), .int (xs (l4 + (2 : Int32)).toNatClampNeg)] [] cv_RL_71 (c_X11_tell (ad0 := ad0)  e_y22) rfl rfl rfl rfl rfl rfl rfl rfl rfl rfl rfl rfl rfl rfl rfl (Nat.le_of_ble_eq_true rfl) ⟨Nat.le_of_ble_eq_true rfl, Nat.le_of_ble_eq_true rfl⟩ dL_law_598 (fun _ => ?_) hr0
  refine a_aload_n (pc := 601) X 2 dL_law_601 rfl rfl ?_
  refine a_aload_n (pc := 602) X 0 dL_law_602 rfl rfl ?_
  refine a_iload (pc := 603) X 4 dL_law_603 rfl ?_
  refine a_iconst (pc := 605) X dL_law_605 q_ic_1 ?_
  refine a_iadd (pc := 606) X dL_law_606 ?_
  obtain ⟨c_607, h⟩ := x_ck_elim h
  refine y_sld (pc := 607) X hB c_607 dL_law_607 ?_
  refine a_aload_n (pc := 608) X 0 dL_law_608 rfl rfl ?_
  refine a_iload (pc := 609) X 4 dL_law_609 rfl ?_
  refine a_iconst (pc := 611) X dL_law_611 q_ic_2 ?_
  refine a_iadd (pc := 612) X dL_law_612 ?_
  obtain ⟨c_613, h⟩ := x_ck_elim h
  refine y_sld (pc := 613) X hB c_613 dL_law_613 ?_
  obtain ⟨y23, e_y23, h⟩ := x_bo_elim h
  refine a_callV (pc := 614) (st2 := [.int y23.1, .int y22.1]) (vs2 := [y22.2, y23.2, w2]) X [(1, 0, 20)] [some y23.2] 1 0 12 [.int (xs (l4 + (1 : Int32)).toNatClampNeg), .int (xs (l4 + (2 : Int32)).toNatClampNeg)] [.int y22.1] cv_RL_74 (c_X12_tell (ad0 := ad1)  e_y23) rfl rfl rfl rfl rfl rfl rfl rfl rfl rfl rfl rfl rfl rfl rfl (Nat.le_of_ble_eq_true rfl) ⟨Nat.le_of_ble_eq_true rfl, Nat.le_of_ble_eq_true rfl⟩ dL_law_614 (fun _ => ?_) hr0
  refine a_icmp_eq (pc := 617) X 1427 dL_law_617 rfl (fun c_617 => ?_) (fun c_617 => ?_)
  · have h := x_ifp c_617 h
    refine y_wid ?_
    exact w_L_law_1427 X hB hA hl0 hNw hr0 hr1  hk23  h
  · have h := x_ifn c_617 h
    refine a_iconst (pc := 620) X dL_law_620 q_ic_0 ?_
    exact absurd (Option.some.inj h) (by decide)
set_option maxRecDepth 100000 in
set_option maxHeartbeats 4000000 in
theorem w_L_law_622 {p : Program} {l : Launch} {e : Env} {s : State} {m : MethodId} {below : List Frame} {meth : Method} {c : Code} {D : va_G} {tc : Nat → ClassId} {aK aV : Nat → Nat} {A : Nat → Prop} {b kc ks : Nat} {ad0 : Nat → Nat} {ad1 : Nat → Nat} {ad2 : Nat → Nat} {L : Nat} {xs : Nat → Int32} (X : Cx p s m #[Value.ref b] meth c code 7 ret RL D tc aK aV A [(shFoldRoads, ad0), (shModel, ad1), ((shLongs 1), ad2)]) (hB : va_X b L xs s s.heap ∧ b < s.heap.size ∧ ¬ A b) (hA : ∀ q, A q → s.heap.size ≤ q) (hl0 : l.stackTraces = false) (hNw : x_Nw s) (hr0 : kc ≤ room_1.cells ∧ ks ≤ room_1.slots) (hr1 : kc + 1 ≤ room_1.cells ∧ ks + 6 ≤ room_1.slots) {k23 : XM → XM → XM → Int32 → Option (Int32)} (hk23 : ∀ (w0 : XM) (w1 : XM) (w2 : XM) (l4 : Int32), k23 w0 w1 w2 l4 = some 1 → bW p l e room_1 s m #[Value.ref b] below meth c D tc A 7 [(shFoldRoads, ad0), (shModel, ad1), ((shLongs 1), ad2)] (kc + 1) (ks + 6) (lw_Z below #[Value.ref b] s) 23 [(0, .ref b), (1, .ref (ad0 0)), (2, .ref (ad1 0)), (3, .ref (ad2 0)), (4, .int l4)] [] [w0, w1, w2]) {w0 : XM} {w1 : XM} {w2 : XM} {l4 : Int32}  (h : f_L_law_622 L xs k23 w0 w1 w2 l4 = some 1) : bW p l e room_1 s m #[Value.ref b] below meth c D tc A 7 [(shFoldRoads, ad0), (shModel, ad1), ((shLongs 1), ad2)] kc ks (lw_Z below #[Value.ref b] s) 622 [(0, .ref b), (1, .ref (ad0 0)), (2, .ref (ad1 0)), (3, .ref (ad2 0)), (4, .int l4)] [] [w0, w1, w2] := by
  unfold f_L_law_622 at h
  refine a_aload_n (pc := 622) X 1 dL_law_622 rfl rfl ?_
  refine a_aload_n (pc := 623) X 0 dL_law_623 rfl rfl ?_
  refine a_iload (pc := 624) X 4 dL_law_624 rfl ?_
  refine a_iconst (pc := 626) X dL_law_626 q_ic_1 ?_
  refine a_iadd (pc := 627) X dL_law_627 ?_
  obtain ⟨c_628, h⟩ := x_ck_elim h
  refine y_sld (pc := 628) X hB c_628 dL_law_628 ?_
  obtain ⟨y24, e_y24, h⟩ := x_bo_elim h
  refine a_callV (pc := 629) (st2 := [.int y24.1]) (vs2 := [y24.2, w1, w2]) X [(0, 0, 318)] [some y24.2] 0 0 11 [.int (xs (l4 + (1 : Int32)).toNatClampNeg)] [] cv_RL_75 (c_X11_rest (ad0 := ad0)  e_y24) rfl rfl rfl rfl rfl rfl rfl rfl rfl rfl rfl rfl rfl rfl rfl (Nat.le_of_ble_eq_true rfl) ⟨Nat.le_of_ble_eq_true rfl, Nat.le_of_ble_eq_true rfl⟩ dL_law_629 (fun _ => ?_) hr0
  refine a_aload_n (pc := 632) X 2 dL_law_632 rfl rfl ?_
  refine a_aload_n (pc := 633) X 0 dL_law_633 rfl rfl ?_
  refine a_iload (pc := 634) X 4 dL_law_634 rfl ?_
  refine a_iconst (pc := 636) X dL_law_636 q_ic_1 ?_
  refine a_iadd (pc := 637) X dL_law_637 ?_
  obtain ⟨c_638, h⟩ := x_ck_elim h
  refine y_sld (pc := 638) X hB c_638 dL_law_638 ?_
  obtain ⟨y25, e_y25, h⟩ := x_bo_elim h
  refine a_callV (pc := 639) (st2 := [.int y25.1, .int y24.1]) (vs2 := [y24.2, y25.2, w2]) X [(1, 0, 20)] [some y25.2] 1 0 12 [.int (xs (l4 + (1 : Int32)).toNatClampNeg)] [.int y24.1] cv_RL_78 (c_X12_rest (ad0 := ad1)  e_y25) rfl rfl rfl rfl rfl rfl rfl rfl rfl rfl rfl rfl rfl rfl rfl (Nat.le_of_ble_eq_true rfl) ⟨Nat.le_of_ble_eq_true rfl, Nat.le_of_ble_eq_true rfl⟩ dL_law_639 (fun _ => ?_) hr0
  refine a_icmp_eq (pc := 642) X 1427 dL_law_642 rfl (fun c_642 => ?_) (fun c_642 => ?_)
  · have h := x_ifp c_642 h
    refine y_wid ?_
    exact w_L_law_1427 X hB hA hl0 hNw hr0 hr1  hk23  h
  · have h := x_ifn c_642 h
    refine a_iconst (pc := 645) X dL_law_645 q_ic_0 ?_
    exact absurd (Option.some.inj h) (by decide)
set_option maxRecDepth 100000 in
set_option maxHeartbeats 4000000 in
theorem w_L_law_647 {p : Program} {l : Launch} {e : Env} {s : State} {m : MethodId} {below : List Frame} {meth : Method} {c : Code} {D : va_G} {tc : Nat → ClassId} {aK aV : Nat → Nat} {A : Nat → Prop} {b kc ks : Nat} {ad0 : Nat → Nat} {ad1 : Nat → Nat} {ad2 : Nat → Nat} {L : Nat} {xs : Nat → Int32} (X : Cx p s m #[Value.ref b] meth c code 7 ret RL D tc aK aV A [(shFoldRoads, ad0), (shModel, ad1), ((shLongs 1), ad2)]) (hB : va_X b L xs s s.heap ∧ b < s.heap.size ∧ ¬ A b) (hA : ∀ q, A q → s.heap.size ≤ q) (hl0 : l.stackTraces = false) (hNw : x_Nw s) (hr0 : kc ≤ room_1.cells ∧ ks ≤ room_1.slots) (hr1 : kc + 1 ≤ room_1.cells ∧ ks + 6 ≤ room_1.slots) {k23 : XM → XM → XM → Int32 → Option (Int32)} (hk23 : ∀ (w0 : XM) (w1 : XM) (w2 : XM) (l4 : Int32), k23 w0 w1 w2 l4 = some 1 → bW p l e room_1 s m #[Value.ref b] below meth c D tc A 7 [(shFoldRoads, ad0), (shModel, ad1), ((shLongs 1), ad2)] (kc + 1) (ks + 6) (lw_Z below #[Value.ref b] s) 23 [(0, .ref b), (1, .ref (ad0 0)), (2, .ref (ad1 0)), (3, .ref (ad2 0)), (4, .int l4)] [] [w0, w1, w2]) {w0 : XM} {w1 : XM} {w2 : XM} {l4 : Int32}  (h : f_L_law_647 L xs k23 w0 w1 w2 l4 = some 1) : bW p l e room_1 s m #[Value.ref b] below meth c D tc A 7 [(shFoldRoads, ad0), (shModel, ad1), ((shLongs 1), ad2)] kc ks (lw_Z below #[Value.ref b] s) 647 [(0, .ref b), (1, .ref (ad0 0)), (2, .ref (ad1 0)), (3, .ref (ad2 0)), (4, .int l4)] [] [w0, w1, w2] := by
  unfold f_L_law_647 at h
  refine a_aload_n (pc := 647) X 1 dL_law_647 rfl rfl ?_
  refine a_aload_n (pc := 648) X 0 dL_law_648 rfl rfl ?_
  refine a_iload (pc := 649) X 4 dL_law_649 rfl ?_
  refine a_iconst (pc := 651) X dL_law_651 q_ic_1 ?_
  refine a_iadd (pc := 652) X dL_law_652 ?_
  obtain ⟨c_653, h⟩ := x_ck_elim h
  refine y_sld (pc := 653) X hB c_653 dL_law_653 ?_
  obtain ⟨y26, e_y26, h⟩ := x_bo_elim h
  refine a_callV (pc := 654) (st2 := [.int y26.1]) (vs2 := [y26.2, w1, w2]) X [(0, 0, 318)] [some y26.2] 0 0 11 [.int (xs (l4 + (1 : Int32)).toNatClampNeg)] [] cv_RL_79 (c_X11_cream (ad0 := ad0)  e_y26) rfl rfl rfl rfl rfl rfl rfl rfl rfl rfl rfl rfl rfl rfl rfl (Nat.le_of_ble_eq_true rfl) ⟨Nat.le_of_ble_eq_true rfl, Nat.le_of_ble_eq_true rfl⟩ dL_law_654 (fun _ => ?_) hr0
  refine a_aload_n (pc := 657) X 2 dL_law_657 rfl rfl ?_
  refine a_aload_n (pc := 658) X 0 dL_law_658 rfl rfl ?_
  refine a_iload (pc := 659) X 4 dL_law_659 rfl ?_
  refine a_iconst (pc := 661) X dL_law_661 q_ic_1 ?_
  refine a_iadd (pc := 662) X dL_law_662 ?_
  obtain ⟨c_663, h⟩ := x_ck_elim h
  refine y_sld (pc := 663) X hB c_663 dL_law_663 ?_
  obtain ⟨y27, e_y27, h⟩ := x_bo_elim h
  refine a_callV (pc := 664) (st2 := [.int y27.1, .int y26.1]) (vs2 := [y26.2, y27.2, w2]) X [(1, 0, 20)] [some y27.2] 1 0 12 [.int (xs (l4 + (1 : Int32)).toNatClampNeg)] [.int y26.1] cv_RL_82 (c_X12_cream (ad0 := ad1)  e_y27) rfl rfl rfl rfl rfl rfl rfl rfl rfl rfl rfl rfl rfl rfl rfl (Nat.le_of_ble_eq_true rfl) ⟨Nat.le_of_ble_eq_true rfl, Nat.le_of_ble_eq_true rfl⟩ dL_law_664 (fun _ => ?_) hr0
  refine a_icmp_eq (pc := 667) X 1427 dL_law_667 rfl (fun c_667 => ?_) (fun c_667 => ?_)
  · have h := x_ifp c_667 h
    refine y_wid ?_
    exact w_L_law_1427 X hB hA hl0 hNw hr0 hr1  hk23  h
  · have h := x_ifn c_667 h
    refine a_iconst (pc := 670) X dL_law_670 q_ic_0 ?_
    exact absurd (Option.some.inj h) (by decide)
set_option maxRecDepth 100000 in
set_option maxHeartbeats 4000000 in
theorem w_L_law_672 {p : Program} {l : Launch} {e : Env} {s : State} {m : MethodId} {below : List Frame} {meth : Method} {c : Code} {D : va_G} {tc : Nat → ClassId} {aK aV : Nat → Nat} {A : Nat → Prop} {b kc ks : Nat} {ad0 : Nat → Nat} {ad1 : Nat → Nat} {ad2 : Nat → Nat} {L : Nat} {xs : Nat → Int32} (X : Cx p s m #[Value.ref b] meth c code 7 ret RL D tc aK aV A [(shFoldRoads, ad0), (shModel, ad1), ((shLongs 1), ad2)]) (hB : va_X b L xs s s.heap ∧ b < s.heap.size ∧ ¬ A b) (hA : ∀ q, A q → s.heap.size ≤ q) (hl0 : l.stackTraces = false) (hNw : x_Nw s) (hr0 : kc ≤ room_1.cells ∧ ks ≤ room_1.slots) (hr1 : kc + 1 ≤ room_1.cells ∧ ks + 6 ≤ room_1.slots) {k23 : XM → XM → XM → Int32 → Option (Int32)} (hk23 : ∀ (w0 : XM) (w1 : XM) (w2 : XM) (l4 : Int32), k23 w0 w1 w2 l4 = some 1 → bW p l e room_1 s m #[Value.ref b] below meth c D tc A 7 [(shFoldRoads, ad0), (shModel, ad1), ((shLongs 1), ad2)] (kc + 1) (ks + 6) (lw_Z below #[Value.ref b] s) 23 [(0, .ref b), (1, .ref (ad0 0)), (2, .ref (ad1 0)), (3, .ref (ad2 0)), (4, .int l4)] [] [w0, w1, w2]) {w0 : XM} {w1 : XM} {w2 : XM} {l4 : Int32}  (h : f_L_law_672 L xs k23 w0 w1 w2 l4 = some 1) : bW p l e room_1 s m #[Value.ref b] below meth c D tc A 7 [(shFoldRoads, ad0), (shModel, ad1), ((shLongs 1), ad2)] kc ks (lw_Z below #[Value.ref b] s) 672 [(0, .ref b), (1, .ref (ad0 0)), (2, .ref (ad1 0)), (3, .ref (ad2 0)), (4, .int l4)] [] [w0, w1, w2] := by
  unfold f_L_law_672 at h
  refine a_aload_n (pc := 672) X 1 dL_law_672 rfl rfl ?_
  refine a_aload_n (pc := 673) X 0 dL_law_673 rfl rfl ?_
  refine a_iload (pc := 674) X 4 dL_law_674 rfl ?_
  refine a_iconst (pc := 676) X dL_law_676 q_ic_1 ?_
  refine a_iadd (pc := 677) X dL_law_677 ?_
  obtain ⟨c_678, h⟩ := x_ck_elim h
  refine y_sld (pc := 678) X hB c_678 dL_law_678 ?_
  refine a_aload_n (pc := 679) X 0 dL_law_679 rfl rfl ?_
  refine a_iload (pc := 680) X 4 dL_law_680 rfl ?_
  refine a_iconst (pc := 682) X dL_law_682 q_ic_2 ?_
  refine a_iadd (pc := 683) X dL_law_683 ?_
  obtain ⟨c_684, h⟩ := x_ck_elim h
  refine y_sld (pc := 684) X hB c_684 dL_law_684 ?_
  obtain ⟨y28, e_y28, h⟩ := x_bo_elim h
  refine a_callV (pc := 685) (st2 := [.int y28.1]) (vs2 := [y28.2, w1, w2]) X [(0, 0, 318)] [some y28.2] 0 0 11 [.int (xs (l4 + (1 : Int32)).toNatClampNeg), .int (xs (l4 + (2 : Int32)).toNatClampNeg)] [] cv_RL_83 (c_X11_slip (ad0 := ad0)  e_y28) rfl rfl rfl rfl rfl rfl rfl rfl rfl rfl rfl rfl rfl rfl rfl (Nat.le_of_ble_eq_true rfl) ⟨Nat.le_of_ble_eq_true rfl, Nat.le_of_ble_eq_true rfl⟩ dL_law_685 (fun _ => ?_) hr0
  refine a_aload_n (pc := 688) X 2 dL_law_688 rfl rfl ?_
  refine a_aload_n (pc := 689) X 0 dL_law_689 rfl rfl ?_
  refine a_iload (pc := 690) X 4 dL_law_690 rfl ?_
  refine a_iconst (pc := 692) X dL_law_692 q_ic_1 ?_
  refine a_iadd (pc := 693) X dL_law_693 ?_
  obtain ⟨c_694, h⟩ := x_ck_elim h
  refine y_sld (pc := 694) X hB c_694 dL_law_694 ?_
  refine a_aload_n (pc := 695) X 0 dL_law_695 rfl rfl ?_
  refine a_iload (pc := 696) X 4 dL_law_696 rfl ?_
  refine a_iconst (pc := 698) X dL_law_698 q_ic_2 ?_
  refine a_iadd (pc := 699) X dL_law_699 ?_
  obtain ⟨c_700, h⟩ := x_ck_elim h
  refine y_sld (pc := 700) X hB c_700 dL_law_700 ?_
  obtain ⟨y29, e_y29, h⟩ := x_bo_elim h
  refine a_callV (pc := 701) (st2 := [.int y29.1, .int y28.1]) (vs2 := [y28.2, y29.2, w2]) X [(1, 0, 20)] [some y29.2] 1 0 12 [.int (xs (l4 + (1 : Int32)).toNatClampNeg), .int (xs (l4 + (2 : Int32)).toNatClampNeg)] [.int y28.1] cv_RL_86 (c_X12_slip (ad0 := ad1)  e_y29) rfl rfl rfl rfl rfl rfl rfl rfl rfl rfl rfl rfl rfl rfl rfl (Nat.le_of_ble_eq_true rfl) ⟨Nat.le_of_ble_eq_true rfl, Nat.le_of_ble_eq_true rfl⟩ dL_law_701 (fun _ => ?_) hr0
  refine a_icmp_eq (pc := 704) X 1427 dL_law_704 rfl (fun c_704 => ?_) (fun c_704 => ?_)
  · have h := x_ifp c_704 h
    refine y_wid ?_
    exact w_L_law_1427 X hB hA hl0 hNw hr0 hr1  hk23  h
  · have h := x_ifn c_704 h
    refine a_iconst (pc := 707) X dL_law_707 q_ic_0 ?_
    exact absurd (Option.some.inj h) (by decide)
set_option maxRecDepth 100000 in
set_option maxHeartbeats 4000000 in
theorem w_L_law_709 {p : Program} {l : Launch} {e : Env} {s : State} {m : MethodId} {below : List Frame} {meth : Method} {c : Code} {D : va_G} {tc : Nat → ClassId} {aK aV : Nat → Nat} {A : Nat → Prop} {b kc ks : Nat} {ad0 : Nat → Nat} {ad1 : Nat → Nat} {ad2 : Nat → Nat} {L : Nat} {xs : Nat → Int32} (X : Cx p s m #[Value.ref b] meth c code 7 ret RL D tc aK aV A [(shFoldRoads, ad0), (shModel, ad1), ((shLongs 1), ad2)]) (hB : va_X b L xs s s.heap ∧ b < s.heap.size ∧ ¬ A b) (hA : ∀ q, A q → s.heap.size ≤ q) (hl0 : l.stackTraces = false) (hNw : x_Nw s) (hr0 : kc ≤ room_1.cells ∧ ks ≤ room_1.slots) (hr1 : kc + 1 ≤ room_1.cells ∧ ks + 6 ≤ room_1.slots) {k23 : XM → XM → XM → Int32 → Option (Int32)} (hk23 : ∀ (w0 : XM) (w1 : XM) (w2 : XM) (l4 : Int32), k23 w0 w1 w2 l4 = some 1 → bW p l e room_1 s m #[Value.ref b] below meth c D tc A 7 [(shFoldRoads, ad0), (shModel, ad1), ((shLongs 1), ad2)] (kc + 1) (ks + 6) (lw_Z below #[Value.ref b] s) 23 [(0, .ref b), (1, .ref (ad0 0)), (2, .ref (ad1 0)), (3, .ref (ad2 0)), (4, .int l4)] [] [w0, w1, w2]) {w0 : XM} {w1 : XM} {w2 : XM} {l4 : Int32}  (h : f_L_law_709 L xs k23 w0 w1 w2 l4 = some 1) : bW p l e room_1 s m #[Value.ref b] below meth c D tc A 7 [(shFoldRoads, ad0), (shModel, ad1), ((shLongs 1), ad2)] kc ks (lw_Z below #[Value.ref b] s) 709 [(0, .ref b), (1, .ref (ad0 0)), (2, .ref (ad1 0)), (3, .ref (ad2 0)), (4, .int l4)] [] [w0, w1, w2] := by
  unfold f_L_law_709 at h
  refine a_aload_n (pc := 709) X 1 dL_law_709 rfl rfl ?_
  refine a_aload_n (pc := 710) X 0 dL_law_710 rfl rfl ?_
  refine a_iload (pc := 711) X 4 dL_law_711 rfl ?_
  refine a_iconst (pc := 713) X dL_law_713 q_ic_1 ?_
  refine a_iadd (pc := 714) X dL_law_714 ?_
  obtain ⟨c_715, h⟩ := x_ck_elim h
  refine y_sld (pc := 715) X hB c_715 dL_law_715 ?_
  obtain ⟨y30, e_y30, h⟩ := x_bo_elim h
  refine a_callV (pc := 716) (st2 := [.int y30.1]) (vs2 := [y30.2, w1, w2]) X [(0, 0, 318)] [some y30.2] 0 0 11 [.int (xs (l4 + (1 : Int32)).toNatClampNeg)] [] cv_RL_87 (c_X11_mood (ad0 := ad0)  e_y30) rfl rfl rfl rfl rfl rfl rfl rfl rfl rfl rfl rfl rfl rfl rfl (Nat.le_of_ble_eq_true rfl) ⟨Nat.le_of_ble_eq_true rfl, Nat.le_of_ble_eq_true rfl⟩ dL_law_716 (fun _ => ?_) hr0
  refine a_aload_n (pc := 719) X 2 dL_law_719 rfl rfl ?_
  refine a_aload_n (pc := 720) X 0 dL_law_720 rfl rfl ?_
  refine a_iload (pc := 721) X 4 dL_law_721 rfl ?_
  refine a_iconst (pc := 723) X dL_law_723 q_ic_1 ?_
  refine a_iadd (pc := 724) X dL_law_724 ?_
  obtain ⟨c_725, h⟩ := x_ck_elim h
  refine y_sld (pc := 725) X hB c_725 dL_law_725 ?_
  obtain ⟨y31, e_y31, h⟩ := x_bo_elim h
  refine a_callV (pc := 726) (st2 := [.int y31.1, .int y30.1]) (vs2 := [y30.2, y31.2, w2]) X [(1, 0, 20)] [some y31.2] 1 0 12 [.int (xs (l4 + (1 : Int32)).toNatClampNeg)] [.int y30.1] cv_RL_90 (c_X12_mood (ad0 := ad1)  e_y31) rfl rfl rfl rfl rfl rfl rfl rfl rfl rfl rfl rfl rfl rfl rfl (Nat.le_of_ble_eq_true rfl) ⟨Nat.le_of_ble_eq_true rfl, Nat.le_of_ble_eq_true rfl⟩ dL_law_726 (fun _ => ?_) hr0
  refine a_icmp_eq (pc := 729) X 1427 dL_law_729 rfl (fun c_729 => ?_) (fun c_729 => ?_)
  · have h := x_ifp c_729 h
    refine y_wid ?_
    exact w_L_law_1427 X hB hA hl0 hNw hr0 hr1  hk23  h
  · have h := x_ifn c_729 h
    refine a_iconst (pc := 732) X dL_law_732 q_ic_0 ?_
    exact absurd (Option.some.inj h) (by decide)
set_option maxRecDepth 100000 in
set_option maxHeartbeats 4000000 in
theorem w_L_law_734 {p : Program} {l : Launch} {e : Env} {s : State} {m : MethodId} {below : List Frame} {meth : Method} {c : Code} {D : va_G} {tc : Nat → ClassId} {aK aV : Nat → Nat} {A : Nat → Prop} {b kc ks : Nat} {ad0 : Nat → Nat} {ad1 : Nat → Nat} {ad2 : Nat → Nat} {L : Nat} {xs : Nat → Int32} (X : Cx p s m #[Value.ref b] meth c code 7 ret RL D tc aK aV A [(shFoldRoads, ad0), (shModel, ad1), ((shLongs 1), ad2)]) (hB : va_X b L xs s s.heap ∧ b < s.heap.size ∧ ¬ A b) (hA : ∀ q, A q → s.heap.size ≤ q) (hl0 : l.stackTraces = false) (hNw : x_Nw s) (hr0 : kc ≤ room_1.cells ∧ ks ≤ room_1.slots) (hr1 : kc + 1 ≤ room_1.cells ∧ ks + 6 ≤ room_1.slots) {k23 : XM → XM → XM → Int32 → Option (Int32)} (hk23 : ∀ (w0 : XM) (w1 : XM) (w2 : XM) (l4 : Int32), k23 w0 w1 w2 l4 = some 1 → bW p l e room_1 s m #[Value.ref b] below meth c D tc A 7 [(shFoldRoads, ad0), (shModel, ad1), ((shLongs 1), ad2)] (kc + 1) (ks + 6) (lw_Z below #[Value.ref b] s) 23 [(0, .ref b), (1, .ref (ad0 0)), (2, .ref (ad1 0)), (3, .ref (ad2 0)), (4, .int l4)] [] [w0, w1, w2]) {w0 : XM} {w1 : XM} {w2 : XM} {l4 : Int32}  (h : f_L_law_734 L xs k23 w0 w1 w2 l4 = some 1) : bW p l e room_1 s m #[Value.ref b] below meth c D tc A 7 [(shFoldRoads, ad0), (shModel, ad1), ((shLongs 1), ad2)] kc ks (lw_Z below #[Value.ref b] s) 734 [(0, .ref b), (1, .ref (ad0 0)), (2, .ref (ad1 0)), (3, .ref (ad2 0)), (4, .int l4)] [] [w0, w1, w2] := by
  unfold f_L_law_734 at h
  refine a_aload_n (pc := 734) X 1 dL_law_734 rfl rfl ?_
  refine a_aload_n (pc := 735) X 0 dL_law_735 rfl rfl ?_
  refine a_iload (pc := 736) X 4 dL_law_736 rfl ?_
  refine a_iconst (pc := 738) X dL_law_738 q_ic_1 ?_
  refine a_iadd (pc := 739) X dL_law_739 ?_
  obtain ⟨c_740, h⟩ := x_ck_elim h
  refine y_sld (pc := 740) X hB c_740 dL_law_740 ?_
  obtain ⟨y32, e_y32, h⟩ := x_bo_elim h
  refine a_callV (pc := 741) (st2 := [.int y32.1]) (vs2 := [y32.2, w1, w2]) X [(0, 0, 318)] [some y32.2] 0 0 11 [.int (xs (l4 + (1 : Int32)).toNatClampNeg)] [] cv_RL_91 (c_X11_hours (ad0 := ad0)  e_y32) rfl rfl rfl rfl rfl rfl rfl rfl rfl rfl rfl rfl rfl rfl rfl (Nat.le_of_ble_eq_true rfl) ⟨Nat.le_of_ble_eq_true rfl, Nat.le_of_ble_eq_true rfl⟩ dL_law_741 (fun _ => ?_) hr0
  refine a_aload_n (pc := 744) X 2 dL_law_744 rfl rfl ?_
  refine a_aload_n (pc := 745) X 0 dL_law_745 rfl rfl ?_
  refine a_iload (pc := 746) X 4 dL_law_746 rfl ?_
  refine a_iconst (pc := 748) X dL_law_748 q_ic_1 ?_
  refine a_iadd (pc := 749) X dL_law_749 ?_
  obtain ⟨c_750, h⟩ := x_ck_elim h
  refine y_sld (pc := 750) X hB c_750 dL_law_750 ?_
  obtain ⟨y33, e_y33, h⟩ := x_bo_elim h
  refine a_callV (pc := 751) (st2 := [.int y33.1, .int y32.1]) (vs2 := [y32.2, y33.2, w2]) X [(1, 0, 20)] [some y33.2] 1 0 12 [.int (xs (l4 + (1 : Int32)).toNatClampNeg)] [.int y32.1] cv_RL_94 (c_X12_hours (ad0 := ad1)  e_y33) rfl rfl rfl rfl rfl rfl rfl rfl rfl rfl rfl rfl rfl rfl rfl (Nat.le_of_ble_eq_true rfl) ⟨Nat.le_of_ble_eq_true rfl, Nat.le_of_ble_eq_true rfl⟩ dL_law_751 (fun _ => ?_) hr0
  refine a_icmp_eq (pc := 754) X 1427 dL_law_754 rfl (fun c_754 => ?_) (fun c_754 => ?_)
  · have h := x_ifp c_754 h
    refine y_wid ?_
    exact w_L_law_1427 X hB hA hl0 hNw hr0 hr1  hk23  h
  · have h := x_ifn c_754 h
    refine a_iconst (pc := 757) X dL_law_757 q_ic_0 ?_
    exact absurd (Option.some.inj h) (by decide)
set_option maxRecDepth 100000 in
set_option maxHeartbeats 4000000 in
theorem w_L_law_759 {p : Program} {l : Launch} {e : Env} {s : State} {m : MethodId} {below : List Frame} {meth : Method} {c : Code} {D : va_G} {tc : Nat → ClassId} {aK aV : Nat → Nat} {A : Nat → Prop} {b kc ks : Nat} {ad0 : Nat → Nat} {ad1 : Nat → Nat} {ad2 : Nat → Nat} {L : Nat} {xs : Nat → Int32} (X : Cx p s m #[Value.ref b] meth c code 7 ret RL D tc aK aV A [(shFoldRoads, ad0), (shModel, ad1), ((shLongs 1), ad2)]) (hB : va_X b L xs s s.heap ∧ b < s.heap.size ∧ ¬ A b) (hA : ∀ q, A q → s.heap.size ≤ q) (hl0 : l.stackTraces = false) (hNw : x_Nw s) (hr0 : kc ≤ room_1.cells ∧ ks ≤ room_1.slots) (hr1 : kc + 1 ≤ room_1.cells ∧ ks + 6 ≤ room_1.slots) {k23 : XM → XM → XM → Int32 → Option (Int32)} (hk23 : ∀ (w0 : XM) (w1 : XM) (w2 : XM) (l4 : Int32), k23 w0 w1 w2 l4 = some 1 → bW p l e room_1 s m #[Value.ref b] below meth c D tc A 7 [(shFoldRoads, ad0), (shModel, ad1), ((shLongs 1), ad2)] (kc + 1) (ks + 6) (lw_Z below #[Value.ref b] s) 23 [(0, .ref b), (1, .ref (ad0 0)), (2, .ref (ad1 0)), (3, .ref (ad2 0)), (4, .int l4)] [] [w0, w1, w2]) {w0 : XM} {w1 : XM} {w2 : XM} {l4 : Int32}  (h : f_L_law_759 L xs k23 w0 w1 w2 l4 = some 1) : bW p l e room_1 s m #[Value.ref b] below meth c D tc A 7 [(shFoldRoads, ad0), (shModel, ad1), ((shLongs 1), ad2)] kc ks (lw_Z below #[Value.ref b] s) 759 [(0, .ref b), (1, .ref (ad0 0)), (2, .ref (ad1 0)), (3, .ref (ad2 0)), (4, .int l4)] [] [w0, w1, w2] := by
  unfold f_L_law_759 at h
  refine a_aload_n (pc := 759) X 1 dL_law_759 rfl rfl ?_
  obtain ⟨y34, e_y34, h⟩ := x_lt_elim h
  refine a_callV (pc := 760) (st2 := [.int y34.1]) (vs2 := [y34.2, w1, w2]) X [(0, 0, 318)] [some y34.2] 0 0 11 [] [] cv_RL_95 (c_X11_undo (ad0 := ad0)  e_y34) rfl rfl rfl rfl rfl rfl rfl rfl rfl rfl rfl rfl rfl rfl rfl (Nat.le_of_ble_eq_true rfl) ⟨Nat.le_of_ble_eq_true rfl, Nat.le_of_ble_eq_true rfl⟩ dL_law_760 (fun _ => ?_) hr0
  refine a_aload_n (pc := 763) X 2 dL_law_763 rfl rfl ?_
  obtain ⟨y35, e_y35, h⟩ := x_bo_elim h
  refine a_callV (pc := 764) (st2 := [.int y35.1, .int y34.1]) (vs2 := [y34.2, y35.2, w2]) X [(1, 0, 20)] [some y35.2] 1 0 12 [] [.int y34.1] cv_RL_98 (c_X12_undo (ad0 := ad1)  e_y35) rfl rfl rfl rfl rfl rfl rfl rfl rfl rfl rfl rfl rfl rfl rfl (Nat.le_of_ble_eq_true rfl) ⟨Nat.le_of_ble_eq_true rfl, Nat.le_of_ble_eq_true rfl⟩ dL_law_764 (fun _ => ?_) hr0
  refine a_icmp_eq (pc := 767) X 1427 dL_law_767 rfl (fun c_767 => ?_) (fun c_767 => ?_)
  · have h := x_ifp c_767 h
    refine y_wid ?_
    exact w_L_law_1427 X hB hA hl0 hNw hr0 hr1  hk23  h
  · have h := x_ifn c_767 h
    refine a_iconst (pc := 770) X dL_law_770 q_ic_0 ?_
    exact absurd (Option.some.inj h) (by decide)
set_option maxRecDepth 100000 in
set_option maxHeartbeats 4000000 in
theorem w_L_law_772 {p : Program} {l : Launch} {e : Env} {s : State} {m : MethodId} {below : List Frame} {meth : Method} {c : Code} {D : va_G} {tc : Nat → ClassId} {aK aV : Nat → Nat} {A : Nat → Prop} {b kc ks : Nat} {ad0 : Nat → Nat} {ad1 : Nat → Nat} {ad2 : Nat → Nat} {L : Nat} {xs : Nat → Int32} (X : Cx p s m #[Value.ref b] meth c code 7 ret RL D tc aK aV A [(shFoldRoads, ad0), (shModel, ad1), ((shLongs 1), ad2)]) (hB : va_X b L xs s s.heap ∧ b < s.heap.size ∧ ¬ A b) (hA : ∀ q, A q → s.heap.size ≤ q) (hl0 : l.stackTraces = false) (hNw : x_Nw s) (hr0 : kc ≤ room_1.cells ∧ ks ≤ room_1.slots) (hr1 : kc + 1 ≤ room_1.cells ∧ ks + 6 ≤ room_1.slots) {k23 : XM → XM → XM → Int32 → Option (Int32)} (hk23 : ∀ (w0 : XM) (w1 : XM) (w2 : XM) (l4 : Int32), k23 w0 w1 w2 l4 = some 1 → bW p l e room_1 s m #[Value.ref b] below meth c D tc A 7 [(shFoldRoads, ad0), (shModel, ad1), ((shLongs 1), ad2)] (kc + 1) (ks + 6) (lw_Z below #[Value.ref b] s) 23 [(0, .ref b), (1, .ref (ad0 0)), (2, .ref (ad1 0)), (3, .ref (ad2 0)), (4, .int l4)] [] [w0, w1, w2]) {w0 : XM} {w1 : XM} {w2 : XM} {l4 : Int32}  (h : f_L_law_772 L xs k23 w0 w1 w2 l4 = some 1) : bW p l e room_1 s m #[Value.ref b] below meth c D tc A 7 [(shFoldRoads, ad0), (shModel, ad1), ((shLongs 1), ad2)] kc ks (lw_Z below #[Value.ref b] s) 772 [(0, .ref b), (1, .ref (ad0 0)), (2, .ref (ad1 0)), (3, .ref (ad2 0)), (4, .int l4)] [] [w0, w1, w2] := by
  unfold f_L_law_772 at h
  refine a_aload_n (pc := 772) X 1 dL_law_772 rfl rfl ?_
  refine a_aload_n (pc := 773) X 0 dL_law_773 rfl rfl ?_
  refine a_iload (pc := 774) X 4 dL_law_774 rfl ?_
  refine a_iconst (pc := 776) X dL_law_776 q_ic_1 ?_
  refine a_iadd (pc := 777) X dL_law_777 ?_
  obtain ⟨c_778, h⟩ := x_ck_elim h
  refine y_sld (pc := 778) X hB c_778 dL_law_778 ?_
  refine a_aload_n (pc := 779) X 0 dL_law_779 rfl rfl ?_
  refine a_iload (pc := 780) X 4 dL_law_780 rfl ?_
  refine a_iconst (pc := 782) X dL_law_782 q_ic_2 ?_
  refine a_iadd (pc := 783) X dL_law_783 ?_
  obtain ⟨c_784, h⟩ := x_ck_elim h
  refine y_sld (pc := 784) X hB c_784 dL_law_784 ?_
  obtain ⟨y36, e_y36, h⟩ := x_bo_elim h
  refine a_callV (pc := 785) (st2 := [.int y36]) (vs2 := [w0, w1, w2]) X [(0, 0, 318)] [none] 0 0 11 [.int (xs (l4 + (1 : Int32)).toNatClampNeg), .int (xs (l4 + (2 : Int32)).toNatClampNeg)] [] cv_RL_99 (c_X11_takes (ad0 := ad0)  e_y36) rfl rfl rfl rfl rfl rfl rfl rfl rfl rfl rfl rfl rfl rfl rfl (Nat.le_of_ble_eq_true rfl) ⟨Nat.le_of_ble_eq_true rfl, Nat.le_of_ble_eq_true rfl⟩ dL_law_785 (fun _ => ?_) hr0
  refine a_aload_n (pc := 788) X 2 dL_law_788 rfl rfl ?_
  refine a_aload_n (pc := 789) X 0 dL_law_789 rfl rfl ?_
  refine a_iload (pc := 790) X 4 dL_law_790 rfl ?_
  refine a_iconst (pc := 792) X dL_law_792 q_ic_1 ?_
  refine a_iadd (pc := 793) X dL_law_793 ?_
  obtain ⟨c_794, h⟩ := x_ck_elim h
  refine y_sld (pc := 794) X hB c_794 dL_law_794 ?_
  refine a_aload_n (pc := 795) X 0 dL_law_795 rfl rfl ?_
  refine a_iload (pc := 796) X 4 dL_law_796 rfl ?_
  refine a_iconst (pc := 798) X dL_law_798 q_ic_2 ?_
  refine a_iadd (pc := 799) X dL_law_799 ?_
  obtain ⟨c_800, h⟩ := x_ck_elim h
  refine y_sld (pc := 800) X hB c_800 dL_law_800 ?_
  obtain ⟨y37, e_y37, h⟩ := x_bo_elim h
  refine a_callV (pc := 801) (st2 := [.int y37.1, .int y36]) (vs2 := [w0, y37.2, w2]) X [(1, 0, 20)] [some y37.2] 1 0 12 [.int (xs (l4 + (1 : Int32)).toNatClampNeg), .int (xs (l4 + (2 : Int32)).toNatClampNeg)] [.int y36] cv_RL_102 (c_X12_takes (ad0 := ad1)  e_y37) rfl rfl rfl rfl rfl rfl rfl rfl rfl rfl rfl rfl rfl rfl rfl (Nat.le_of_ble_eq_true rfl) ⟨Nat.le_of_ble_eq_true rfl, Nat.le_of_ble_eq_true rfl⟩ dL_law_801 (fun _ => ?_) hr0
  refine a_icmp_eq (pc := 804) X 1427 dL_law_804 rfl (fun c_804 => ?_) (fun c_804 => ?_)
  · have h := x_ifp c_804 h
    refine y_wid ?_
    exact w_L_law_1427 X hB hA hl0 hNw hr0 hr1  hk23  h
  · have h := x_ifn c_804 h
    refine a_iconst (pc := 807) X dL_law_807 q_ic_0 ?_
    exact absurd (Option.some.inj h) (by decide)
set_option maxRecDepth 100000 in
set_option maxHeartbeats 4000000 in
theorem w_L_law_809 {p : Program} {l : Launch} {e : Env} {s : State} {m : MethodId} {below : List Frame} {meth : Method} {c : Code} {D : va_G} {tc : Nat → ClassId} {aK aV : Nat → Nat} {A : Nat → Prop} {b kc ks : Nat} {ad0 : Nat → Nat} {ad1 : Nat → Nat} {ad2 : Nat → Nat} {L : Nat} {xs : Nat → Int32} (X : Cx p s m #[Value.ref b] meth c code 7 ret RL D tc aK aV A [(shFoldRoads, ad0), (shModel, ad1), ((shLongs 1), ad2)]) (hB : va_X b L xs s s.heap ∧ b < s.heap.size ∧ ¬ A b) (hA : ∀ q, A q → s.heap.size ≤ q) (hl0 : l.stackTraces = false) (hNw : x_Nw s) (hr0 : kc ≤ room_1.cells ∧ ks ≤ room_1.slots) (hr1 : kc + 1 ≤ room_1.cells ∧ ks + 6 ≤ room_1.slots) {k23 : XM → XM → XM → Int32 → Option (Int32)} (hk23 : ∀ (w0 : XM) (w1 : XM) (w2 : XM) (l4 : Int32), k23 w0 w1 w2 l4 = some 1 → bW p l e room_1 s m #[Value.ref b] below meth c D tc A 7 [(shFoldRoads, ad0), (shModel, ad1), ((shLongs 1), ad2)] (kc + 1) (ks + 6) (lw_Z below #[Value.ref b] s) 23 [(0, .ref b), (1, .ref (ad0 0)), (2, .ref (ad1 0)), (3, .ref (ad2 0)), (4, .int l4)] [] [w0, w1, w2]) {w0 : XM} {w1 : XM} {w2 : XM} {l4 : Int32}  (h : f_L_law_809 L xs k23 w0 w1 w2 l4 = some 1) : bW p l e room_1 s m #[Value.ref b] below meth c D tc A 7 [(shFoldRoads, ad0), (shModel, ad1), ((shLongs 1), ad2)] kc ks (lw_Z below #[Value.ref b] s) 809 [(0, .ref b), (1, .ref (ad0 0)), (2, .ref (ad1 0)), (3, .ref (ad2 0)), (4, .int l4)] [] [w0, w1, w2] := by
  unfold f_L_law_809 at h
  refine a_aload_n (pc := 809) X 1 dL_law_809 rfl rfl ?_
  refine a_aload_n (pc := 810) X 0 dL_law_810 rfl rfl ?_
  refine a_iload (pc := 811) X 4 dL_law_811 rfl ?_
  refine a_iconst (pc := 813) X dL_law_813 q_ic_1 ?_
  refine a_iadd (pc := 814) X dL_law_814 ?_
  obtain ⟨c_815, h⟩ := x_ck_elim h
  refine y_sld (pc := 815) X hB c_815 dL_law_815 ?_
  refine a_aload_n (pc := 816) X 0 dL_law_816 rfl rfl ?_
  refine a_iload (pc := 817) X 4 dL_law_817 rfl ?_
  refine a_iconst (pc := 819) X dL_law_819 q_ic_2 ?_
  refine a_iadd (pc := 820) X dL_law_820 ?_
  obtain ⟨c_821, h⟩ := x_ck_elim h
  refine y_sld (pc := 821) X hB c_821 dL_law_821 ?_
  obtain ⟨y38, e_y38, h⟩ := x_bo_elim h
  refine a_callV (pc := 822) (st2 := [.int y38.1]) (vs2 := [y38.2, w1, w2]) X [(0, 0, 318)] [some y38.2] 0 0 11 [.int (xs (l4 + (1 : Int32)).toNatClampNeg), .int (xs (l4 + (2 : Int32)).toNatClampNeg)] [] cv_RL_103 (c_X11_way (ad0 := ad0)  e_y38) rfl rfl rfl rfl rfl rfl rfl rfl rfl rfl rfl rfl rfl rfl rfl (Nat.le_of_ble_eq_true rfl) ⟨Nat.le_of_ble_eq_true rfl, Nat.le_of_ble_eq_true rfl⟩ dL_law_822 (fun _ => ?_) hr0
  refine a_aload_n (pc := 825) X 2 dL_law_825 rfl rfl ?_
  refine a_aload_n (pc := 826) X 0 dL_law_826 rfl rfl ?_
  refine a_iload (pc := 827) X 4 dL_law_827 rfl ?_
  refine a_iconst (pc := 829) X dL_law_829 q_ic_1 ?_
  refine a_iadd (pc := 830) X dL_law_830 ?_
  obtain ⟨c_831, h⟩ := x_ck_elim h
  refine y_sld (pc := 831) X hB c_831 dL_law_831 ?_
  refine a_aload_n (pc := 832) X 0 dL_law_832 rfl rfl ?_
  refine a_iload (pc := 833) X 4 dL_law_833 rfl ?_
  refine a_iconst (pc := 835) X dL_law_835 q_ic_2 ?_
  refine a_iadd (pc := 836) X dL_law_836 ?_
  obtain ⟨c_837, h⟩ := x_ck_elim h
  refine y_sld (pc := 837) X hB c_837 dL_law_837 ?_
  obtain ⟨y39, e_y39, h⟩ := x_bo_elim h
  refine a_callV (pc := 838) (st2 := [.int y39.1, .int y38.1]) (vs2 := [y38.2, y39.2, w2]) X [(1, 0, 20)] [some y39.2] 1 0 12 [.int (xs (l4 + (1 : Int32)).toNatClampNeg), .int (xs (l4 + (2 : Int32)).toNatClampNeg)] [.int y38.1] cv_RL_106 (c_X12_way (ad0 := ad1)  e_y39) rfl rfl rfl rfl rfl rfl rfl rfl rfl rfl rfl rfl rfl rfl rfl (Nat.le_of_ble_eq_true rfl) ⟨Nat.le_of_ble_eq_true rfl, Nat.le_of_ble_eq_true rfl⟩ dL_law_838 (fun _ => ?_) hr0
  refine a_icmp_eq (pc := 841) X 1427 dL_law_841 rfl (fun c_841 => ?_) (fun c_841 => ?_)
  · have h := x_ifp c_841 h
    refine y_wid ?_
    exact w_L_law_1427 X hB hA hl0 hNw hr0 hr1  hk23  h
  · have h := x_ifn c_841 h
    refine a_iconst (pc := 844) X dL_law_844 q_ic_0 ?_
    exact absurd (Option.some.inj h) (by decide)
set_option maxRecDepth 100000 in
set_option maxHeartbeats 4000000 in
theorem w_L_law_846 {p : Program} {l : Launch} {e : Env} {s : State} {m : MethodId} {below : List Frame} {meth : Method} {c : Code} {D : va_G} {tc : Nat → ClassId} {aK aV : Nat → Nat} {A : Nat → Prop} {b kc ks : Nat} {ad0 : Nat → Nat} {ad1 : Nat → Nat} {ad2 : Nat → Nat} {L : Nat} {xs : Nat → Int32} (X : Cx p s m #[Value.ref b] meth c code 7 ret RL D tc aK aV A [(shFoldRoads, ad0), (shModel, ad1), ((shLongs 1), ad2)]) (hB : va_X b L xs s s.heap ∧ b < s.heap.size ∧ ¬ A b) (hA : ∀ q, A q → s.heap.size ≤ q) (hl0 : l.stackTraces = false) (hNw : x_Nw s) (hr0 : kc ≤ room_1.cells ∧ ks ≤ room_1.slots) (hr1 : kc + 1 ≤ room_1.cells ∧ ks + 6 ≤ room_1.slots) {k23 : XM → XM → XM → Int32 → Option (Int32)} (hk23 : ∀ (w0 : XM) (w1 : XM) (w2 : XM) (l4 : Int32), k23 w0 w1 w2 l4 = some 1 → bW p l e room_1 s m #[Value.ref b] below meth c D tc A 7 [(shFoldRoads, ad0), (shModel, ad1), ((shLongs 1), ad2)] (kc + 1) (ks + 6) (lw_Z below #[Value.ref b] s) 23 [(0, .ref b), (1, .ref (ad0 0)), (2, .ref (ad1 0)), (3, .ref (ad2 0)), (4, .int l4)] [] [w0, w1, w2]) {w0 : XM} {w1 : XM} {w2 : XM} {l4 : Int32}  (h : f_L_law_846 L xs k23 w0 w1 w2 l4 = some 1) : bW p l e room_1 s m #[Value.ref b] below meth c D tc A 7 [(shFoldRoads, ad0), (shModel, ad1), ((shLongs 1), ad2)] kc ks (lw_Z below #[Value.ref b] s) 846 [(0, .ref b), (1, .ref (ad0 0)), (2, .ref (ad1 0)), (3, .ref (ad2 0)), (4, .int l4)] [] [w0, w1, w2] := by
  unfold f_L_law_846 at h
  refine a_aload_n (pc := 846) X 1 dL_law_846 rfl rfl ?_
  refine a_aload_n (pc := 847) X 0 dL_law_847 rfl rfl ?_
  refine a_iload (pc := 848) X 4 dL_law_848 rfl ?_
  refine a_iconst (pc := 850) X dL_law_850 q_ic_1 ?_
  refine a_iadd (pc := 851) X dL_law_851 ?_
  obtain ⟨c_852, h⟩ := x_ck_elim h
  refine y_sld (pc := 852) X hB c_852 dL_law_852 ?_
  obtain ⟨y40, e_y40, h⟩ := x_lt_elim h
  refine a_callV (pc := 853) (st2 := [.int y40]) (vs2 := [w0, w1, w2]) X [(0, 0, 318)] [none] 0 0 11 [.int (xs (l4 + (1 : Int32)).toNatClampNeg)] [] cv_RL_107 (c_X11_wayAt (ad0 := ad0)  e_y40) rfl rfl rfl rfl rfl rfl rfl rfl rfl rfl rfl rfl rfl rfl rfl (Nat.le_of_ble_eq_true rfl) ⟨Nat.le_of_ble_eq_true rfl, Nat.le_of_ble_eq_true rfl⟩ dL_law_853 (fun _ => ?_) hr0
  refine a_aload_n (pc := 856) X 2 dL_law_856 rfl rfl ?_
  refine a_aload_n (pc := 857) X 0 dL_law_857 rfl rfl ?_
  refine a_iload (pc := 858) X 4 dL_law_858 rfl ?_
  refine a_iconst (pc := 860) X dL_law_860 q_ic_1 ?_
  refine a_iadd (pc := 861) X dL_law_861 ?_
  obtain ⟨c_862, h⟩ := x_ck_elim h
  refine y_sld (pc := 862) X hB c_862 dL_law_862 ?_
  obtain ⟨y41, e_y41, h⟩ := x_bo_elim h
  refine a_callV (pc := 863) (st2 := [.int y41.1, .int y40]) (vs2 := [w0, y41.2, w2]) X [(1, 0, 20)] [some y41.2] 1 0 12 [.int (xs (l4 + (1 : Int32)).toNatClampNeg)] [.int y40] cv_RL_110 (c_X12_wayAt (ad0 := ad1)  e_y41) rfl rfl rfl rfl rfl rfl rfl rfl rfl rfl rfl rfl rfl rfl rfl (Nat.le_of_ble_eq_true rfl) ⟨Nat.le_of_ble_eq_true rfl, Nat.le_of_ble_eq_true rfl⟩ dL_law_863 (fun _ => ?_) hr0
  refine a_icmp_eq (pc := 866) X 1427 dL_law_866 rfl (fun c_866 => ?_) (fun c_866 => ?_)
  · have h := x_ifp c_866 h
    refine y_wid ?_
    exact w_L_law_1427 X hB hA hl0 hNw hr0 hr1  hk23  h
  · have h := x_ifn c_866 h
    refine a_iconst (pc := 869) X dL_law_869 q_ic_0 ?_
    exact absurd (Option.some.inj h) (by decide)
set_option maxRecDepth 100000 in
set_option maxHeartbeats 4000000 in
theorem w_L_law_871 {p : Program} {l : Launch} {e : Env} {s : State} {m : MethodId} {below : List Frame} {meth : Method} {c : Code} {D : va_G} {tc : Nat → ClassId} {aK aV : Nat → Nat} {A : Nat → Prop} {b kc ks : Nat} {ad0 : Nat → Nat} {ad1 : Nat → Nat} {ad2 : Nat → Nat} {L : Nat} {xs : Nat → Int32} (X : Cx p s m #[Value.ref b] meth c code 7 ret RL D tc aK aV A [(shFoldRoads, ad0), (shModel, ad1), ((shLongs 1), ad2)]) (hB : va_X b L xs s s.heap ∧ b < s.heap.size ∧ ¬ A b) (hA : ∀ q, A q → s.heap.size ≤ q) (hl0 : l.stackTraces = false) (hNw : x_Nw s) (hr0 : kc ≤ room_1.cells ∧ ks ≤ room_1.slots) (hr1 : kc + 1 ≤ room_1.cells ∧ ks + 6 ≤ room_1.slots) {k23 : XM → XM → XM → Int32 → Option (Int32)} (hk23 : ∀ (w0 : XM) (w1 : XM) (w2 : XM) (l4 : Int32), k23 w0 w1 w2 l4 = some 1 → bW p l e room_1 s m #[Value.ref b] below meth c D tc A 7 [(shFoldRoads, ad0), (shModel, ad1), ((shLongs 1), ad2)] (kc + 1) (ks + 6) (lw_Z below #[Value.ref b] s) 23 [(0, .ref b), (1, .ref (ad0 0)), (2, .ref (ad1 0)), (3, .ref (ad2 0)), (4, .int l4)] [] [w0, w1, w2]) {w0 : XM} {w1 : XM} {w2 : XM} {l4 : Int32}  (h : f_L_law_871 L xs k23 w0 w1 w2 l4 = some 1) : bW p l e room_1 s m #[Value.ref b] below meth c D tc A 7 [(shFoldRoads, ad0), (shModel, ad1), ((shLongs 1), ad2)] kc ks (lw_Z below #[Value.ref b] s) 871 [(0, .ref b), (1, .ref (ad0 0)), (2, .ref (ad1 0)), (3, .ref (ad2 0)), (4, .int l4)] [] [w0, w1, w2] := by
  unfold f_L_law_871 at h
  refine a_aload_n (pc := 871) X 1 dL_law_871 rfl rfl ?_
  refine a_aload_n (pc := 872) X 0 dL_law_872 rfl rfl ?_
  refine a_iload (pc := 873) X 4 dL_law_873 rfl ?_
  refine a_iconst (pc := 875) X dL_law_875 q_ic_1 ?_
  refine a_iadd (pc := 876) X dL_law_876 ?_
  obtain ⟨c_877, h⟩ := x_ck_elim h
  refine y_sld (pc := 877) X hB c_877 dL_law_877 ?_
  obtain ⟨y42, e_y42, h⟩ := x_bo_elim h
  refine a_callV (pc := 878) (st2 := [.int y42.1]) (vs2 := [y42.2, w1, w2]) X [(0, 0, 318)] [some y42.2] 0 0 11 [.int (xs (l4 + (1 : Int32)).toNatClampNeg)] [] cv_RL_111 (c_X11_reaches (ad0 := ad0)  e_y42) rfl rfl rfl rfl rfl rfl rfl rfl rfl rfl rfl rfl rfl rfl rfl (Nat.le_of_ble_eq_true rfl) ⟨Nat.le_of_ble_eq_true rfl, Nat.le_of_ble_eq_true rfl⟩ dL_law_878 (fun _ => ?_) hr0
  refine a_aload_n (pc := 881) X 2 dL_law_881 rfl rfl ?_
  refine a_aload_n (pc := 882) X 0 dL_law_882 rfl rfl ?_
  refine a_iload (pc := 883) X 4 dL_law_883 rfl ?_
  refine a_iconst (pc := 885) X dL_law_885 q_ic_1 ?_
  refine a_iadd (pc := 886) X dL_law_886 ?_
  obtain ⟨c_887, h⟩ := x_ck_elim h
  refine y_sld (pc := 887) X hB c_887 dL_law_887 ?_
  obtain ⟨y43, e_y43, h⟩ := x_bo_elim h
  refine a_callV (pc := 888) (st2 := [.int y43.1, .int y42.1]) (vs2 := [y42.2, y43.2, w2]) X [(1, 0, 20)] [some y43.2] 1 0 12 [.int (xs (l4 + (1 : Int32)).toNatClampNeg)] [.int y42.1] cv_RL_114 (c_X12_reaches (ad0 := ad1)  e_y43) rfl rfl rfl rfl rfl rfl rfl rfl rfl rfl rfl rfl rfl rfl rfl (Nat.le_of_ble_eq_true rfl) ⟨Nat.le_of_ble_eq_true rfl, Nat.le_of_ble_eq_true rfl⟩ dL_law_888 (fun _ => ?_) hr0
  refine a_icmp_eq (pc := 891) X 1427 dL_law_891 rfl (fun c_891 => ?_) (fun c_891 => ?_)
  · have h := x_ifp c_891 h
    refine y_wid ?_
    exact w_L_law_1427 X hB hA hl0 hNw hr0 hr1  hk23  h
  · have h := x_ifn c_891 h
    refine a_iconst (pc := 894) X dL_law_894 q_ic_0 ?_
    exact absurd (Option.some.inj h) (by decide)
set_option maxRecDepth 100000 in
set_option maxHeartbeats 4000000 in
theorem w_L_law_896 {p : Program} {l : Launch} {e : Env} {s : State} {m : MethodId} {below : List Frame} {meth : Method} {c : Code} {D : va_G} {tc : Nat → ClassId} {aK aV : Nat → Nat} {A : Nat → Prop} {b kc ks : Nat} {ad0 : Nat → Nat} {ad1 : Nat → Nat} {ad2 : Nat → Nat} {L : Nat} {xs : Nat → Int32} (X : Cx p s m #[Value.ref b] meth c code 7 ret RL D tc aK aV A [(shFoldRoads, ad0), (shModel, ad1), ((shLongs 1), ad2)]) (hB : va_X b L xs s s.heap ∧ b < s.heap.size ∧ ¬ A b) (hA : ∀ q, A q → s.heap.size ≤ q) (hl0 : l.stackTraces = false) (hNw : x_Nw s) (hr0 : kc ≤ room_1.cells ∧ ks ≤ room_1.slots) (hr1 : kc + 1 ≤ room_1.cells ∧ ks + 6 ≤ room_1.slots) {k23 : XM → XM → XM → Int32 → Option (Int32)} (hk23 : ∀ (w0 : XM) (w1 : XM) (w2 : XM) (l4 : Int32), k23 w0 w1 w2 l4 = some 1 → bW p l e room_1 s m #[Value.ref b] below meth c D tc A 7 [(shFoldRoads, ad0), (shModel, ad1), ((shLongs 1), ad2)] (kc + 1) (ks + 6) (lw_Z below #[Value.ref b] s) 23 [(0, .ref b), (1, .ref (ad0 0)), (2, .ref (ad1 0)), (3, .ref (ad2 0)), (4, .int l4)] [] [w0, w1, w2]) {w0 : XM} {w1 : XM} {w2 : XM} {l4 : Int32}  (h : f_L_law_896 L xs k23 w0 w1 w2 l4 = some 1) : bW p l e room_1 s m #[Value.ref b] below meth c D tc A 7 [(shFoldRoads, ad0), (shModel, ad1), ((shLongs 1), ad2)] kc ks (lw_Z below #[Value.ref b] s) 896 [(0, .ref b), (1, .ref (ad0 0)), (2, .ref (ad1 0)), (3, .ref (ad2 0)), (4, .int l4)] [] [w0, w1, w2] := by
  unfold f_L_law_896 at h
  refine a_aload_n (pc := 896) X 1 dL_law_896 rfl rfl ?_
  refine a_aload_n (pc := 897) X 0 dL_law_897 rfl rfl ?_
  refine a_iload (pc := 898) X 4 dL_law_898 rfl ?_
  refine a_iconst (pc := 900) X dL_law_900 q_ic_1 ?_
  refine a_iadd (pc := 901) X dL_law_901 ?_
  obtain ⟨c_902, h⟩ := x_ck_elim h
  refine y_sld (pc := 902) X hB c_902 dL_law_902 ?_
  obtain ⟨y44, e_y44, h⟩ := x_bo_elim h
  refine a_callV (pc := 903) (st2 := [.int y44.1]) (vs2 := [y44.2, w1, w2]) X [(0, 0, 318)] [some y44.2] 0 0 11 [.int (xs (l4 + (1 : Int32)).toNatClampNeg)] [] cv_RL_115 (c_X11_gather (ad0 := ad0)  e_y44) rfl rfl rfl rfl rfl rfl rfl rfl rfl rfl rfl rfl rfl rfl rfl (Nat.le_of_ble_eq_true rfl) ⟨Nat.le_of_ble_eq_true rfl, Nat.le_of_ble_eq_true rfl⟩ dL_law_903 (fun _ => ?_) hr0
  refine a_aload_n (pc := 906) X 2 dL_law_906 rfl rfl ?_
  refine a_aload_n (pc := 907) X 0 dL_law_907 rfl rfl ?_
  refine a_iload (pc := 908) X 4 dL_law_908 rfl ?_
  refine a_iconst (pc := 910) X dL_law_910 q_ic_1 ?_
  refine a_iadd (pc := 911) X dL_law_911 ?_
  obtain ⟨c_912, h⟩ := x_ck_elim h
  refine y_sld (pc := 912) X hB c_912 dL_law_912 ?_
  obtain ⟨y45, e_y45, h⟩ := x_bo_elim h
  refine a_callV (pc := 913) (st2 := [.int y45.1, .int y44.1]) (vs2 := [y44.2, y45.2, w2]) X [(1, 0, 20)] [some y45.2] 1 0 12 [.int (xs (l4 + (1 : Int32)).toNatClampNeg)] [.int y44.1] cv_RL_118 (c_X12_gather (ad0 := ad1)  e_y45) rfl rfl rfl rfl rfl rfl rfl rfl rfl rfl rfl rfl rfl rfl rfl (Nat.le_of_ble_eq_true rfl) ⟨Nat.le_of_ble_eq_true rfl, Nat.le_of_ble_eq_true rfl⟩ dL_law_913 (fun _ => ?_) hr0
  refine a_icmp_eq (pc := 916) X 1427 dL_law_916 rfl (fun c_916 => ?_) (fun c_916 => ?_)
  · have h := x_ifp c_916 h
    refine y_wid ?_
    exact w_L_law_1427 X hB hA hl0 hNw hr0 hr1  hk23  h
  · have h := x_ifn c_916 h
    refine a_iconst (pc := 919) X dL_law_919 q_ic_0 ?_
    exact absurd (Option.some.inj h) (by decide)
set_option maxRecDepth 100000 in
set_option maxHeartbeats 4000000 in
theorem w_L_law_921 {p : Program} {l : Launch} {e : Env} {s : State} {m : MethodId} {below : List Frame} {meth : Method} {c : Code} {D : va_G} {tc : Nat → ClassId} {aK aV : Nat → Nat} {A : Nat → Prop} {b kc ks : Nat} {ad0 : Nat → Nat} {ad1 : Nat → Nat} {ad2 : Nat → Nat} {L : Nat} {xs : Nat → Int32} (X : Cx p s m #[Value.ref b] meth c code 7 ret RL D tc aK aV A [(shFoldRoads, ad0), (shModel, ad1), ((shLongs 1), ad2)]) (hB : va_X b L xs s s.heap ∧ b < s.heap.size ∧ ¬ A b) (hA : ∀ q, A q → s.heap.size ≤ q) (hl0 : l.stackTraces = false) (hNw : x_Nw s) (hr0 : kc ≤ room_1.cells ∧ ks ≤ room_1.slots) (hr1 : kc + 1 ≤ room_1.cells ∧ ks + 6 ≤ room_1.slots) {k23 : XM → XM → XM → Int32 → Option (Int32)} (hk23 : ∀ (w0 : XM) (w1 : XM) (w2 : XM) (l4 : Int32), k23 w0 w1 w2 l4 = some 1 → bW p l e room_1 s m #[Value.ref b] below meth c D tc A 7 [(shFoldRoads, ad0), (shModel, ad1), ((shLongs 1), ad2)] (kc + 1) (ks + 6) (lw_Z below #[Value.ref b] s) 23 [(0, .ref b), (1, .ref (ad0 0)), (2, .ref (ad1 0)), (3, .ref (ad2 0)), (4, .int l4)] [] [w0, w1, w2]) {w0 : XM} {w1 : XM} {w2 : XM} {l4 : Int32}  (h : f_L_law_921 L xs k23 w0 w1 w2 l4 = some 1) : bW p l e room_1 s m #[Value.ref b] below meth c D tc A 7 [(shFoldRoads, ad0), (shModel, ad1), ((shLongs 1), ad2)] kc ks (lw_Z below #[Value.ref b] s) 921 [(0, .ref b), (1, .ref (ad0 0)), (2, .ref (ad1 0)), (3, .ref (ad2 0)), (4, .int l4)] [] [w0, w1, w2] := by
  unfold f_L_law_921 at h
  refine a_aload_n (pc := 921) X 1 dL_law_921 rfl rfl ?_
  refine a_aload_n (pc := 922) X 0 dL_law_922 rfl rfl ?_
  refine a_iload (pc := 923) X 4 dL_law_923 rfl ?_
  refine a_iconst (pc := 925) X dL_law_925 q_ic_1 ?_
  refine a_iadd (pc := 926) X dL_law_926 ?_
  obtain ⟨c_927, h⟩ := x_ck_elim h
  refine y_sld (pc := 927) X hB c_927 dL_law_927 ?_
  obtain ⟨y46, e_y46, h⟩ := x_lt_elim h
  refine a_callV (pc := 928) (st2 := [.int y46]) (vs2 := [w0, w1, w2]) X [(0, 0, 318)] [none] 0 0 11 [.int (xs (l4 + (1 : Int32)).toNatClampNeg)] [] cv_RL_119 (c_X11_gatherAt (ad0 := ad0)  e_y46) rfl rfl rfl rfl rfl rfl rfl rfl rfl rfl rfl rfl rfl rfl rfl (Nat.le_of_ble_eq_true rfl) ⟨Nat.le_of_ble_eq_true rfl, Nat.le_of_ble_eq_true rfl⟩ dL_law_928 (fun _ => ?_) hr0
  refine a_aload_n (pc := 931) X 2 dL_law_931 rfl rfl ?_
  refine a_aload_n (pc := 932) X 0 dL_law_932 rfl rfl ?_
  refine a_iload (pc := 933) X 4 dL_law_933 rfl ?_
  refine a_iconst (pc := 935) X dL_law_935 q_ic_1 ?_
  refine a_iadd (pc := 936) X dL_law_936 ?_
  obtain ⟨c_937, h⟩ := x_ck_elim h
  refine y_sld (pc := 937) X hB c_937 dL_law_937 ?_
  obtain ⟨y47, e_y47, h⟩ := x_bo_elim h
  refine a_callV (pc := 938) (st2 := [.int y47.1, .int y46]) (vs2 := [w0, y47.2, w2]) X [(1, 0, 20)] [some y47.2] 1 0 12 [.int (xs (l4 + (1 : Int32)).toNatClampNeg)] [.int y46] cv_RL_122 (c_X12_gatherAt (ad0 := ad1)  e_y47) rfl rfl rfl rfl rfl rfl rfl rfl rfl rfl rfl rfl rfl rfl rfl (Nat.le_of_ble_eq_true rfl) ⟨Nat.le_of_ble_eq_true rfl, Nat.le_of_ble_eq_true rfl⟩ dL_law_938 (fun _ => ?_) hr0
  refine a_icmp_eq (pc := 941) X 1427 dL_law_941 rfl (fun c_941 => ?_) (fun c_941 => ?_)
  · have h := x_ifp c_941 h
    refine y_wid ?_
    exact w_L_law_1427 X hB hA hl0 hNw hr0 hr1  hk23  h
  · have h := x_ifn c_941 h
    refine a_iconst (pc := 944) X dL_law_944 q_ic_0 ?_
    exact absurd (Option.some.inj h) (by decide)
set_option maxRecDepth 100000 in
set_option maxHeartbeats 4000000 in
theorem w_L_law_946 {p : Program} {l : Launch} {e : Env} {s : State} {m : MethodId} {below : List Frame} {meth : Method} {c : Code} {D : va_G} {tc : Nat → ClassId} {aK aV : Nat → Nat} {A : Nat → Prop} {b kc ks : Nat} {ad0 : Nat → Nat} {ad1 : Nat → Nat} {ad2 : Nat → Nat} {L : Nat} {xs : Nat → Int32} (X : Cx p s m #[Value.ref b] meth c code 7 ret RL D tc aK aV A [(shFoldRoads, ad0), (shModel, ad1), ((shLongs 1), ad2)]) (hB : va_X b L xs s s.heap ∧ b < s.heap.size ∧ ¬ A b) (hA : ∀ q, A q → s.heap.size ≤ q) (hl0 : l.stackTraces = false) (hNw : x_Nw s) (hr0 : kc ≤ room_1.cells ∧ ks ≤ room_1.slots) (hr1 : kc + 1 ≤ room_1.cells ∧ ks + 6 ≤ room_1.slots) {k23 : XM → XM → XM → Int32 → Option (Int32)} (hk23 : ∀ (w0 : XM) (w1 : XM) (w2 : XM) (l4 : Int32), k23 w0 w1 w2 l4 = some 1 → bW p l e room_1 s m #[Value.ref b] below meth c D tc A 7 [(shFoldRoads, ad0), (shModel, ad1), ((shLongs 1), ad2)] (kc + 1) (ks + 6) (lw_Z below #[Value.ref b] s) 23 [(0, .ref b), (1, .ref (ad0 0)), (2, .ref (ad1 0)), (3, .ref (ad2 0)), (4, .int l4)] [] [w0, w1, w2]) {w0 : XM} {w1 : XM} {w2 : XM} {l4 : Int32}  (h : f_L_law_946 L xs k23 w0 w1 w2 l4 = some 1) : bW p l e room_1 s m #[Value.ref b] below meth c D tc A 7 [(shFoldRoads, ad0), (shModel, ad1), ((shLongs 1), ad2)] kc ks (lw_Z below #[Value.ref b] s) 946 [(0, .ref b), (1, .ref (ad0 0)), (2, .ref (ad1 0)), (3, .ref (ad2 0)), (4, .int l4)] [] [w0, w1, w2] := by
  unfold f_L_law_946 at h
  refine a_aload_n (pc := 946) X 1 dL_law_946 rfl rfl ?_
  refine a_aload_n (pc := 947) X 0 dL_law_947 rfl rfl ?_
  refine a_iload (pc := 948) X 4 dL_law_948 rfl ?_
  refine a_iconst (pc := 950) X dL_law_950 q_ic_1 ?_
  refine a_iadd (pc := 951) X dL_law_951 ?_
  obtain ⟨c_952, h⟩ := x_ck_elim h
  refine y_sld (pc := 952) X hB c_952 dL_law_952 ?_
  refine a_aload_n (pc := 953) X 0 dL_law_953 rfl rfl ?_
  refine a_iload (pc := 954) X 4 dL_law_954 rfl ?_
  refine a_iconst (pc := 956) X dL_law_956 q_ic_2 ?_
  refine a_iadd (pc := 957) X dL_law_957 ?_
  obtain ⟨c_958, h⟩ := x_ck_elim h
  refine y_sld (pc := 958) X hB c_958 dL_law_958 ?_
  obtain ⟨y48, e_y48, h⟩ := x_bo_elim h
  refine a_callV (pc := 959) (st2 := [.int y48.1]) (vs2 := [y48.2, w1, w2]) X [(0, 0, 318)] [some y48.2] 0 0 11 [.int (xs (l4 + (1 : Int32)).toNatClampNeg), .int (xs (l4 + (2 : Int32)).toNatClampNeg)] [] cv_RL_123 (c_X11_meet (ad0 := ad0)  e_y48) rfl rfl rfl rfl rfl rfl rfl rfl rfl rfl rfl rfl rfl rfl rfl (Nat.le_of_ble_eq_true rfl) ⟨Nat.le_of_ble_eq_true rfl, Nat.le_of_ble_eq_true rfl⟩ dL_law_959 (fun _ => ?_) hr0
  refine a_aload_n (pc := 962) X 2 dL_law_962 rfl rfl ?_
  refine a_aload_n (pc := 963) X 0 dL_law_963 rfl rfl ?_
  refine a_iload (pc := 964) X 4 dL_law_964 rfl ?_
  refine a_iconst (pc := 966) X dL_law_966 q_ic_1 ?_
  refine a_iadd (pc := 967) X dL_law_967 ?_
  obtain ⟨c_968, h⟩ := x_ck_elim h
  refine y_sld (pc := 968) X hB c_968 dL_law_968 ?_
  refine a_aload_n (pc := 969) X 0 dL_law_969 rfl rfl ?_
  refine a_iload (pc := 970) X 4 dL_law_970 rfl ?_
  refine a_iconst (pc := 972) X dL_law_972 q_ic_2 ?_
  refine a_iadd (pc := 973) X dL_law_973 ?_
  obtain ⟨c_974, h⟩ := x_ck_elim h
  refine y_sld (pc := 974) X hB c_974 dL_law_974 ?_
  obtain ⟨y49, e_y49, h⟩ := x_bo_elim h
  refine a_callV (pc := 975) (st2 := [.int y49.1, .int y48.1]) (vs2 := [y48.2, y49.2, w2]) X [(1, 0, 20)] [some y49.2] 1 0 12 [.int (xs (l4 + (1 : Int32)).toNatClampNeg), .int (xs (l4 + (2 : Int32)).toNatClampNeg)] [.int y48.1] cv_RL_126 (c_X12_meet (ad0 := ad1)  e_y49) rfl rfl rfl rfl rfl rfl rfl rfl rfl rfl rfl rfl rfl rfl rfl (Nat.le_of_ble_eq_true rfl) ⟨Nat.le_of_ble_eq_true rfl, Nat.le_of_ble_eq_true rfl⟩ dL_law_975 (fun _ => ?_) hr0
  refine a_icmp_eq (pc := 978) X 1427 dL_law_978 rfl (fun c_978 => ?_) (fun c_978 => ?_)
  · have h := x_ifp c_978 h
    refine y_wid ?_
    exact w_L_law_1427 X hB hA hl0 hNw hr0 hr1  hk23  h
  · have h := x_ifn c_978 h
    refine a_iconst (pc := 981) X dL_law_981 q_ic_0 ?_
    exact absurd (Option.some.inj h) (by decide)
set_option maxRecDepth 100000 in
set_option maxHeartbeats 4000000 in
theorem w_L_law_983 {p : Program} {l : Launch} {e : Env} {s : State} {m : MethodId} {below : List Frame} {meth : Method} {c : Code} {D : va_G} {tc : Nat → ClassId} {aK aV : Nat → Nat} {A : Nat → Prop} {b kc ks : Nat} {ad0 : Nat → Nat} {ad1 : Nat → Nat} {ad2 : Nat → Nat} {L : Nat} {xs : Nat → Int32} (X : Cx p s m #[Value.ref b] meth c code 7 ret RL D tc aK aV A [(shFoldRoads, ad0), (shModel, ad1), ((shLongs 1), ad2)]) (hB : va_X b L xs s s.heap ∧ b < s.heap.size ∧ ¬ A b) (hA : ∀ q, A q → s.heap.size ≤ q) (hl0 : l.stackTraces = false) (hNw : x_Nw s) (hr0 : kc ≤ room_1.cells ∧ ks ≤ room_1.slots) (hr1 : kc + 1 ≤ room_1.cells ∧ ks + 6 ≤ room_1.slots) {k23 : XM → XM → XM → Int32 → Option (Int32)} (hk23 : ∀ (w0 : XM) (w1 : XM) (w2 : XM) (l4 : Int32), k23 w0 w1 w2 l4 = some 1 → bW p l e room_1 s m #[Value.ref b] below meth c D tc A 7 [(shFoldRoads, ad0), (shModel, ad1), ((shLongs 1), ad2)] (kc + 1) (ks + 6) (lw_Z below #[Value.ref b] s) 23 [(0, .ref b), (1, .ref (ad0 0)), (2, .ref (ad1 0)), (3, .ref (ad2 0)), (4, .int l4)] [] [w0, w1, w2]) {w0 : XM} {w1 : XM} {w2 : XM} {l4 : Int32}  (h : f_L_law_983 L xs k23 w0 w1 w2 l4 = some 1) : bW p l e room_1 s m #[Value.ref b] below meth c D tc A 7 [(shFoldRoads, ad0), (shModel, ad1), ((shLongs 1), ad2)] kc ks (lw_Z below #[Value.ref b] s) 983 [(0, .ref b), (1, .ref (ad0 0)), (2, .ref (ad1 0)), (3, .ref (ad2 0)), (4, .int l4)] [] [w0, w1, w2] := by
  unfold f_L_law_983 at h
  refine a_aload_n (pc := 983) X 1 dL_law_983 rfl rfl ?_
  obtain ⟨y50, e_y50, h⟩ := x_lt_elim h
  refine a_callV (pc := 984) (st2 := [.int y50]) (vs2 := [w0, w1, w2]) X [(0, 0, 318)] [none] 0 0 11 [] [] cv_RL_127 (c_X11_meetAt (ad0 := ad0)  e_y50) rfl rfl rfl rfl rfl rfl rfl rfl rfl rfl rfl rfl rfl rfl rfl (Nat.le_of_ble_eq_true rfl) ⟨Nat.le_of_ble_eq_true rfl, Nat.le_of_ble_eq_true rfl⟩ dL_law_984 (fun _ => ?_) hr0
  refine a_aload_n (pc := 987) X 2 dL_law_987 rfl rfl ?_
  obtain ⟨y51, e_y51, h⟩ := x_lt_elim h
  refine a_callV (pc := 988) (st2 := [.int y51.1, .int y50]) (vs2 := [w0, y51.2, w2]) X [(1, 0, 20)] [some y51.2] 1 0 12 [] [.int y50] cv_RL_130 (c_X12_meetAt (ad0 := ad1)  e_y51) rfl rfl rfl rfl rfl rfl rfl rfl rfl rfl rfl rfl rfl rfl rfl (Nat.le_of_ble_eq_true rfl) ⟨Nat.le_of_ble_eq_true rfl, Nat.le_of_ble_eq_true rfl⟩ dL_law_988 (fun _ => ?_) hr0
  refine a_icmp_eq (pc := 991) X 1427 dL_law_991 rfl (fun c_991 => ?_) (fun c_991 => ?_)
  · have h := x_ifp c_991 h
    refine y_wid ?_
    exact w_L_law_1427 X hB hA hl0 hNw hr0 hr1  hk23  h
  · have h := x_ifn c_991 h
    refine a_iconst (pc := 994) X dL_law_994 q_ic_0 ?_
    exact absurd (Option.some.inj h) (by decide)
set_option maxRecDepth 100000 in
set_option maxHeartbeats 4000000 in
theorem w_L_law_996 {p : Program} {l : Launch} {e : Env} {s : State} {m : MethodId} {below : List Frame} {meth : Method} {c : Code} {D : va_G} {tc : Nat → ClassId} {aK aV : Nat → Nat} {A : Nat → Prop} {b kc ks : Nat} {ad0 : Nat → Nat} {ad1 : Nat → Nat} {ad2 : Nat → Nat} {L : Nat} {xs : Nat → Int32} (X : Cx p s m #[Value.ref b] meth c code 7 ret RL D tc aK aV A [(shFoldRoads, ad0), (shModel, ad1), ((shLongs 1), ad2)]) (hB : va_X b L xs s s.heap ∧ b < s.heap.size ∧ ¬ A b) (hA : ∀ q, A q → s.heap.size ≤ q) (hl0 : l.stackTraces = false) (hNw : x_Nw s) (hr0 : kc ≤ room_1.cells ∧ ks ≤ room_1.slots) (hr1 : kc + 1 ≤ room_1.cells ∧ ks + 6 ≤ room_1.slots) {k23 : XM → XM → XM → Int32 → Option (Int32)} (hk23 : ∀ (w0 : XM) (w1 : XM) (w2 : XM) (l4 : Int32), k23 w0 w1 w2 l4 = some 1 → bW p l e room_1 s m #[Value.ref b] below meth c D tc A 7 [(shFoldRoads, ad0), (shModel, ad1), ((shLongs 1), ad2)] (kc + 1) (ks + 6) (lw_Z below #[Value.ref b] s) 23 [(0, .ref b), (1, .ref (ad0 0)), (2, .ref (ad1 0)), (3, .ref (ad2 0)), (4, .int l4)] [] [w0, w1, w2]) {w0 : XM} {w1 : XM} {w2 : XM} {l4 : Int32}  (h : f_L_law_996 L xs k23 w0 w1 w2 l4 = some 1) : bW p l e room_1 s m #[Value.ref b] below meth c D tc A 7 [(shFoldRoads, ad0), (shModel, ad1), ((shLongs 1), ad2)] kc ks (lw_Z below #[Value.ref b] s) 996 [(0, .ref b), (1, .ref (ad0 0)), (2, .ref (ad1 0)), (3, .ref (ad2 0)), (4, .int l4)] [] [w0, w1, w2] := by
  unfold f_L_law_996 at h
  refine a_aload_n (pc := 996) X 1 dL_law_996 rfl rfl ?_
  refine a_aload_n (pc := 997) X 0 dL_law_997 rfl rfl ?_
  refine a_iload (pc := 998) X 4 dL_law_998 rfl ?_
  refine a_iconst (pc := 1000) X dL_law_1000 q_ic_1 ?_
  refine a_iadd (pc := 1001) X dL_law_1001 ?_
  obtain ⟨c_1002, h⟩ := x_ck_elim h
  refine y_sld (pc := 1002) X hB c_1002 dL_law_1002 ?_
  obtain ⟨y52, e_y52, h⟩ := x_bo_elim h
  refine a_callV (pc := 1003) (st2 := [.int y52.1]) (vs2 := [y52.2, w1, w2]) X [(0, 0, 318)] [some y52.2] 0 0 11 [.int (xs (l4 + (1 : Int32)).toNatClampNeg)] [] cv_RL_131 (c_X11_inns (ad0 := ad0)  e_y52) rfl rfl rfl rfl rfl rfl rfl rfl rfl rfl rfl rfl rfl rfl rfl (Nat.le_of_ble_eq_true rfl) ⟨Nat.le_of_ble_eq_true rfl, Nat.le_of_ble_eq_true rfl⟩ dL_law_1003 (fun _ => ?_) hr0
  refine a_aload_n (pc := 1006) X 2 dL_law_1006 rfl rfl ?_
  refine a_aload_n (pc := 1007) X 0 dL_law_1007 rfl rfl ?_
  refine a_iload (pc := 1008) X 4 dL_law_1008 rfl ?_
  refine a_iconst (pc := 1010) X dL_law_1010 q_ic_1 ?_
  refine a_iadd (pc := 1011) X dL_law_1011 ?_
  obtain ⟨c_1012, h⟩ := x_ck_elim h
  refine y_sld (pc := 1012) X hB c_1012 dL_law_1012 ?_
  obtain ⟨y53, e_y53, h⟩ := x_bo_elim h
  refine a_callV (pc := 1013) (st2 := [.int y53.1, .int y52.1]) (vs2 := [y52.2, y53.2, w2]) X [(1, 0, 20)] [some y53.2] 1 0 12 [.int (xs (l4 + (1 : Int32)).toNatClampNeg)] [.int y52.1] cv_RL_134 (c_X12_inns (ad0 := ad1)  e_y53) rfl rfl rfl rfl rfl rfl rfl rfl rfl rfl rfl rfl rfl rfl rfl (Nat.le_of_ble_eq_true rfl) ⟨Nat.le_of_ble_eq_true rfl, Nat.le_of_ble_eq_true rfl⟩ dL_law_1013 (fun _ => ?_) hr0
  refine a_icmp_eq (pc := 1016) X 1427 dL_law_1016 rfl (fun c_1016 => ?_) (fun c_1016 => ?_)
  · have h := x_ifp c_1016 h
    refine y_wid ?_
    exact w_L_law_1427 X hB hA hl0 hNw hr0 hr1  hk23  h
  · have h := x_ifn c_1016 h
    refine a_iconst (pc := 1019) X dL_law_1019 q_ic_0 ?_
    exact absurd (Option.some.inj h) (by decide)
set_option maxRecDepth 100000 in
set_option maxHeartbeats 4000000 in
theorem w_L_law_1021 {p : Program} {l : Launch} {e : Env} {s : State} {m : MethodId} {below : List Frame} {meth : Method} {c : Code} {D : va_G} {tc : Nat → ClassId} {aK aV : Nat → Nat} {A : Nat → Prop} {b kc ks : Nat} {ad0 : Nat → Nat} {ad1 : Nat → Nat} {ad2 : Nat → Nat} {L : Nat} {xs : Nat → Int32} (X : Cx p s m #[Value.ref b] meth c code 7 ret RL D tc aK aV A [(shFoldRoads, ad0), (shModel, ad1), ((shLongs 1), ad2)]) (hB : va_X b L xs s s.heap ∧ b < s.heap.size ∧ ¬ A b) (hA : ∀ q, A q → s.heap.size ≤ q) (hl0 : l.stackTraces = false) (hNw : x_Nw s) (hr0 : kc ≤ room_1.cells ∧ ks ≤ room_1.slots) (hr1 : kc + 1 ≤ room_1.cells ∧ ks + 6 ≤ room_1.slots) {k23 : XM → XM → XM → Int32 → Option (Int32)} (hk23 : ∀ (w0 : XM) (w1 : XM) (w2 : XM) (l4 : Int32), k23 w0 w1 w2 l4 = some 1 → bW p l e room_1 s m #[Value.ref b] below meth c D tc A 7 [(shFoldRoads, ad0), (shModel, ad1), ((shLongs 1), ad2)] (kc + 1) (ks + 6) (lw_Z below #[Value.ref b] s) 23 [(0, .ref b), (1, .ref (ad0 0)), (2, .ref (ad1 0)), (3, .ref (ad2 0)), (4, .int l4)] [] [w0, w1, w2]) {w0 : XM} {w1 : XM} {w2 : XM} {l4 : Int32}  (h : f_L_law_1021 L xs k23 w0 w1 w2 l4 = some 1) : bW p l e room_1 s m #[Value.ref b] below meth c D tc A 7 [(shFoldRoads, ad0), (shModel, ad1), ((shLongs 1), ad2)] kc ks (lw_Z below #[Value.ref b] s) 1021 [(0, .ref b), (1, .ref (ad0 0)), (2, .ref (ad1 0)), (3, .ref (ad2 0)), (4, .int l4)] [] [w0, w1, w2] := by
  unfold f_L_law_1021 at h
  refine a_aload_n (pc := 1021) X 1 dL_law_1021 rfl rfl ?_
  obtain ⟨y54, e_y54, h⟩ := x_lt_elim h
  refine a_callV (pc := 1022) (st2 := [.int y54]) (vs2 := [w0, w1, w2]) X [(0, 0, 318)] [none] 0 0 11 [] [] cv_RL_135 (c_X11_innsAt (ad0 := ad0)  e_y54) rfl rfl rfl rfl rfl rfl rfl rfl rfl rfl rfl rfl rfl rfl rfl (Nat.le_of_ble_eq_true rfl) ⟨Nat.le_of_ble_eq_true rfl, Nat.le_of_ble_eq_true rfl⟩ dL_law_1022 (fun _ => ?_) hr0
  refine a_aload_n (pc := 1025) X 2 dL_law_1025 rfl rfl ?_
  obtain ⟨y55, e_y55, h⟩ := x_lt_elim h
  refine a_callV (pc := 1026) (st2 := [.int y55.1, .int y54]) (vs2 := [w0, y55.2, w2]) X [(1, 0, 20)] [some y55.2] 1 0 12 [] [.int y54] cv_RL_138 (c_X12_innsAt (ad0 := ad1)  e_y55) rfl rfl rfl rfl rfl rfl rfl rfl rfl rfl rfl rfl rfl rfl rfl (Nat.le_of_ble_eq_true rfl) ⟨Nat.le_of_ble_eq_true rfl, Nat.le_of_ble_eq_true rfl⟩ dL_law_1026 (fun _ => ?_) hr0
  refine a_icmp_eq (pc := 1029) X 1427 dL_law_1029 rfl (fun c_1029 => ?_) (fun c_1029 => ?_)
  · have h := x_ifp c_1029 h
    refine y_wid ?_
    exact w_L_law_1427 X hB hA hl0 hNw hr0 hr1  hk23  h
  · have h := x_ifn c_1029 h
    refine a_iconst (pc := 1032) X dL_law_1032 q_ic_0 ?_
    exact absurd (Option.some.inj h) (by decide)
set_option maxRecDepth 100000 in
set_option maxHeartbeats 4000000 in
theorem w_L_law_1034 {p : Program} {l : Launch} {e : Env} {s : State} {m : MethodId} {below : List Frame} {meth : Method} {c : Code} {D : va_G} {tc : Nat → ClassId} {aK aV : Nat → Nat} {A : Nat → Prop} {b kc ks : Nat} {ad0 : Nat → Nat} {ad1 : Nat → Nat} {ad2 : Nat → Nat} {L : Nat} {xs : Nat → Int32} (X : Cx p s m #[Value.ref b] meth c code 7 ret RL D tc aK aV A [(shFoldRoads, ad0), (shModel, ad1), ((shLongs 1), ad2)]) (hB : va_X b L xs s s.heap ∧ b < s.heap.size ∧ ¬ A b) (hA : ∀ q, A q → s.heap.size ≤ q) (hl0 : l.stackTraces = false) (hNw : x_Nw s) (hr0 : kc ≤ room_1.cells ∧ ks ≤ room_1.slots) (hr1 : kc + 1 ≤ room_1.cells ∧ ks + 6 ≤ room_1.slots) {k23 : XM → XM → XM → Int32 → Option (Int32)} (hk23 : ∀ (w0 : XM) (w1 : XM) (w2 : XM) (l4 : Int32), k23 w0 w1 w2 l4 = some 1 → bW p l e room_1 s m #[Value.ref b] below meth c D tc A 7 [(shFoldRoads, ad0), (shModel, ad1), ((shLongs 1), ad2)] (kc + 1) (ks + 6) (lw_Z below #[Value.ref b] s) 23 [(0, .ref b), (1, .ref (ad0 0)), (2, .ref (ad1 0)), (3, .ref (ad2 0)), (4, .int l4)] [] [w0, w1, w2]) {w0 : XM} {w1 : XM} {w2 : XM} {l4 : Int32}  (h : f_L_law_1034 L xs k23 w0 w1 w2 l4 = some 1) : bW p l e room_1 s m #[Value.ref b] below meth c D tc A 7 [(shFoldRoads, ad0), (shModel, ad1), ((shLongs 1), ad2)] kc ks (lw_Z below #[Value.ref b] s) 1034 [(0, .ref b), (1, .ref (ad0 0)), (2, .ref (ad1 0)), (3, .ref (ad2 0)), (4, .int l4)] [] [w0, w1, w2] := by
  unfold f_L_law_1034 at h
  refine a_aload_n (pc := 1034) X 1 dL_law_1034 rfl rfl ?_
  obtain ⟨y56, e_y56, h⟩ := x_bo_elim h
  refine a_callV (pc := 1035) (st2 := [.int y56.1]) (vs2 := [y56.2, w1, w2]) X [(0, 0, 318)] [some y56.2] 0 0 11 [] [] cv_RL_139 (c_X11_came (ad0 := ad0)  e_y56) rfl rfl rfl rfl rfl rfl rfl rfl rfl rfl rfl rfl rfl rfl rfl (Nat.le_of_ble_eq_true rfl) ⟨Nat.le_of_ble_eq_true rfl, Nat.le_of_ble_eq_true rfl⟩ dL_law_1035 (fun _ => ?_) hr0
  refine a_aload_n (pc := 1038) X 2 dL_law_1038 rfl rfl ?_
  obtain ⟨y57, e_y57, h⟩ := x_bo_elim h
  refine a_callV (pc := 1039) (st2 := [.int y57.1, .int y56.1]) (vs2 := [y56.2, y57.2, w2]) X [(1, 0, 20)] [some y57.2] 1 0 12 [] [.int y56.1] cv_RL_142 (c_X12_came (ad0 := ad1)  e_y57) rfl rfl rfl rfl rfl rfl rfl rfl rfl rfl rfl rfl rfl rfl rfl (Nat.le_of_ble_eq_true rfl) ⟨Nat.le_of_ble_eq_true rfl, Nat.le_of_ble_eq_true rfl⟩ dL_law_1039 (fun _ => ?_) hr0
  refine a_icmp_eq (pc := 1042) X 1427 dL_law_1042 rfl (fun c_1042 => ?_) (fun c_1042 => ?_)
  · have h := x_ifp c_1042 h
    refine y_wid ?_
    exact w_L_law_1427 X hB hA hl0 hNw hr0 hr1  hk23  h
  · have h := x_ifn c_1042 h
    refine a_iconst (pc := 1045) X dL_law_1045 q_ic_0 ?_
    exact absurd (Option.some.inj h) (by decide)
set_option maxRecDepth 100000 in
set_option maxHeartbeats 4000000 in
theorem w_L_law_1047 {p : Program} {l : Launch} {e : Env} {s : State} {m : MethodId} {below : List Frame} {meth : Method} {c : Code} {D : va_G} {tc : Nat → ClassId} {aK aV : Nat → Nat} {A : Nat → Prop} {b kc ks : Nat} {ad0 : Nat → Nat} {ad1 : Nat → Nat} {ad2 : Nat → Nat} {L : Nat} {xs : Nat → Int32} (X : Cx p s m #[Value.ref b] meth c code 7 ret RL D tc aK aV A [(shFoldRoads, ad0), (shModel, ad1), ((shLongs 1), ad2)]) (hB : va_X b L xs s s.heap ∧ b < s.heap.size ∧ ¬ A b) (hA : ∀ q, A q → s.heap.size ≤ q) (hl0 : l.stackTraces = false) (hNw : x_Nw s) (hr0 : kc ≤ room_1.cells ∧ ks ≤ room_1.slots) (hr1 : kc + 1 ≤ room_1.cells ∧ ks + 6 ≤ room_1.slots) {k23 : XM → XM → XM → Int32 → Option (Int32)} (hk23 : ∀ (w0 : XM) (w1 : XM) (w2 : XM) (l4 : Int32), k23 w0 w1 w2 l4 = some 1 → bW p l e room_1 s m #[Value.ref b] below meth c D tc A 7 [(shFoldRoads, ad0), (shModel, ad1), ((shLongs 1), ad2)] (kc + 1) (ks + 6) (lw_Z below #[Value.ref b] s) 23 [(0, .ref b), (1, .ref (ad0 0)), (2, .ref (ad1 0)), (3, .ref (ad2 0)), (4, .int l4)] [] [w0, w1, w2]) {w0 : XM} {w1 : XM} {w2 : XM} {l4 : Int32}  (h : f_L_law_1047 L xs k23 w0 w1 w2 l4 = some 1) : bW p l e room_1 s m #[Value.ref b] below meth c D tc A 7 [(shFoldRoads, ad0), (shModel, ad1), ((shLongs 1), ad2)] kc ks (lw_Z below #[Value.ref b] s) 1047 [(0, .ref b), (1, .ref (ad0 0)), (2, .ref (ad1 0)), (3, .ref (ad2 0)), (4, .int l4)] [] [w0, w1, w2] := by
  unfold f_L_law_1047 at h
  refine a_aload_n (pc := 1047) X 1 dL_law_1047 rfl rfl ?_
  obtain ⟨y58, e_y58, h⟩ := x_lt_elim h
  refine a_callV (pc := 1048) (st2 := [.int y58]) (vs2 := [w0, w1, w2]) X [(0, 0, 318)] [none] 0 0 11 [] [] cv_RL_143 (c_X11_ask (ad0 := ad0)  e_y58) rfl rfl rfl rfl rfl rfl rfl rfl rfl rfl rfl rfl rfl rfl rfl (Nat.le_of_ble_eq_true rfl) ⟨Nat.le_of_ble_eq_true rfl, Nat.le_of_ble_eq_true rfl⟩ dL_law_1048 (fun _ => ?_) hr0
  refine a_aload_n (pc := 1051) X 2 dL_law_1051 rfl rfl ?_
  obtain ⟨y59, e_y59, h⟩ := x_lt_elim h
  refine a_callV (pc := 1052) (st2 := [.int y59.1, .int y58]) (vs2 := [w0, y59.2, w2]) X [(1, 0, 20)] [some y59.2] 1 0 12 [] [.int y58] cv_RL_146 (c_X12_ask (ad0 := ad1)  e_y59) rfl rfl rfl rfl rfl rfl rfl rfl rfl rfl rfl rfl rfl rfl rfl (Nat.le_of_ble_eq_true rfl) ⟨Nat.le_of_ble_eq_true rfl, Nat.le_of_ble_eq_true rfl⟩ dL_law_1052 (fun _ => ?_) hr0
  refine a_icmp_eq (pc := 1055) X 1427 dL_law_1055 rfl (fun c_1055 => ?_) (fun c_1055 => ?_)
  · have h := x_ifp c_1055 h
    refine y_wid ?_
    exact w_L_law_1427 X hB hA hl0 hNw hr0 hr1  hk23  h
  · have h := x_ifn c_1055 h
    refine a_iconst (pc := 1058) X dL_law_1058 q_ic_0 ?_
    exact absurd (Option.some.inj h) (by decide)
set_option maxRecDepth 100000 in
set_option maxHeartbeats 4000000 in
theorem w_L_law_1125 {p : Program} {l : Launch} {e : Env} {s : State} {m : MethodId} {below : List Frame} {meth : Method} {c : Code} {D : va_G} {tc : Nat → ClassId} {aK aV : Nat → Nat} {A : Nat → Prop} {b kc ks : Nat} {ad0 : Nat → Nat} {ad1 : Nat → Nat} {ad2 : Nat → Nat} {L : Nat} {xs : Nat → Int32} (X : Cx p s m #[Value.ref b] meth c code 7 ret RL D tc aK aV A [(shFoldRoads, ad0), (shModel, ad1), ((shLongs 1), ad2)]) (hB : va_X b L xs s s.heap ∧ b < s.heap.size ∧ ¬ A b) (hA : ∀ q, A q → s.heap.size ≤ q) (hl0 : l.stackTraces = false) (hNw : x_Nw s) (hr0 : kc ≤ room_1.cells ∧ ks ≤ room_1.slots) (hr1 : kc + 1 ≤ room_1.cells ∧ ks + 6 ≤ room_1.slots) {k23 : XM → XM → XM → Int32 → Option (Int32)} (hk23 : ∀ (w0 : XM) (w1 : XM) (w2 : XM) (l4 : Int32), k23 w0 w1 w2 l4 = some 1 → bW p l e room_1 s m #[Value.ref b] below meth c D tc A 7 [(shFoldRoads, ad0), (shModel, ad1), ((shLongs 1), ad2)] (kc + 1) (ks + 6) (lw_Z below #[Value.ref b] s) 23 [(0, .ref b), (1, .ref (ad0 0)), (2, .ref (ad1 0)), (3, .ref (ad2 0)), (4, .int l4)] [] [w0, w1, w2]) {w0 : XM} {w1 : XM} {w2 : XM} {l4 : Int32}  (h : f_L_law_1125 L xs k23 w0 w1 w2 l4 = some 1) : bW p l e room_1 s m #[Value.ref b] below meth c D tc A 7 [(shFoldRoads, ad0), (shModel, ad1), ((shLongs 1), ad2)] (kc + 1) (ks + 6) (lw_Z below #[Value.ref b] s) 1125 [(0, .ref b), (1, .ref (ad0 0)), (2, .ref (ad1 0)), (3, .ref (ad2 0)), (4, .int l4)] [] [w0, w1, w2] := by
  unfold f_L_law_1125 at h
  refine a_goto (pc := 1125) X 1427 dL_law_1125 rfl ?_
  exact w_L_law_1427 X hB hA hl0 hNw hr0 hr1  hk23  h
set_option maxRecDepth 100000 in
set_option maxHeartbeats 4000000 in
theorem w_L_law_1060 {p : Program} {l : Launch} {e : Env} {s : State} {m : MethodId} {below : List Frame} {meth : Method} {c : Code} {D : va_G} {tc : Nat → ClassId} {aK aV : Nat → Nat} {A : Nat → Prop} {b kc ks : Nat} {ad0 : Nat → Nat} {ad1 : Nat → Nat} {ad2 : Nat → Nat} {L : Nat} {xs : Nat → Int32} (X : Cx p s m #[Value.ref b] meth c code 7 ret RL D tc aK aV A [(shFoldRoads, ad0), (shModel, ad1), ((shLongs 1), ad2)]) (hB : va_X b L xs s s.heap ∧ b < s.heap.size ∧ ¬ A b) (hA : ∀ q, A q → s.heap.size ≤ q) (hl0 : l.stackTraces = false) (hNw : x_Nw s) (hr0 : kc ≤ room_1.cells ∧ ks ≤ room_1.slots) (hr1 : kc + 1 ≤ room_1.cells ∧ ks + 6 ≤ room_1.slots) {k23 : XM → XM → XM → Int32 → Option (Int32)} (hk23 : ∀ (w0 : XM) (w1 : XM) (w2 : XM) (l4 : Int32), k23 w0 w1 w2 l4 = some 1 → bW p l e room_1 s m #[Value.ref b] below meth c D tc A 7 [(shFoldRoads, ad0), (shModel, ad1), ((shLongs 1), ad2)] (kc + 1) (ks + 6) (lw_Z below #[Value.ref b] s) 23 [(0, .ref b), (1, .ref (ad0 0)), (2, .ref (ad1 0)), (3, .ref (ad2 0)), (4, .int l4)] [] [w0, w1, w2]) {w0 : XM} {w1 : XM} {w2 : XM} {l4 : Int32}  (h : f_L_law_1060 L xs k23 w0 w1 w2 l4 = some 1) : bW p l e room_1 s m #[Value.ref b] below meth c D tc A 7 [(shFoldRoads, ad0), (shModel, ad1), ((shLongs 1), ad2)] kc ks (lw_Z below #[Value.ref b] s) 1060 [(0, .ref b), (1, .ref (ad0 0)), (2, .ref (ad1 0)), (3, .ref (ad2 0)), (4, .int l4)] [] [w0, w1, w2] := by
  unfold f_L_law_1060 at h
  refine a_aload_n (pc := 1060) X 1 dL_law_1060 rfl rfl ?_
  refine a_aload_n (pc := 1061) X 0 dL_law_1061 rfl rfl ?_
  refine a_iload (pc := 1062) X 4 dL_law_1062 rfl ?_
  refine a_iconst (pc := 1064) X dL_law_1064 q_ic_1 ?_
  refine a_iadd (pc := 1065) X dL_law_1065 ?_
  obtain ⟨c_1066, h⟩ := x_ck_elim h
  refine y_sld (pc := 1066) X hB c_1066 dL_law_1066 ?_
  refine a_aload_n (pc := 1067) X 0 dL_law_1067 rfl rfl ?_
  refine a_iload (pc := 1068) X 4 dL_law_1068 rfl ?_
  refine a_iconst (pc := 1070) X dL_law_1070 q_ic_2 ?_
  refine a_iadd (pc := 1071) X dL_law_1071 ?_
  obtain ⟨c_1072, h⟩ := x_ck_elim h
  refine y_sld (pc := 1072) X hB c_1072 dL_law_1072 ?_
  refine a_aload_n (pc := 1073) X 3 dL_law_1073 rfl rfl ?_
  obtain ⟨y60, e_y60, h⟩ := x_bo_elim h
  refine y_callSW (pc := 1074) (st2 := [.int y60.1]) (vs2 := [y60.2.1, w1, y60.2.2]) X hNw [(0, 0, 318), (2, 0, 1)] [some y60.2.1, some y60.2.2] [.ref (ad0 0), .int (xs (l4 + (1 : Int32)).toNatClampNeg), .int (xs (l4 + (2 : Int32)).toNatClampNeg), .ref (ad2 0)] [] cw_RL_147 (c_L_mean hl0 (ad0 := ad0) (ad1 := ad2) e_y60) rfl rfl rfl rfl rfl rfl rfl rfl rfl rfl rfl (Nat.le_of_ble_eq_true rfl) ⟨Nat.le_of_ble_eq_true rfl, Nat.le_of_ble_eq_true rfl⟩ dL_law_1074 hr1 ?_
  refine a_istore (pc := 1077) X [(5, .int y60.1), (0, .ref b), (1, .ref (ad0 0)), (2, .ref (ad1 0)), (3, .ref (ad2 0)), (4, .int l4)] dL_law_1077 (by decide) rfl ?_
  refine a_aload_n (pc := 1079) X 3 dL_law_1079 rfl rfl ?_
  refine a_aload_n (pc := 1080) X 1 dL_law_1080 rfl rfl ?_
  refine a_iload (pc := 1081) X 5 dL_law_1081 rfl ?_
  refine a_iconst (pc := 1083) X dL_law_1083 q_ic_1 ?_
  refine a_iadd (pc := 1084) X dL_law_1084 ?_
  obtain ⟨c_1085, h⟩ := x_ck_elim h
  refine y_sld (pc := 1085) X hB c_1085 dL_law_1085 ?_
  refine a_aload_n (pc := 1086) X 1 dL_law_1086 rfl rfl ?_
  refine a_iload (pc := 1087) X 5 dL_law_1087 rfl ?_
  refine a_iconst (pc := 1089) X dL_law_1089 q_ic_2 ?_
  refine a_iadd (pc := 1090) X dL_law_1090 ?_
  obtain ⟨c_1091, h⟩ := x_ck_elim h
  refine y_sld (pc := 1091) X hB c_1091 dL_law_1091 ?_
  obtain ⟨y61, e_y61, h⟩ := x_bo_elim h
  refine a_callV (pc := 1092) (st2 := [.int y61.1]) (vs2 := [y60.2.1, y61.2, y60.2.2]) X [(1, 0, 20)] [some y61.2] 1 0 12 [.int (xs (l4 + (1 : Int32)).toNatClampNeg), .int (xs (l4 + (2 : Int32)).toNatClampNeg)] [] cv_RL_149 (c_X12_mean (ad0 := ad1)  e_y61) rfl rfl rfl rfl rfl rfl rfl rfl rfl rfl rfl rfl rfl rfl rfl (Nat.le_of_ble_eq_true rfl) ⟨Nat.le_of_ble_eq_true rfl, Nat.le_of_ble_eq_true rfl⟩ dL_law_1092 (fun _ => ?_) hr1
  refine a_istore (pc := 1095) X [(6, .int y61.1), (5, .int y60.1), (0, .ref b), (1, .ref (ad0 0)), (2, .ref (ad1 0)), (3, .ref (ad2 0)), (4, .int l4)] dL_law_1095 (by decide) rfl ?_
  refine a_aload_n (pc := 1097) X 4 dL_law_1097 rfl rfl ?_
  obtain ⟨y62, e_y62, h⟩ := x_lt_elim h
  refine a_callV (pc := 1098) (st2 := [.int y62]) (vs2 := [y60.2.1, y61.2, y60.2.2]) X [(1, 0, 20)] [none] 1 0 12 [] [] cv_RL_47 (c_X12_thrown (ad0 := ad1)  e_y62) rfl rfl rfl rfl rfl rfl rfl rfl rfl rfl rfl rfl rfl rfl rfl (Nat.le_of_ble_eq_true rfl) ⟨Nat.le_of_ble_eq_true rfl, Nat.le_of_ble_eq_true rfl⟩ dL_law_1098 (fun _ => ?_) hr1
  refine a_iload (pc := 1101) X 1 dL_law_1101 rfl ?_
  refine a_icmp_eq (pc := 1103) X 1108 dL_law_1103 rfl (fun c_1103 => ?_) (fun c_1103 => ?_)
  · have h := x_ifp c_1103 h
    refine a_iload (pc := 1108) X 1 dL_law_1108 rfl ?_
    refine a_if_ne (pc := 1110) X 1125 dL_law_1110 rfl (fun c_1110 => ?_) (fun c_1110 => ?_)
    · have h := x_ifn c_1110 h
      refine a_sub [2, 3, 4, 5, 6] rfl ?_
      exact w_L_law_1125 X hB hA hl0 hNw hr0 hr1  hk23  h
    · have h := x_ifp c_1110 h
      refine a_aload_n (pc := 1113) X 5 dL_law_1113 rfl rfl ?_
      refine a_iconst (pc := 1114) X dL_law_1114 q_ic_0 ?_
      refine a_lald (pc := 1115) X 2 rfl rfl rfl (x_inl (by decide)) dL_law_1115 ?_
      refine a_iload (pc := 1116) X 0 dL_law_1116 rfl ?_
      refine a_i2l (pc := 1118) X dL_law_1118 ?_
      refine a_lcmp (pc := 1119) X dL_law_1119 ?_
      refine a_if_eq (pc := 1120) X 1125 dL_law_1120 rfl (fun c_1120 => ?_) (fun c_1120 => ?_)
      · have h := x_ifp c_1120 h
        refine a_sub [2, 3, 4, 5, 6] rfl ?_
        exact w_L_law_1125 X hB hA hl0 hNw hr0 hr1  hk23  h
      · have h := x_ifn c_1120 h
        refine a_iconst (pc := 1123) X dL_law_1123 q_ic_0 ?_
        exact absurd (Option.some.inj h) (by decide)
  · have h := x_ifn c_1103 h
    refine a_iconst (pc := 1106) X dL_law_1106 q_ic_0 ?_
    exact absurd (Option.some.inj h) (by decide)
set_option maxRecDepth 100000 in
set_option maxHeartbeats 4000000 in
theorem w_L_law_1128 {p : Program} {l : Launch} {e : Env} {s : State} {m : MethodId} {below : List Frame} {meth : Method} {c : Code} {D : va_G} {tc : Nat → ClassId} {aK aV : Nat → Nat} {A : Nat → Prop} {b kc ks : Nat} {ad0 : Nat → Nat} {ad1 : Nat → Nat} {ad2 : Nat → Nat} {L : Nat} {xs : Nat → Int32} (X : Cx p s m #[Value.ref b] meth c code 7 ret RL D tc aK aV A [(shFoldRoads, ad0), (shModel, ad1), ((shLongs 1), ad2)]) (hB : va_X b L xs s s.heap ∧ b < s.heap.size ∧ ¬ A b) (hA : ∀ q, A q → s.heap.size ≤ q) (hl0 : l.stackTraces = false) (hNw : x_Nw s) (hr0 : kc ≤ room_1.cells ∧ ks ≤ room_1.slots) (hr1 : kc + 1 ≤ room_1.cells ∧ ks + 6 ≤ room_1.slots) {k23 : XM → XM → XM → Int32 → Option (Int32)} (hk23 : ∀ (w0 : XM) (w1 : XM) (w2 : XM) (l4 : Int32), k23 w0 w1 w2 l4 = some 1 → bW p l e room_1 s m #[Value.ref b] below meth c D tc A 7 [(shFoldRoads, ad0), (shModel, ad1), ((shLongs 1), ad2)] (kc + 1) (ks + 6) (lw_Z below #[Value.ref b] s) 23 [(0, .ref b), (1, .ref (ad0 0)), (2, .ref (ad1 0)), (3, .ref (ad2 0)), (4, .int l4)] [] [w0, w1, w2]) {w0 : XM} {w1 : XM} {w2 : XM} {l4 : Int32}  (h : f_L_law_1128 L xs k23 w0 w1 w2 l4 = some 1) : bW p l e room_1 s m #[Value.ref b] below meth c D tc A 7 [(shFoldRoads, ad0), (shModel, ad1), ((shLongs 1), ad2)] kc ks (lw_Z below #[Value.ref b] s) 1128 [(0, .ref b), (1, .ref (ad0 0)), (2, .ref (ad1 0)), (3, .ref (ad2 0)), (4, .int l4)] [] [w0, w1, w2] := by
  unfold f_L_law_1128 at h
  refine a_aload_n (pc := 1128) X 1 dL_law_1128 rfl rfl ?_
  refine a_aload_n (pc := 1129) X 0 dL_law_1129 rfl rfl ?_
  refine a_iload (pc := 1130) X 4 dL_law_1130 rfl ?_
  refine a_iconst (pc := 1132) X dL_law_1132 q_ic_1 ?_
  refine a_iadd (pc := 1133) X dL_law_1133 ?_
  obtain ⟨c_1134, h⟩ := x_ck_elim h
  refine y_sld (pc := 1134) X hB c_1134 dL_law_1134 ?_
  obtain ⟨y63, e_y63, h⟩ := x_bo_elim h
  refine a_callV (pc := 1135) (st2 := [.int y63.1]) (vs2 := [y63.2, w1, w2]) X [(0, 0, 318)] [some y63.2] 0 0 11 [.int (xs (l4 + (1 : Int32)).toNatClampNeg)] [] cv_RL_150 (c_X11_tag (ad0 := ad0)  e_y63) rfl rfl rfl rfl rfl rfl rfl rfl rfl rfl rfl rfl rfl rfl rfl (Nat.le_of_ble_eq_true rfl) ⟨Nat.le_of_ble_eq_true rfl, Nat.le_of_ble_eq_true rfl⟩ dL_law_1135 (fun _ => ?_) hr0
  refine a_aload_n (pc := 1138) X 2 dL_law_1138 rfl rfl ?_
  refine a_aload_n (pc := 1139) X 0 dL_law_1139 rfl rfl ?_
  refine a_iload (pc := 1140) X 4 dL_law_1140 rfl ?_
  refine a_iconst (pc := 1142) X dL_law_1142 q_ic_1 ?_
  refine a_iadd (pc := 1143) X dL_law_1143 ?_
  obtain ⟨c_1144, h⟩ := x_ck_elim h
  refine y_sld (pc := 1144) X hB c_1144 dL_law_1144 ?_
  obtain ⟨y64, e_y64, h⟩ := x_bo_elim h
  refine a_callV (pc := 1145) (st2 := [.int y64.1, .int y63.1]) (vs2 := [y63.2, y64.2, w2]) X [(1, 0, 20)] [some y64.2] 1 0 12 [.int (xs (l4 + (1 : Int32)).toNatClampNeg)] [.int y63.1] cv_RL_153 (c_X12_tag (ad0 := ad1)  e_y64) rfl rfl rfl rfl rfl rfl rfl rfl rfl rfl rfl rfl rfl rfl rfl (Nat.le_of_ble_eq_true rfl) ⟨Nat.le_of_ble_eq_true rfl, Nat.le_of_ble_eq_true rfl⟩ dL_law_1145 (fun _ => ?_) hr0
  refine a_icmp_eq (pc := 1148) X 1427 dL_law_1148 rfl (fun c_1148 => ?_) (fun c_1148 => ?_)
  · have h := x_ifp c_1148 h
    refine y_wid ?_
    exact w_L_law_1427 X hB hA hl0 hNw hr0 hr1  hk23  h
  · have h := x_ifn c_1148 h
    refine a_iconst (pc := 1151) X dL_law_1151 q_ic_0 ?_
    exact absurd (Option.some.inj h) (by decide)
set_option maxRecDepth 100000 in
set_option maxHeartbeats 4000000 in
theorem w_L_law_1153 {p : Program} {l : Launch} {e : Env} {s : State} {m : MethodId} {below : List Frame} {meth : Method} {c : Code} {D : va_G} {tc : Nat → ClassId} {aK aV : Nat → Nat} {A : Nat → Prop} {b kc ks : Nat} {ad0 : Nat → Nat} {ad1 : Nat → Nat} {ad2 : Nat → Nat} {L : Nat} {xs : Nat → Int32} (X : Cx p s m #[Value.ref b] meth c code 7 ret RL D tc aK aV A [(shFoldRoads, ad0), (shModel, ad1), ((shLongs 1), ad2)]) (hB : va_X b L xs s s.heap ∧ b < s.heap.size ∧ ¬ A b) (hA : ∀ q, A q → s.heap.size ≤ q) (hl0 : l.stackTraces = false) (hNw : x_Nw s) (hr0 : kc ≤ room_1.cells ∧ ks ≤ room_1.slots) (hr1 : kc + 1 ≤ room_1.cells ∧ ks + 6 ≤ room_1.slots) {k23 : XM → XM → XM → Int32 → Option (Int32)} (hk23 : ∀ (w0 : XM) (w1 : XM) (w2 : XM) (l4 : Int32), k23 w0 w1 w2 l4 = some 1 → bW p l e room_1 s m #[Value.ref b] below meth c D tc A 7 [(shFoldRoads, ad0), (shModel, ad1), ((shLongs 1), ad2)] (kc + 1) (ks + 6) (lw_Z below #[Value.ref b] s) 23 [(0, .ref b), (1, .ref (ad0 0)), (2, .ref (ad1 0)), (3, .ref (ad2 0)), (4, .int l4)] [] [w0, w1, w2]) {w0 : XM} {w1 : XM} {w2 : XM} {l4 : Int32}  (h : f_L_law_1153 L xs k23 w0 w1 w2 l4 = some 1) : bW p l e room_1 s m #[Value.ref b] below meth c D tc A 7 [(shFoldRoads, ad0), (shModel, ad1), ((shLongs 1), ad2)] kc ks (lw_Z below #[Value.ref b] s) 1153 [(0, .ref b), (1, .ref (ad0 0)), (2, .ref (ad1 0)), (3, .ref (ad2 0)), (4, .int l4)] [] [w0, w1, w2] := by
  unfold f_L_law_1153 at h
  refine a_aload_n (pc := 1153) X 1 dL_law_1153 rfl rfl ?_
  refine a_aload_n (pc := 1154) X 0 dL_law_1154 rfl rfl ?_
  refine a_iload (pc := 1155) X 4 dL_law_1155 rfl ?_
  refine a_iconst (pc := 1157) X dL_law_1157 q_ic_1 ?_
  refine a_iadd (pc := 1158) X dL_law_1158 ?_
  obtain ⟨c_1159, h⟩ := x_ck_elim h
  refine y_sld (pc := 1159) X hB c_1159 dL_law_1159 ?_
  obtain ⟨y65, e_y65, h⟩ := x_lt_elim h
  refine a_callV (pc := 1160) (st2 := [.int y65]) (vs2 := [w0, w1, w2]) X [(0, 0, 318)] [none] 0 0 11 [.int (xs (l4 + (1 : Int32)).toNatClampNeg)] [] cv_RL_154 (c_X11_byteAt (ad0 := ad0)  e_y65) rfl rfl rfl rfl rfl rfl rfl rfl rfl rfl rfl rfl rfl rfl rfl (Nat.le_of_ble_eq_true rfl) ⟨Nat.le_of_ble_eq_true rfl, Nat.le_of_ble_eq_true rfl⟩ dL_law_1160 (fun _ => ?_) hr0
  refine a_aload_n (pc := 1163) X 2 dL_law_1163 rfl rfl ?_
  refine a_aload_n (pc := 1164) X 0 dL_law_1164 rfl rfl ?_
  refine a_iload (pc := 1165) X 4 dL_law_1165 rfl ?_
  refine a_iconst (pc := 1167) X dL_law_1167 q_ic_1 ?_
  refine a_iadd (pc := 1168) X dL_law_1168 ?_
  obtain ⟨c_1169, h⟩ := x_ck_elim h
  refine y_sld (pc := 1169) X hB c_1169 dL_law_1169 ?_
  obtain ⟨y66, e_y66, h⟩ := x_bo_elim h
  refine a_callV (pc := 1170) (st2 := [.int y66.1, .int y65]) (vs2 := [w0, y66.2, w2]) X [(1, 0, 20)] [some y66.2] 1 0 12 [.int (xs (l4 + (1 : Int32)).toNatClampNeg)] [.int y65] cv_RL_157 (c_X12_byteAt (ad0 := ad1)  e_y66) rfl rfl rfl rfl rfl rfl rfl rfl rfl rfl rfl rfl rfl rfl rfl (Nat.le_of_ble_eq_true rfl) ⟨Nat.le_of_ble_eq_true rfl, Nat.le_of_ble_eq_true rfl⟩ dL_law_1170 (fun _ => ?_) hr0
  refine a_icmp_eq (pc := 1173) X 1427 dL_law_1173 rfl (fun c_1173 => ?_) (fun c_1173 => ?_)
  · have h := x_ifp c_1173 h
    refine y_wid ?_
    exact w_L_law_1427 X hB hA hl0 hNw hr0 hr1  hk23  h
  · have h := x_ifn c_1173 h
    refine a_iconst (pc := 1176) X dL_law_1176 q_ic_0 ?_
    exact absurd (Option.some.inj h) (by decide)
set_option maxRecDepth 100000 in
set_option maxHeartbeats 4000000 in
theorem w_L_law_1178 {p : Program} {l : Launch} {e : Env} {s : State} {m : MethodId} {below : List Frame} {meth : Method} {c : Code} {D : va_G} {tc : Nat → ClassId} {aK aV : Nat → Nat} {A : Nat → Prop} {b kc ks : Nat} {ad0 : Nat → Nat} {ad1 : Nat → Nat} {ad2 : Nat → Nat} {L : Nat} {xs : Nat → Int32} (X : Cx p s m #[Value.ref b] meth c code 7 ret RL D tc aK aV A [(shFoldRoads, ad0), (shModel, ad1), ((shLongs 1), ad2)]) (hB : va_X b L xs s s.heap ∧ b < s.heap.size ∧ ¬ A b) (hA : ∀ q, A q → s.heap.size ≤ q) (hl0 : l.stackTraces = false) (hNw : x_Nw s) (hr0 : kc ≤ room_1.cells ∧ ks ≤ room_1.slots) (hr1 : kc + 1 ≤ room_1.cells ∧ ks + 6 ≤ room_1.slots) {k23 : XM → XM → XM → Int32 → Option (Int32)} (hk23 : ∀ (w0 : XM) (w1 : XM) (w2 : XM) (l4 : Int32), k23 w0 w1 w2 l4 = some 1 → bW p l e room_1 s m #[Value.ref b] below meth c D tc A 7 [(shFoldRoads, ad0), (shModel, ad1), ((shLongs 1), ad2)] (kc + 1) (ks + 6) (lw_Z below #[Value.ref b] s) 23 [(0, .ref b), (1, .ref (ad0 0)), (2, .ref (ad1 0)), (3, .ref (ad2 0)), (4, .int l4)] [] [w0, w1, w2]) {w0 : XM} {w1 : XM} {w2 : XM} {l4 : Int32}  (h : f_L_law_1178 L xs k23 w0 w1 w2 l4 = some 1) : bW p l e room_1 s m #[Value.ref b] below meth c D tc A 7 [(shFoldRoads, ad0), (shModel, ad1), ((shLongs 1), ad2)] kc ks (lw_Z below #[Value.ref b] s) 1178 [(0, .ref b), (1, .ref (ad0 0)), (2, .ref (ad1 0)), (3, .ref (ad2 0)), (4, .int l4)] [] [w0, w1, w2] := by
  unfold f_L_law_1178 at h
  refine a_aload_n (pc := 1178) X 1 dL_law_1178 rfl rfl ?_
  refine a_aload_n (pc := 1179) X 0 dL_law_1179 rfl rfl ?_
  refine a_iload (pc := 1180) X 4 dL_law_1180 rfl ?_
  refine a_iconst (pc := 1182) X dL_law_1182 q_ic_1 ?_
  refine a_iadd (pc := 1183) X dL_law_1183 ?_
  obtain ⟨c_1184, h⟩ := x_ck_elim h
  refine y_sld (pc := 1184) X hB c_1184 dL_law_1184 ?_
  refine a_aload_n (pc := 1185) X 0 dL_law_1185 rfl rfl ?_
  refine a_iload (pc := 1186) X 4 dL_law_1186 rfl ?_
  refine a_iconst (pc := 1188) X dL_law_1188 q_ic_2 ?_
  refine a_iadd (pc := 1189) X dL_law_1189 ?_
  obtain ⟨c_1190, h⟩ := x_ck_elim h
  refine y_sld (pc := 1190) X hB c_1190 dL_law_1190 ?_
  obtain ⟨y67, e_y67, h⟩ := x_bo_elim h
  refine a_callV (pc := 1191) (st2 := [.int y67.1]) (vs2 := [y67.2, w1, w2]) X [(0, 0, 318)] [some y67.2] 0 0 11 [.int (xs (l4 + (1 : Int32)).toNatClampNeg), .int (xs (l4 + (2 : Int32)).toNatClampNeg)] [] cv_RL_158 (c_X11_drawn (ad0 := ad0)  e_y67) rfl rfl rfl rfl rfl rfl rfl rfl rfl rfl rfl rfl rfl rfl rfl (Nat.le_of_ble_eq_true rfl) ⟨Nat.le_of_ble_eq_true rfl, Nat.le_of_ble_eq_true rfl⟩ dL_law_1191 (fun _ => ?_) hr0
  refine a_aload_n (pc := 1194) X 2 dL_law_1194 rfl rfl ?_
  refine a_aload_n (pc := 1195) X 0 dL_law_1195 rfl rfl ?_
  refine a_iload (pc := 1196) X 4 dL_law_1196 rfl ?_
  refine a_iconst (pc := 1198) X dL_law_1198 q_ic_1 ?_
  refine a_iadd (pc := 1199) X dL_law_1199 ?_
  obtain ⟨c_1200, h⟩ := x_ck_elim h
  refine y_sld (pc := 1200) X hB c_1200 dL_law_1200 ?_
  refine a_aload_n (pc := 1201) X 0 dL_law_1201 rfl rfl ?_
  refine a_iload (pc := 1202) X 4 dL_law_1202 rfl ?_
  refine a_iconst (pc := 1204) X dL_law_1204 q_ic_2 ?_
  refine a_iadd (pc := 1205) X dL_law_1205 ?_
  obtain ⟨c_1206, h⟩ := x_ck_elim h
  refine y_sld (pc := 1206) X hB c_1206 dL_law_1206 ?_
  obtain ⟨y68, e_y68, h⟩ := x_bo_elim h
  refine a_callV (pc := 1207) (st2 := [.int y68.1, .int y67.1]) (vs2 := [y67.2, y68.2, w2]) X [(1, 0, 20)] [some y68.2] 1 0 12 [.int (xs (l4 + (1 : Int32)).toNatClampNeg), .int (xs (l4 + (2 : Int32)).toNatClampNeg)] [.int y67.1] cv_RL_161 (c_X12_drawn (ad0 := ad1)  e_y68) rfl rfl rfl rfl rfl rfl rfl rfl rfl rfl rfl rfl rfl rfl rfl (Nat.le_of_ble_eq_true rfl) ⟨Nat.le_of_ble_eq_true rfl, Nat.le_of_ble_eq_true rfl⟩ dL_law_1207 (fun _ => ?_) hr0
  refine a_icmp_eq (pc := 1210) X 1427 dL_law_1210 rfl (fun c_1210 => ?_) (fun c_1210 => ?_)
  · have h := x_ifp c_1210 h
    refine y_wid ?_
    exact w_L_law_1427 X hB hA hl0 hNw hr0 hr1  hk23  h
  · have h := x_ifn c_1210 h
    refine a_iconst (pc := 1213) X dL_law_1213 q_ic_0 ?_
    exact absurd (Option.some.inj h) (by decide)
set_option maxRecDepth 100000 in
set_option maxHeartbeats 4000000 in
theorem w_L_law_1215 {p : Program} {l : Launch} {e : Env} {s : State} {m : MethodId} {below : List Frame} {meth : Method} {c : Code} {D : va_G} {tc : Nat → ClassId} {aK aV : Nat → Nat} {A : Nat → Prop} {b kc ks : Nat} {ad0 : Nat → Nat} {ad1 : Nat → Nat} {ad2 : Nat → Nat} {L : Nat} {xs : Nat → Int32} (X : Cx p s m #[Value.ref b] meth c code 7 ret RL D tc aK aV A [(shFoldRoads, ad0), (shModel, ad1), ((shLongs 1), ad2)]) (hB : va_X b L xs s s.heap ∧ b < s.heap.size ∧ ¬ A b) (hA : ∀ q, A q → s.heap.size ≤ q) (hl0 : l.stackTraces = false) (hNw : x_Nw s) (hr0 : kc ≤ room_1.cells ∧ ks ≤ room_1.slots) (hr1 : kc + 1 ≤ room_1.cells ∧ ks + 6 ≤ room_1.slots) {k23 : XM → XM → XM → Int32 → Option (Int32)} (hk23 : ∀ (w0 : XM) (w1 : XM) (w2 : XM) (l4 : Int32), k23 w0 w1 w2 l4 = some 1 → bW p l e room_1 s m #[Value.ref b] below meth c D tc A 7 [(shFoldRoads, ad0), (shModel, ad1), ((shLongs 1), ad2)] (kc + 1) (ks + 6) (lw_Z below #[Value.ref b] s) 23 [(0, .ref b), (1, .ref (ad0 0)), (2, .ref (ad1 0)), (3, .ref (ad2 0)), (4, .int l4)] [] [w0, w1, w2]) {w0 : XM} {w1 : XM} {w2 : XM} {l4 : Int32}  (h : f_L_law_1215 L xs k23 w0 w1 w2 l4 = some 1) : bW p l e room_1 s m #[Value.ref b] below meth c D tc A 7 [(shFoldRoads, ad0), (shModel, ad1), ((shLongs 1), ad2)] kc ks (lw_Z below #[Value.ref b] s) 1215 [(0, .ref b), (1, .ref (ad0 0)), (2, .ref (ad1 0)), (3, .ref (ad2 0)), (4, .int l4)] [] [w0, w1, w2] := by
  unfold f_L_law_1215 at h
  refine a_aload_n (pc := 1215) X 1 dL_law_1215 rfl rfl ?_
  refine a_aload_n (pc := 1216) X 0 dL_law_1216 rfl rfl ?_
  refine a_iload (pc := 1217) X 4 dL_law_1217 rfl ?_
  refine a_iconst (pc := 1219) X dL_law_1219 q_ic_1 ?_
  refine a_iadd (pc := 1220) X dL_law_1220 ?_
  obtain ⟨c_1221, h⟩ := x_ck_elim h
  refine y_sld (pc := 1221) X hB c_1221 dL_law_1221 ?_
  refine a_aload_n (pc := 1222) X 0 dL_law_1222 rfl rfl ?_
  refine a_iload (pc := 1223) X 4 dL_law_1223 rfl ?_
  refine a_iconst (pc := 1225) X dL_law_1225 q_ic_2 ?_
  refine a_iadd (pc := 1226) X dL_law_1226 ?_
  obtain ⟨c_1227, h⟩ := x_ck_elim h
  refine y_sld (pc := 1227) X hB c_1227 dL_law_1227 ?_
  refine a_aload_n (pc := 1228) X 0 dL_law_1228 rfl rfl ?_
  refine a_iload (pc := 1229) X 4 dL_law_1229 rfl ?_
  refine a_iconst (pc := 1231) X dL_law_1231 q_ic_3 ?_
  refine a_iadd (pc := 1232) X dL_law_1232 ?_
  obtain ⟨c_1233, h⟩ := x_ck_elim h
  refine y_sld (pc := 1233) X hB c_1233 dL_law_1233 ?_
  obtain ⟨y69, e_y69, h⟩ := x_bo_elim h
  refine a_callV (pc := 1234) (st2 := [.int y69.1]) (vs2 := [y69.2, w1, w2]) X [(0, 0, 318)] [some y69.2] 0 0 11 [.int (xs (l4 + (1 : Int32)).toNatClampNeg), .int (xs (l4 + (2 : Int32)).toNatClampNeg), .int (xs (l4 + (3 : Int32)).toNatClampNeg)] [] cv_RL_162 (c_X11_odds (ad0 := ad0)  e_y69) rfl rfl rfl rfl rfl rfl rfl rfl rfl rfl rfl rfl rfl rfl rfl (Nat.le_of_ble_eq_true rfl) ⟨Nat.le_of_ble_eq_true rfl, Nat.le_of_ble_eq_true rfl⟩ dL_law_1234 (fun _ => ?_) hr0
  refine a_aload_n (pc := 1237) X 2 dL_law_1237 rfl rfl ?_
  refine a_aload_n (pc := 1238) X 0 dL_law_1238 rfl rfl ?_
  refine a_iload (pc := 1239) X 4 dL_law_1239 rfl ?_
  refine a_iconst (pc := 1241) X dL_law_1241 q_ic_1 ?_
  refine a_iadd (pc := 1242) X dL_law_1242 ?_
  obtain ⟨c_1243, h⟩ := x_ck_elim h
  refine y_sld (pc := 1243) X hB c_1243 dL_law_1243 ?_
  refine a_aload_n (pc := 1244) X 0 dL_law_1244 rfl rfl ?_
  refine a_iload (pc := 1245) X 4 dL_law_1245 rfl ?_
  refine a_iconst (pc := 1247) X dL_law_1247 q_ic_2 ?_
  refine a_iadd (pc := 1248) X dL_law_1248 ?_
  obtain ⟨c_1249, h⟩ := x_ck_elim h
  refine y_sld (pc := 1249) X hB c_1249 dL_law_1249 ?_
  refine a_aload_n (pc := 1250) X 0 dL_law_1250 rfl rfl ?_
  refine a_iload (pc := 1251) X 4 dL_law_1251 rfl ?_
  refine a_iconst (pc := 1253) X dL_law_1253 q_ic_3 ?_
  refine a_iadd (pc := 1254) X dL_law_1254 ?_
  obtain ⟨c_1255, h⟩ := x_ck_elim h
  refine y_sld (pc := 1255) X hB c_1255 dL_law_1255 ?_
  obtain ⟨y70, e_y70, h⟩ := x_bo_elim h
  refine a_callV (pc := 1256) (st2 := [.int y70.1, .int y69.1]) (vs2 := [y69.2, y70.2, w2]) X [(1, 0, 20)] [some y70.2] 1 0 12 [.int (xs (l4 + (1 : Int32)).toNatClampNeg), .int (xs (l4 + (2 : Int32)).toNatClampNeg), .int (xs (l4 + (3 : Int32)).toNatClampNeg)] [.int y69.1] cv_RL_166 (c_X12_odds (ad0 := ad1)  e_y70) rfl rfl rfl rfl rfl rfl rfl rfl rfl rfl rfl rfl rfl rfl rfl (Nat.le_of_ble_eq_true rfl) ⟨Nat.le_of_ble_eq_true rfl, Nat.le_of_ble_eq_true rfl⟩ dL_law_1256 (fun _ => ?_) hr0
  refine a_icmp_eq (pc := 1259) X 1427 dL_law_1259 rfl (fun c_1259 => ?_) (fun c_1259 => ?_)
  · have h := x_ifp c_1259 h
    refine y_wid ?_
    exact w_L_law_1427 X hB hA hl0 hNw hr0 hr1  hk23  h
  · have h := x_ifn c_1259 h
    refine a_iconst (pc := 1262) X dL_law_1262 q_ic_0 ?_
    exact absurd (Option.some.inj h) (by decide)
set_option maxRecDepth 100000 in
set_option maxHeartbeats 4000000 in
theorem w_L_law_1264 {p : Program} {l : Launch} {e : Env} {s : State} {m : MethodId} {below : List Frame} {meth : Method} {c : Code} {D : va_G} {tc : Nat → ClassId} {aK aV : Nat → Nat} {A : Nat → Prop} {b kc ks : Nat} {ad0 : Nat → Nat} {ad1 : Nat → Nat} {ad2 : Nat → Nat} {L : Nat} {xs : Nat → Int32} (X : Cx p s m #[Value.ref b] meth c code 7 ret RL D tc aK aV A [(shFoldRoads, ad0), (shModel, ad1), ((shLongs 1), ad2)]) (hB : va_X b L xs s s.heap ∧ b < s.heap.size ∧ ¬ A b) (hA : ∀ q, A q → s.heap.size ≤ q) (hl0 : l.stackTraces = false) (hNw : x_Nw s) (hr0 : kc ≤ room_1.cells ∧ ks ≤ room_1.slots) (hr1 : kc + 1 ≤ room_1.cells ∧ ks + 6 ≤ room_1.slots) {k23 : XM → XM → XM → Int32 → Option (Int32)} (hk23 : ∀ (w0 : XM) (w1 : XM) (w2 : XM) (l4 : Int32), k23 w0 w1 w2 l4 = some 1 → bW p l e room_1 s m #[Value.ref b] below meth c D tc A 7 [(shFoldRoads, ad0), (shModel, ad1), ((shLongs 1), ad2)] (kc + 1) (ks + 6) (lw_Z below #[Value.ref b] s) 23 [(0, .ref b), (1, .ref (ad0 0)), (2, .ref (ad1 0)), (3, .ref (ad2 0)), (4, .int l4)] [] [w0, w1, w2]) {w0 : XM} {w1 : XM} {w2 : XM} {l4 : Int32}  (h : f_L_law_1264 L xs k23 w0 w1 w2 l4 = some 1) : bW p l e room_1 s m #[Value.ref b] below meth c D tc A 7 [(shFoldRoads, ad0), (shModel, ad1), ((shLongs 1), ad2)] kc ks (lw_Z below #[Value.ref b] s) 1264 [(0, .ref b), (1, .ref (ad0 0)), (2, .ref (ad1 0)), (3, .ref (ad2 0)), (4, .int l4)] [] [w0, w1, w2] := by
  unfold f_L_law_1264 at h
  refine a_aload_n (pc := 1264) X 1 dL_law_1264 rfl rfl ?_
  refine a_aload_n (pc := 1265) X 0 dL_law_1265 rfl rfl ?_
  refine a_iload (pc := 1266) X 4 dL_law_1266 rfl ?_
  refine a_iconst (pc := 1268) X dL_law_1268 q_ic_1 ?_
  refine a_iadd (pc := 1269) X dL_law_1269 ?_
  obtain ⟨c_1270, h⟩ := x_ck_elim h
  refine y_sld (pc := 1270) X hB c_1270 dL_law_1270 ?_
  obtain ⟨y71, e_y71, h⟩ := x_bo_elim h
  refine a_callV (pc := 1271) (st2 := [.int y71.1]) (vs2 := [y71.2, w1, w2]) X [(0, 0, 318)] [some y71.2] 0 0 11 [.int (xs (l4 + (1 : Int32)).toNatClampNeg)] [] cv_RL_167 (c_X11_book (ad0 := ad0)  e_y71) rfl rfl rfl rfl rfl rfl rfl rfl rfl rfl rfl rfl rfl rfl rfl (Nat.le_of_ble_eq_true rfl) ⟨Nat.le_of_ble_eq_true rfl, Nat.le_of_ble_eq_true rfl⟩ dL_law_1271 (fun _ => ?_) hr0
  refine a_aload_n (pc := 1274) X 2 dL_law_1274 rfl rfl ?_
  refine a_aload_n (pc := 1275) X 0 dL_law_1275 rfl rfl ?_
  refine a_iload (pc := 1276) X 4 dL_law_1276 rfl ?_
  refine a_iconst (pc := 1278) X dL_law_1278 q_ic_1 ?_
  refine a_iadd (pc := 1279) X dL_law_1279 ?_
  obtain ⟨c_1280, h⟩ := x_ck_elim h
  refine y_sld (pc := 1280) X hB c_1280 dL_law_1280 ?_
  obtain ⟨y72, e_y72, h⟩ := x_bo_elim h
  refine a_callV (pc := 1281) (st2 := [.int y72.1, .int y71.1]) (vs2 := [y71.2, y72.2, w2]) X [(1, 0, 20)] [some y72.2] 1 0 12 [.int (xs (l4 + (1 : Int32)).toNatClampNeg)] [.int y71.1] cv_RL_170 (c_X12_book (ad0 := ad1)  e_y72) rfl rfl rfl rfl rfl rfl rfl rfl rfl rfl rfl rfl rfl rfl rfl (Nat.le_of_ble_eq_true rfl) ⟨Nat.le_of_ble_eq_true rfl, Nat.le_of_ble_eq_true rfl⟩ dL_law_1281 (fun _ => ?_) hr0
  refine a_icmp_eq (pc := 1284) X 1427 dL_law_1284 rfl (fun c_1284 => ?_) (fun c_1284 => ?_)
  · have h := x_ifp c_1284 h
    refine y_wid ?_
    exact w_L_law_1427 X hB hA hl0 hNw hr0 hr1  hk23  h
  · have h := x_ifn c_1284 h
    refine a_iconst (pc := 1287) X dL_law_1287 q_ic_0 ?_
    exact absurd (Option.some.inj h) (by decide)
set_option maxRecDepth 100000 in
set_option maxHeartbeats 4000000 in
theorem w_L_law_1289 {p : Program} {l : Launch} {e : Env} {s : State} {m : MethodId} {below : List Frame} {meth : Method} {c : Code} {D : va_G} {tc : Nat → ClassId} {aK aV : Nat → Nat} {A : Nat → Prop} {b kc ks : Nat} {ad0 : Nat → Nat} {ad1 : Nat → Nat} {ad2 : Nat → Nat} {L : Nat} {xs : Nat → Int32} (X : Cx p s m #[Value.ref b] meth c code 7 ret RL D tc aK aV A [(shFoldRoads, ad0), (shModel, ad1), ((shLongs 1), ad2)]) (hB : va_X b L xs s s.heap ∧ b < s.heap.size ∧ ¬ A b) (hA : ∀ q, A q → s.heap.size ≤ q) (hl0 : l.stackTraces = false) (hNw : x_Nw s) (hr0 : kc ≤ room_1.cells ∧ ks ≤ room_1.slots) (hr1 : kc + 1 ≤ room_1.cells ∧ ks + 6 ≤ room_1.slots) {k23 : XM → XM → XM → Int32 → Option (Int32)} (hk23 : ∀ (w0 : XM) (w1 : XM) (w2 : XM) (l4 : Int32), k23 w0 w1 w2 l4 = some 1 → bW p l e room_1 s m #[Value.ref b] below meth c D tc A 7 [(shFoldRoads, ad0), (shModel, ad1), ((shLongs 1), ad2)] (kc + 1) (ks + 6) (lw_Z below #[Value.ref b] s) 23 [(0, .ref b), (1, .ref (ad0 0)), (2, .ref (ad1 0)), (3, .ref (ad2 0)), (4, .int l4)] [] [w0, w1, w2]) {w0 : XM} {w1 : XM} {w2 : XM} {l4 : Int32}  (h : f_L_law_1289 L xs k23 w0 w1 w2 l4 = some 1) : bW p l e room_1 s m #[Value.ref b] below meth c D tc A 7 [(shFoldRoads, ad0), (shModel, ad1), ((shLongs 1), ad2)] kc ks (lw_Z below #[Value.ref b] s) 1289 [(0, .ref b), (1, .ref (ad0 0)), (2, .ref (ad1 0)), (3, .ref (ad2 0)), (4, .int l4)] [] [w0, w1, w2] := by
  unfold f_L_law_1289 at h
  refine a_aload_n (pc := 1289) X 1 dL_law_1289 rfl rfl ?_
  refine a_aload_n (pc := 1290) X 0 dL_law_1290 rfl rfl ?_
  refine a_iload (pc := 1291) X 4 dL_law_1291 rfl ?_
  refine a_iconst (pc := 1293) X dL_law_1293 q_ic_1 ?_
  refine a_iadd (pc := 1294) X dL_law_1294 ?_
  obtain ⟨c_1295, h⟩ := x_ck_elim h
  refine y_sld (pc := 1295) X hB c_1295 dL_law_1295 ?_
  obtain ⟨y73, e_y73, h⟩ := x_lt_elim h
  refine a_callV (pc := 1296) (st2 := [.int y73]) (vs2 := [w0, w1, w2]) X [(0, 0, 318)] [none] 0 0 11 [.int (xs (l4 + (1 : Int32)).toNatClampNeg)] [] cv_RL_171 (c_X11_told (ad0 := ad0)  e_y73) rfl rfl rfl rfl rfl rfl rfl rfl rfl rfl rfl rfl rfl rfl rfl (Nat.le_of_ble_eq_true rfl) ⟨Nat.le_of_ble_eq_true rfl, Nat.le_of_ble_eq_true rfl⟩ dL_law_1296 (fun _ => ?_) hr0
  refine a_aload_n (pc := 1299) X 2 dL_law_1299 rfl rfl ?_
  refine a_aload_n (pc := 1300) X 0 dL_law_1300 rfl rfl ?_
  refine a_iload (pc := 1301) X 4 dL_law_1301 rfl ?_
  refine a_iconst (pc := 1303) X dL_law_1303 q_ic_1 ?_
  refine a_iadd (pc := 1304) X dL_law_1304 ?_
  obtain ⟨c_1305, h⟩ := x_ck_elim h
  refine y_sld (pc := 1305) X hB c_1305 dL_law_1305 ?_
  obtain ⟨y74, e_y74, h⟩ := x_bo_elim h
  refine a_callV (pc := 1306) (st2 := [.int y74.1, .int y73]) (vs2 := [w0, y74.2, w2]) X [(1, 0, 20)] [some y74.2] 1 0 12 [.int (xs (l4 + (1 : Int32)).toNatClampNeg)] [.int y73] cv_RL_174 (c_X12_told (ad0 := ad1)  e_y74) rfl rfl rfl rfl rfl rfl rfl rfl rfl rfl rfl rfl rfl rfl rfl (Nat.le_of_ble_eq_true rfl) ⟨Nat.le_of_ble_eq_true rfl, Nat.le_of_ble_eq_true rfl⟩ dL_law_1306 (fun _ => ?_) hr0
  refine a_icmp_eq (pc := 1309) X 1427 dL_law_1309 rfl (fun c_1309 => ?_) (fun c_1309 => ?_)
  · have h := x_ifp c_1309 h
    refine y_wid ?_
    exact w_L_law_1427 X hB hA hl0 hNw hr0 hr1  hk23  h
  · have h := x_ifn c_1309 h
    refine a_iconst (pc := 1312) X dL_law_1312 q_ic_0 ?_
    exact absurd (Option.some.inj h) (by decide)
set_option maxRecDepth 100000 in
set_option maxHeartbeats 4000000 in
theorem w_L_law_1314 {p : Program} {l : Launch} {e : Env} {s : State} {m : MethodId} {below : List Frame} {meth : Method} {c : Code} {D : va_G} {tc : Nat → ClassId} {aK aV : Nat → Nat} {A : Nat → Prop} {b kc ks : Nat} {ad0 : Nat → Nat} {ad1 : Nat → Nat} {ad2 : Nat → Nat} {L : Nat} {xs : Nat → Int32} (X : Cx p s m #[Value.ref b] meth c code 7 ret RL D tc aK aV A [(shFoldRoads, ad0), (shModel, ad1), ((shLongs 1), ad2)]) (hB : va_X b L xs s s.heap ∧ b < s.heap.size ∧ ¬ A b) (hA : ∀ q, A q → s.heap.size ≤ q) (hl0 : l.stackTraces = false) (hNw : x_Nw s) (hr0 : kc ≤ room_1.cells ∧ ks ≤ room_1.slots) (hr1 : kc + 1 ≤ room_1.cells ∧ ks + 6 ≤ room_1.slots) {k23 : XM → XM → XM → Int32 → Option (Int32)} (hk23 : ∀ (w0 : XM) (w1 : XM) (w2 : XM) (l4 : Int32), k23 w0 w1 w2 l4 = some 1 → bW p l e room_1 s m #[Value.ref b] below meth c D tc A 7 [(shFoldRoads, ad0), (shModel, ad1), ((shLongs 1), ad2)] (kc + 1) (ks + 6) (lw_Z below #[Value.ref b] s) 23 [(0, .ref b), (1, .ref (ad0 0)), (2, .ref (ad1 0)), (3, .ref (ad2 0)), (4, .int l4)] [] [w0, w1, w2]) {w0 : XM} {w1 : XM} {w2 : XM} {l4 : Int32}  (h : f_L_law_1314 L xs k23 w0 w1 w2 l4 = some 1) : bW p l e room_1 s m #[Value.ref b] below meth c D tc A 7 [(shFoldRoads, ad0), (shModel, ad1), ((shLongs 1), ad2)] kc ks (lw_Z below #[Value.ref b] s) 1314 [(0, .ref b), (1, .ref (ad0 0)), (2, .ref (ad1 0)), (3, .ref (ad2 0)), (4, .int l4)] [] [w0, w1, w2] := by
  unfold f_L_law_1314 at h
  refine a_aload_n (pc := 1314) X 1 dL_law_1314 rfl rfl ?_
  obtain ⟨y75, e_y75, h⟩ := x_bo_elim h
  refine a_callV (pc := 1315) (st2 := [.int y75.1]) (vs2 := [y75.2, w1, w2]) X [(0, 0, 318)] [some y75.2] 0 0 11 [] [] cv_RL_175 (c_X11_sentence (ad0 := ad0)  e_y75) rfl rfl rfl rfl rfl rfl rfl rfl rfl rfl rfl rfl rfl rfl rfl (Nat.le_of_ble_eq_true rfl) ⟨Nat.le_of_ble_eq_true rfl, Nat.le_of_ble_eq_true rfl⟩ dL_law_1315 (fun _ => ?_) hr0
  refine a_aload_n (pc := 1318) X 2 dL_law_1318 rfl rfl ?_
  obtain ⟨y76, e_y76, h⟩ := x_bo_elim h
  refine a_callV (pc := 1319) (st2 := [.int y76.1, .int y75.1]) (vs2 := [y75.2, y76.2, w2]) X [(1, 0, 20)] [some y76.2] 1 0 12 [] [.int y75.1] cv_RL_178 (c_X12_sentence (ad0 := ad1)  e_y76) rfl rfl rfl rfl rfl rfl rfl rfl rfl rfl rfl rfl rfl rfl rfl (Nat.le_of_ble_eq_true rfl) ⟨Nat.le_of_ble_eq_true rfl, Nat.le_of_ble_eq_true rfl⟩ dL_law_1319 (fun _ => ?_) hr0
  refine a_icmp_eq (pc := 1322) X 1427 dL_law_1322 rfl (fun c_1322 => ?_) (fun c_1322 => ?_)
  · have h := x_ifp c_1322 h
    refine y_wid ?_
    exact w_L_law_1427 X hB hA hl0 hNw hr0 hr1  hk23  h
  · have h := x_ifn c_1322 h
    refine a_iconst (pc := 1325) X dL_law_1325 q_ic_0 ?_
    exact absurd (Option.some.inj h) (by decide)
set_option maxRecDepth 100000 in
set_option maxHeartbeats 4000000 in
theorem w_L_law_1327 {p : Program} {l : Launch} {e : Env} {s : State} {m : MethodId} {below : List Frame} {meth : Method} {c : Code} {D : va_G} {tc : Nat → ClassId} {aK aV : Nat → Nat} {A : Nat → Prop} {b kc ks : Nat} {ad0 : Nat → Nat} {ad1 : Nat → Nat} {ad2 : Nat → Nat} {L : Nat} {xs : Nat → Int32} (X : Cx p s m #[Value.ref b] meth c code 7 ret RL D tc aK aV A [(shFoldRoads, ad0), (shModel, ad1), ((shLongs 1), ad2)]) (hB : va_X b L xs s s.heap ∧ b < s.heap.size ∧ ¬ A b) (hA : ∀ q, A q → s.heap.size ≤ q) (hl0 : l.stackTraces = false) (hNw : x_Nw s) (hr0 : kc ≤ room_1.cells ∧ ks ≤ room_1.slots) (hr1 : kc + 1 ≤ room_1.cells ∧ ks + 6 ≤ room_1.slots) {k23 : XM → XM → XM → Int32 → Option (Int32)} (hk23 : ∀ (w0 : XM) (w1 : XM) (w2 : XM) (l4 : Int32), k23 w0 w1 w2 l4 = some 1 → bW p l e room_1 s m #[Value.ref b] below meth c D tc A 7 [(shFoldRoads, ad0), (shModel, ad1), ((shLongs 1), ad2)] (kc + 1) (ks + 6) (lw_Z below #[Value.ref b] s) 23 [(0, .ref b), (1, .ref (ad0 0)), (2, .ref (ad1 0)), (3, .ref (ad2 0)), (4, .int l4)] [] [w0, w1, w2]) {w0 : XM} {w1 : XM} {w2 : XM} {l4 : Int32}  (h : f_L_law_1327 L xs k23 w0 w1 w2 l4 = some 1) : bW p l e room_1 s m #[Value.ref b] below meth c D tc A 7 [(shFoldRoads, ad0), (shModel, ad1), ((shLongs 1), ad2)] kc ks (lw_Z below #[Value.ref b] s) 1327 [(0, .ref b), (1, .ref (ad0 0)), (2, .ref (ad1 0)), (3, .ref (ad2 0)), (4, .int l4)] [] [w0, w1, w2] := by
  unfold f_L_law_1327 at h
  refine a_aload_n (pc := 1327) X 1 dL_law_1327 rfl rfl ?_
  refine a_aload_n (pc := 1328) X 0 dL_law_1328 rfl rfl ?_
  refine a_iload (pc := 1329) X 4 dL_law_1329 rfl ?_
  refine a_iconst (pc := 1331) X dL_law_1331 q_ic_1 ?_
  refine a_iadd (pc := 1332) X dL_law_1332 ?_
  obtain ⟨c_1333, h⟩ := x_ck_elim h
  refine y_sld (pc := 1333) X hB c_1333 dL_law_1333 ?_
  obtain ⟨y77, e_y77, h⟩ := x_bo_elim h
  refine a_callV (pc := 1334) (st2 := [.int y77.1]) (vs2 := [y77.2, w1, w2]) X [(0, 0, 318)] [some y77.2] 0 0 11 [.int (xs (l4 + (1 : Int32)).toNatClampNeg)] [] cv_RL_179 (c_X11_said (ad0 := ad0)  e_y77) rfl rfl rfl rfl rfl rfl rfl rfl rfl rfl rfl rfl rfl rfl rfl (Nat.le_of_ble_eq_true rfl) ⟨Nat.le_of_ble_eq_true rfl, Nat.le_of_ble_eq_true rfl⟩ dL_law_1334 (fun _ => ?_) hr0
  refine a_aload_n (pc := 1337) X 2 dL_law_1337 rfl rfl ?_
  refine a_aload_n (pc := 1338) X 0 dL_law_1338 rfl rfl ?_
  refine a_iload (pc := 1339) X 4 dL_law_1339 rfl ?_
  refine a_iconst (pc := 1341) X dL_law_1341 q_ic_1 ?_
  refine a_iadd (pc := 1342) X dL_law_1342 ?_
  obtain ⟨c_1343, h⟩ := x_ck_elim h
  refine y_sld (pc := 1343) X hB c_1343 dL_law_1343 ?_
  obtain ⟨y78, e_y78, h⟩ := x_bo_elim h
  refine a_callV (pc := 1344) (st2 := [.int y78.1, .int y77.1]) (vs2 := [y77.2, y78.2, w2]) X [(1, 0, 20)] [some y78.2] 1 0 12 [.int (xs (l4 + (1 : Int32)).toNatClampNeg)] [.int y77.1] cv_RL_182 (c_X12_said (ad0 := ad1)  e_y78) rfl rfl rfl rfl rfl rfl rfl rfl rfl rfl rfl rfl rfl rfl rfl (Nat.le_of_ble_eq_true rfl) ⟨Nat.le_of_ble_eq_true rfl, Nat.le_of_ble_eq_true rfl⟩ dL_law_1344 (fun _ => ?_) hr0
  refine a_icmp_eq (pc := 1347) X 1427 dL_law_1347 rfl (fun c_1347 => ?_) (fun c_1347 => ?_)
  · have h := x_ifp c_1347 h
    refine y_wid ?_
    exact w_L_law_1427 X hB hA hl0 hNw hr0 hr1  hk23  h
  · have h := x_ifn c_1347 h
    refine a_iconst (pc := 1350) X dL_law_1350 q_ic_0 ?_
    exact absurd (Option.some.inj h) (by decide)
set_option maxRecDepth 100000 in
set_option maxHeartbeats 4000000 in
theorem w_L_law_1352 {p : Program} {l : Launch} {e : Env} {s : State} {m : MethodId} {below : List Frame} {meth : Method} {c : Code} {D : va_G} {tc : Nat → ClassId} {aK aV : Nat → Nat} {A : Nat → Prop} {b kc ks : Nat} {ad0 : Nat → Nat} {ad1 : Nat → Nat} {ad2 : Nat → Nat} {L : Nat} {xs : Nat → Int32} (X : Cx p s m #[Value.ref b] meth c code 7 ret RL D tc aK aV A [(shFoldRoads, ad0), (shModel, ad1), ((shLongs 1), ad2)]) (hB : va_X b L xs s s.heap ∧ b < s.heap.size ∧ ¬ A b) (hA : ∀ q, A q → s.heap.size ≤ q) (hl0 : l.stackTraces = false) (hNw : x_Nw s) (hr0 : kc ≤ room_1.cells ∧ ks ≤ room_1.slots) (hr1 : kc + 1 ≤ room_1.cells ∧ ks + 6 ≤ room_1.slots) {k23 : XM → XM → XM → Int32 → Option (Int32)} (hk23 : ∀ (w0 : XM) (w1 : XM) (w2 : XM) (l4 : Int32), k23 w0 w1 w2 l4 = some 1 → bW p l e room_1 s m #[Value.ref b] below meth c D tc A 7 [(shFoldRoads, ad0), (shModel, ad1), ((shLongs 1), ad2)] (kc + 1) (ks + 6) (lw_Z below #[Value.ref b] s) 23 [(0, .ref b), (1, .ref (ad0 0)), (2, .ref (ad1 0)), (3, .ref (ad2 0)), (4, .int l4)] [] [w0, w1, w2]) {w0 : XM} {w1 : XM} {w2 : XM} {l4 : Int32}  (h : f_L_law_1352 L xs k23 w0 w1 w2 l4 = some 1) : bW p l e room_1 s m #[Value.ref b] below meth c D tc A 7 [(shFoldRoads, ad0), (shModel, ad1), ((shLongs 1), ad2)] kc ks (lw_Z below #[Value.ref b] s) 1352 [(0, .ref b), (1, .ref (ad0 0)), (2, .ref (ad1 0)), (3, .ref (ad2 0)), (4, .int l4)] [] [w0, w1, w2] := by
  unfold f_L_law_1352 at h
  refine a_aload_n (pc := 1352) X 1 dL_law_1352 rfl rfl ?_
  refine a_aload_n (pc := 1353) X 0 dL_law_1353 rfl rfl ?_
  refine a_iload (pc := 1354) X 4 dL_law_1354 rfl ?_
  refine a_iconst (pc := 1356) X dL_law_1356 q_ic_1 ?_
  refine a_iadd (pc := 1357) X dL_law_1357 ?_
  obtain ⟨c_1358, h⟩ := x_ck_elim h
  refine y_sld (pc := 1358) X hB c_1358 dL_law_1358 ?_
  obtain ⟨y79, e_y79, h⟩ := x_bo_elim h
  refine a_callV (pc := 1359) (st2 := [.int y79.1]) (vs2 := [y79.2, w1, w2]) X [(0, 0, 318)] [some y79.2] 0 0 11 [.int (xs (l4 + (1 : Int32)).toNatClampNeg)] [] cv_RL_183 (c_X11_image (ad0 := ad0)  e_y79) rfl rfl rfl rfl rfl rfl rfl rfl rfl rfl rfl rfl rfl rfl rfl (Nat.le_of_ble_eq_true rfl) ⟨Nat.le_of_ble_eq_true rfl, Nat.le_of_ble_eq_true rfl⟩ dL_law_1359 (fun z_1359 => ?_) hr0
  refine a_aload_n (pc := 1362) X 2 dL_law_1362 rfl rfl ?_
  refine a_aload_n (pc := 1363) X 0 dL_law_1363 rfl rfl ?_
  refine a_iload (pc := 1364) X 4 dL_law_1364 rfl ?_
  refine a_iconst (pc := 1366) X dL_law_1366 q_ic_1 ?_
  refine a_iadd (pc := 1367) X dL_law_1367 ?_
  obtain ⟨c_1368, h⟩ := x_ck_elim h
  refine y_sld (pc := 1368) X hB c_1368 dL_law_1368 ?_
  obtain ⟨y80, e_y80, h⟩ := x_bo_elim h
  refine a_callV (pc := 1369) (st2 := [.int y80.1, .int y79.1]) (vs2 := [y79.2, y80.2, w2]) X [(1, 0, 20)] [some y80.2] 1 0 12 [.int (xs (l4 + (1 : Int32)).toNatClampNeg)] [.int y79.1] cv_RL_186 (c_X12_image (ad0 := ad1)  e_y80) rfl rfl rfl rfl rfl rfl rfl rfl rfl rfl rfl rfl rfl rfl rfl (Nat.le_of_ble_eq_true rfl) ⟨Nat.le_of_ble_eq_true rfl, Nat.le_of_ble_eq_true rfl⟩ dL_law_1369 (fun z_1369 => ?_) hr0
  refine a_icmp_eq (pc := 1372) X 1427 dL_law_1372 rfl (fun c_1372 => ?_) (fun c_1372 => ?_)
  · have h := x_ifp c_1372 h
    refine y_wid ?_
    exact w_L_law_1427 X hB hA hl0 hNw hr0 hr1  hk23  h
  · have h := x_ifn c_1372 h
    refine a_iconst (pc := 1375) X dL_law_1375 q_ic_0 ?_
    exact absurd (Option.some.inj h) (by decide)
set_option maxRecDepth 100000 in
set_option maxHeartbeats 4000000 in
theorem w_L_law_1377 {p : Program} {l : Launch} {e : Env} {s : State} {m : MethodId} {below : List Frame} {meth : Method} {c : Code} {D : va_G} {tc : Nat → ClassId} {aK aV : Nat → Nat} {A : Nat → Prop} {b kc ks : Nat} {ad0 : Nat → Nat} {ad1 : Nat → Nat} {ad2 : Nat → Nat} {L : Nat} {xs : Nat → Int32} (X : Cx p s m #[Value.ref b] meth c code 7 ret RL D tc aK aV A [(shFoldRoads, ad0), (shModel, ad1), ((shLongs 1), ad2)]) (hB : va_X b L xs s s.heap ∧ b < s.heap.size ∧ ¬ A b) (hA : ∀ q, A q → s.heap.size ≤ q) (hl0 : l.stackTraces = false) (hNw : x_Nw s) (hr0 : kc ≤ room_1.cells ∧ ks ≤ room_1.slots) (hr1 : kc + 1 ≤ room_1.cells ∧ ks + 6 ≤ room_1.slots) {k23 : XM → XM → XM → Int32 → Option (Int32)} (hk23 : ∀ (w0 : XM) (w1 : XM) (w2 : XM) (l4 : Int32), k23 w0 w1 w2 l4 = some 1 → bW p l e room_1 s m #[Value.ref b] below meth c D tc A 7 [(shFoldRoads, ad0), (shModel, ad1), ((shLongs 1), ad2)] (kc + 1) (ks + 6) (lw_Z below #[Value.ref b] s) 23 [(0, .ref b), (1, .ref (ad0 0)), (2, .ref (ad1 0)), (3, .ref (ad2 0)), (4, .int l4)] [] [w0, w1, w2]) {w0 : XM} {w1 : XM} {w2 : XM} {l4 : Int32}  (h : f_L_law_1377 L xs k23 w0 w1 w2 l4 = some 1) : bW p l e room_1 s m #[Value.ref b] below meth c D tc A 7 [(shFoldRoads, ad0), (shModel, ad1), ((shLongs 1), ad2)] kc ks (lw_Z below #[Value.ref b] s) 1377 [(0, .ref b), (1, .ref (ad0 0)), (2, .ref (ad1 0)), (3, .ref (ad2 0)), (4, .int l4)] [] [w0, w1, w2] := by
  unfold f_L_law_1377 at h
  refine a_aload_n (pc := 1377) X 1 dL_law_1377 rfl rfl ?_
  refine a_aload_n (pc := 1378) X 0 dL_law_1378 rfl rfl ?_
  refine a_iload (pc := 1379) X 4 dL_law_1379 rfl ?_
  refine a_iconst (pc := 1381) X dL_law_1381 q_ic_1 ?_
  refine a_iadd (pc := 1382) X dL_law_1382 ?_
  obtain ⟨c_1383, h⟩ := x_ck_elim h
  refine y_sld (pc := 1383) X hB c_1383 dL_law_1383 ?_
  obtain ⟨y81, e_y81, h⟩ := x_bo_elim h
  refine a_callV (pc := 1384) (st2 := [.int y81.1]) (vs2 := [y81.2, w1, w2]) X [(0, 0, 318)] [some y81.2] 0 0 11 [.int (xs (l4 + (1 : Int32)).toNatClampNeg)] [] cv_RL_187 (c_X11_restore (ad0 := ad0)  e_y81) rfl rfl rfl rfl rfl rfl rfl rfl rfl rfl rfl rfl rfl rfl rfl (Nat.le_of_ble_eq_true rfl) ⟨Nat.le_of_ble_eq_true rfl, Nat.le_of_ble_eq_true rfl⟩ dL_law_1384 (fun z_1384 => ?_) hr0
  refine a_aload_n (pc := 1387) X 2 dL_law_1387 rfl rfl ?_
  refine a_aload_n (pc := 1388) X 0 dL_law_1388 rfl rfl ?_
  refine a_iload (pc := 1389) X 4 dL_law_1389 rfl ?_
  refine a_iconst (pc := 1391) X dL_law_1391 q_ic_1 ?_
  refine a_iadd (pc := 1392) X dL_law_1392 ?_
  obtain ⟨c_1393, h⟩ := x_ck_elim h
  refine y_sld (pc := 1393) X hB c_1393 dL_law_1393 ?_
  obtain ⟨y82, e_y82, h⟩ := x_bo_elim h
  refine a_callV (pc := 1394) (st2 := [.int y82.1, .int y81.1]) (vs2 := [y81.2, y82.2, w2]) X [(1, 0, 20)] [some y82.2] 1 0 12 [.int (xs (l4 + (1 : Int32)).toNatClampNeg)] [.int y81.1] cv_RL_190 (c_X12_restore (ad0 := ad1)  e_y82) rfl rfl rfl rfl rfl rfl rfl rfl rfl rfl rfl rfl rfl rfl rfl (Nat.le_of_ble_eq_true rfl) ⟨Nat.le_of_ble_eq_true rfl, Nat.le_of_ble_eq_true rfl⟩ dL_law_1394 (fun z_1394 => ?_) hr0
  refine a_icmp_eq (pc := 1397) X 1427 dL_law_1397 rfl (fun c_1397 => ?_) (fun c_1397 => ?_)
  · have h := x_ifp c_1397 h
    refine y_wid ?_
    exact w_L_law_1427 X hB hA hl0 hNw hr0 hr1  hk23  h
  · have h := x_ifn c_1397 h
    refine a_iconst (pc := 1400) X dL_law_1400 q_ic_0 ?_
    exact absurd (Option.some.inj h) (by decide)
set_option maxRecDepth 100000 in
set_option maxHeartbeats 4000000 in
theorem w_L_law_1402 {p : Program} {l : Launch} {e : Env} {s : State} {m : MethodId} {below : List Frame} {meth : Method} {c : Code} {D : va_G} {tc : Nat → ClassId} {aK aV : Nat → Nat} {A : Nat → Prop} {b kc ks : Nat} {ad0 : Nat → Nat} {ad1 : Nat → Nat} {ad2 : Nat → Nat} {L : Nat} {xs : Nat → Int32} (X : Cx p s m #[Value.ref b] meth c code 7 ret RL D tc aK aV A [(shFoldRoads, ad0), (shModel, ad1), ((shLongs 1), ad2)]) (hB : va_X b L xs s s.heap ∧ b < s.heap.size ∧ ¬ A b) (hA : ∀ q, A q → s.heap.size ≤ q) (hl0 : l.stackTraces = false) (hNw : x_Nw s) (hr0 : kc ≤ room_1.cells ∧ ks ≤ room_1.slots) (hr1 : kc + 1 ≤ room_1.cells ∧ ks + 6 ≤ room_1.slots) {k23 : XM → XM → XM → Int32 → Option (Int32)} (hk23 : ∀ (w0 : XM) (w1 : XM) (w2 : XM) (l4 : Int32), k23 w0 w1 w2 l4 = some 1 → bW p l e room_1 s m #[Value.ref b] below meth c D tc A 7 [(shFoldRoads, ad0), (shModel, ad1), ((shLongs 1), ad2)] (kc + 1) (ks + 6) (lw_Z below #[Value.ref b] s) 23 [(0, .ref b), (1, .ref (ad0 0)), (2, .ref (ad1 0)), (3, .ref (ad2 0)), (4, .int l4)] [] [w0, w1, w2]) {w0 : XM} {w1 : XM} {w2 : XM} {l4 : Int32}  (h : f_L_law_1402 L xs k23 w0 w1 w2 l4 = some 1) : bW p l e room_1 s m #[Value.ref b] below meth c D tc A 7 [(shFoldRoads, ad0), (shModel, ad1), ((shLongs 1), ad2)] kc ks (lw_Z below #[Value.ref b] s) 1402 [(0, .ref b), (1, .ref (ad0 0)), (2, .ref (ad1 0)), (3, .ref (ad2 0)), (4, .int l4)] [] [w0, w1, w2] := by
  unfold f_L_law_1402 at h
  refine a_aload_n (pc := 1402) X 1 dL_law_1402 rfl rfl ?_
  refine a_aload_n (pc := 1403) X 0 dL_law_1403 rfl rfl ?_
  refine a_iload (pc := 1404) X 4 dL_law_1404 rfl ?_
  refine a_iconst (pc := 1406) X dL_law_1406 q_ic_1 ?_
  refine a_iadd (pc := 1407) X dL_law_1407 ?_
  obtain ⟨c_1408, h⟩ := x_ck_elim h
  refine y_sld (pc := 1408) X hB c_1408 dL_law_1408 ?_
  obtain ⟨y83, e_y83, h⟩ := x_lt_elim h
  refine a_callV (pc := 1409) (st2 := [.int y83]) (vs2 := [w0, w1, w2]) X [(0, 0, 318)] [none] 0 0 11 [.int (xs (l4 + (1 : Int32)).toNatClampNeg)] [] cv_RL_191 (c_X11_count (ad0 := ad0)  e_y83) rfl rfl rfl rfl rfl rfl rfl rfl rfl rfl rfl rfl rfl rfl rfl (Nat.le_of_ble_eq_true rfl) ⟨Nat.le_of_ble_eq_true rfl, Nat.le_of_ble_eq_true rfl⟩ dL_law_1409 (fun _ => ?_) hr0
  refine a_aload_n (pc := 1412) X 2 dL_law_1412 rfl rfl ?_
  refine a_aload_n (pc := 1413) X 0 dL_law_1413 rfl rfl ?_
  refine a_iload (pc := 1414) X 4 dL_law_1414 rfl ?_
  refine a_iconst (pc := 1416) X dL_law_1416 q_ic_1 ?_
  refine a_iadd (pc := 1417) X dL_law_1417 ?_
  obtain ⟨c_1418, h⟩ := x_ck_elim h
  refine y_sld (pc := 1418) X hB c_1418 dL_law_1418 ?_
  obtain ⟨y84, e_y84, h⟩ := x_lt_elim h
  refine a_callV (pc := 1419) (st2 := [.int y84.1, .int y83]) (vs2 := [w0, y84.2, w2]) X [(1, 0, 20)] [some y84.2] 1 0 12 [.int (xs (l4 + (1 : Int32)).toNatClampNeg)] [.int y83] cv_RL_194 (c_X12_count (ad0 := ad1)  e_y84) rfl rfl rfl rfl rfl rfl rfl rfl rfl rfl rfl rfl rfl rfl rfl (Nat.le_of_ble_eq_true rfl) ⟨Nat.le_of_ble_eq_true rfl, Nat.le_of_ble_eq_true rfl⟩ dL_law_1419 (fun _ => ?_) hr0
  refine a_icmp_eq (pc := 1422) X 1427 dL_law_1422 rfl (fun c_1422 => ?_) (fun c_1422 => ?_)
  · have h := x_ifp c_1422 h
    refine y_wid ?_
    exact w_L_law_1427 X hB hA hl0 hNw hr0 hr1  hk23  h
  · have h := x_ifn c_1422 h
    refine a_iconst (pc := 1425) X dL_law_1425 q_ic_0 ?_
    exact absurd (Option.some.inj h) (by decide)
set_option maxRecDepth 100000 in
set_option maxHeartbeats 4000000 in
theorem w_L_law_23 {p : Program} {l : Launch} {e : Env} {s : State} {m : MethodId} {below : List Frame} {meth : Method} {c : Code} {D : va_G} {tc : Nat → ClassId} {aK aV : Nat → Nat} {A : Nat → Prop} {b kc ks : Nat} {k23 : XM → XM → XM → Int32 → Option (Int32)} {ad0 : Nat → Nat} {ad1 : Nat → Nat} {ad2 : Nat → Nat} {L : Nat} {xs : Nat → Int32} (X : Cx p s m #[Value.ref b] meth c code 7 ret RL D tc aK aV A [(shFoldRoads, ad0), (shModel, ad1), ((shLongs 1), ad2)]) (hB : va_X b L xs s s.heap ∧ b < s.heap.size ∧ ¬ A b) (hA : ∀ q, A q → s.heap.size ≤ q) (hl0 : l.stackTraces = false) (hNw : x_Nw s) (hr0 : kc ≤ room_1.cells ∧ ks ≤ room_1.slots) (hr1 : kc + 1 ≤ room_1.cells ∧ ks + 6 ≤ room_1.slots) (hk23 : ∀ (w0 : XM) (w1 : XM) (w2 : XM) (l4 : Int32), k23 w0 w1 w2 l4 = some 1 → bW p l e room_1 s m #[Value.ref b] below meth c D tc A 7 [(shFoldRoads, ad0), (shModel, ad1), ((shLongs 1), ad2)] (kc + 1) (ks + 6) (lw_Z below #[Value.ref b] s) 23 [(0, .ref b), (1, .ref (ad0 0)), (2, .ref (ad1 0)), (3, .ref (ad2 0)), (4, .int l4)] [] [w0, w1, w2]) {w0 : XM} {w1 : XM} {w2 : XM} {l4 : Int32}  (h : f_L_law_23 L xs  k23 w0 w1 w2 l4 = some 1) : bW p l e room_1 s m #[Value.ref b] below meth c D tc A 7 [(shFoldRoads, ad0), (shModel, ad1), ((shLongs 1), ad2)] kc ks (lw_Z below #[Value.ref b] s) 23 [(0, .ref b), (1, .ref (ad0 0)), (2, .ref (ad1 0)), (3, .ref (ad2 0)), (4, .int l4)] [] [w0, w1, w2] := by
  unfold f_L_law_23 at h
  refine a_iload (pc := 23) X 4 dL_law_23 rfl ?_
  refine a_aload_n (pc := 25) X 0 dL_law_25 rfl rfl ?_
  refine y_slen (pc := 26) X hB dL_law_26 ?_
  refine a_bipush (pc := 27) X dL_law_27 q_bp_6 ?_
  refine a_isub (pc := 29) X dL_law_29 ?_
  refine a_icmp_gt (pc := 30) X 1433 dL_law_30 rfl (fun c_30 => ?_) (fun c_30 => ?_)
  · have h := x_ifp c_30 h
    refine a_iconst (pc := 1433) X dL_law_1433 q_ic_1 ?_
    exact y_end (pc := 1434) X hA hr0.1 hr0.2 dL_law_1434
  · have h := x_ifn c_30 h
    refine a_aload_n (pc := 33) X 0 dL_law_33 rfl rfl ?_
    refine a_iload (pc := 34) X 4 dL_law_34 rfl ?_
    obtain ⟨c_36, h⟩ := x_ck_elim h
    refine y_sld (pc := 36) X hB c_36 dL_law_36 ?_
    refine a_bipush (pc := 37) X dL_law_37 q_bp_63 ?_
    refine a_iand (pc := 39) X dL_law_39 ?_
    by_cases c_40_0 : ((xs l4.toNatClampNeg) &&& (63 : Int32)) = (0 : Int32)
    · have h := x_ifp c_40_0 h
      refine a_tin (pc := 40) X 220 dL_law_40 c_40_0 (by decide) (by decide) rfl rfl ?_
      exact w_L_law_220 X hB hA hl0 hNw hr0 hr1  hk23  h
    · have h := x_ifn c_40_0 h
      by_cases c_40_1 : ((xs l4.toNatClampNeg) &&& (63 : Int32)) = (1 : Int32)
      · have h := x_ifp c_40_1 h
        refine a_tin (pc := 40) X 293 dL_law_40 c_40_1 (by decide) (by decide) rfl rfl ?_
        exact w_L_law_293 X hB hA hl0 hNw hr0 hr1  hk23  h
      · have h := x_ifn c_40_1 h
        by_cases c_40_2 : ((xs l4.toNatClampNeg) &&& (63 : Int32)) = (2 : Int32)
        · have h := x_ifp c_40_2 h
          refine a_tin (pc := 40) X 318 dL_law_40 c_40_2 (by decide) (by decide) rfl rfl ?_
          exact w_L_law_318 X hB hA hl0 hNw hr0 hr1  hk23  h
        · have h := x_ifn c_40_2 h
          by_cases c_40_3 : ((xs l4.toNatClampNeg) &&& (63 : Int32)) = (3 : Int32)
          · have h := x_ifp c_40_3 h
            refine a_tin (pc := 40) X 331 dL_law_40 c_40_3 (by decide) (by decide) rfl rfl ?_
            exact w_L_law_331 X hB hA hl0 hNw hr0 hr1  hk23  h
          · have h := x_ifn c_40_3 h
            by_cases c_40_4 : ((xs l4.toNatClampNeg) &&& (63 : Int32)) = (4 : Int32)
            · have h := x_ifp c_40_4 h
              refine a_tin (pc := 40) X 344 dL_law_40 c_40_4 (by decide) (by decide) rfl rfl ?_
              exact w_L_law_344 X hB hA hl0 hNw hr0 hr1  hk23  h
            · have h := x_ifn c_40_4 h
              by_cases c_40_5 : ((xs l4.toNatClampNeg) &&& (63 : Int32)) = (5 : Int32)
              · have h := x_ifp c_40_5 h
                refine a_tin (pc := 40) X 412 dL_law_40 c_40_5 (by decide) (by decide) rfl rfl ?_
                exact w_L_law_412 X hB hA hl0 hNw hr0 hr1  hk23  h
              · have h := x_ifn c_40_5 h
                by_cases c_40_6 : ((xs l4.toNatClampNeg) &&& (63 : Int32)) = (6 : Int32)
                · have h := x_ifp c_40_6 h
                  refine a_tin (pc := 40) X 449 dL_law_40 c_40_6 (by decide) (by decide) rfl rfl ?_
                  exact w_L_law_449 X hB hA hl0 hNw hr0 hr1  hk23  h
                · have h := x_ifn c_40_6 h
                  by_cases c_40_7 : ((xs l4.toNatClampNeg) &&& (63 : Int32)) = (7 : Int32)
                  · have h := x_ifp c_40_7 h
                    refine a_tin (pc := 40) X 486 dL_law_40 c_40_7 (by decide) (by decide) rfl rfl ?_
                    exact w_L_law_486 X hB hA hl0 hNw hr0 hr1  hk23  h
                  · have h := x_ifn c_40_7 h
                    by_cases c_40_8 : ((xs l4.toNatClampNeg) &&& (63 : Int32)) = (8 : Int32)
                    · have h := x_ifp c_40_8 h
                      refine a_tin (pc := 40) X 511 dL_law_40 c_40_8 (by decide) (by decide) rfl rfl ?_
                      exact w_L_law_511 X hB hA hl0 hNw hr0 hr1  hk23  h
                    · have h := x_ifn c_40_8 h
                      by_cases c_40_9 : ((xs l4.toNatClampNeg) &&& (63 : Int32)) = (9 : Int32)
                      · have h := x_ifp c_40_9 h
                        refine a_tin (pc := 40) X 548 dL_law_40 c_40_9 (by decide) (by decide) rfl rfl ?_
                        exact w_L_law_548 X hB hA hl0 hNw hr0 hr1  hk23  h
                      · have h := x_ifn c_40_9 h
                        by_cases c_40_10 : ((xs l4.toNatClampNeg) &&& (63 : Int32)) = (10 : Int32)
                        · have h := x_ifp c_40_10 h
                          refine a_tin (pc := 40) X 585 dL_law_40 c_40_10 (by decide) (by decide) rfl rfl ?_
                          exact w_L_law_585 X hB hA hl0 hNw hr0 hr1  hk23  h
                        · have h := x_ifn c_40_10 h
                          by_cases c_40_11 : ((xs l4.toNatClampNeg) &&& (63 : Int32)) = (11 : Int32)
                          · have h := x_ifp c_40_11 h
                            refine a_tin (pc := 40) X 622 dL_law_40 c_40_11 (by decide) (by decide) rfl rfl ?_
                            exact w_L_law_622 X hB hA hl0 hNw hr0 hr1  hk23  h
                          · have h := x_ifn c_40_11 h
                            by_cases c_40_12 : ((xs l4.toNatClampNeg) &&& (63 : Int32)) = (12 : Int32)
                            · have h := x_ifp c_40_12 h
                              refine a_tin (pc := 40) X 647 dL_law_40 c_40_12 (by decide) (by decide) rfl rfl ?_
                              exact w_L_law_647 X hB hA hl0 hNw hr0 hr1  hk23  h
                            · have h := x_ifn c_40_12 h
                              by_cases c_40_13 : ((xs l4.toNatClampNeg) &&& (63 : Int32)) = (13 : Int32)
                              · have h := x_ifp c_40_13 h
                                refine a_tin (pc := 40) X 672 dL_law_40 c_40_13 (by decide) (by decide) rfl rfl ?_
                                exact w_L_law_672 X hB hA hl0 hNw hr0 hr1  hk23  h
                              · have h := x_ifn c_40_13 h
                                by_cases c_40_14 : ((xs l4.toNatClampNeg) &&& (63 : Int32)) = (14 : Int32)
                                · have h := x_ifp c_40_14 h
                                  refine a_tin (pc := 40) X 709 dL_law_40 c_40_14 (by decide) (by decide) rfl rfl ?_
                                  exact w_L_law_709 X hB hA hl0 hNw hr0 hr1  hk23  h
                                · have h := x_ifn c_40_14 h
                                  by_cases c_40_15 : ((xs l4.toNatClampNeg) &&& (63 : Int32)) = (15 : Int32)
                                  · have h := x_ifp c_40_15 h
                                    refine a_tin (pc := 40) X 734 dL_law_40 c_40_15 (by decide) (by decide) rfl rfl ?_
                                    exact w_L_law_734 X hB hA hl0 hNw hr0 hr1  hk23  h
                                  · have h := x_ifn c_40_15 h
                                    by_cases c_40_16 : ((xs l4.toNatClampNeg) &&& (63 : Int32)) = (16 : Int32)
                                    · have h := x_ifp c_40_16 h
                                      refine a_tin (pc := 40) X 759 dL_law_40 c_40_16 (by decide) (by decide) rfl rfl ?_
                                      exact w_L_law_759 X hB hA hl0 hNw hr0 hr1  hk23  h
                                    · have h := x_ifn c_40_16 h
                                      by_cases c_40_17 : ((xs l4.toNatClampNeg) &&& (63 : Int32)) = (17 : Int32)
                                      · have h := x_ifp c_40_17 h
                                        refine a_tin (pc := 40) X 772 dL_law_40 c_40_17 (by decide) (by decide) rfl rfl ?_
                                        exact w_L_law_772 X hB hA hl0 hNw hr0 hr1  hk23  h
                                      · have h := x_ifn c_40_17 h
                                        by_cases c_40_18 : ((xs l4.toNatClampNeg) &&& (63 : Int32)) = (18 : Int32)
                                        · have h := x_ifp c_40_18 h
                                          refine a_tin (pc := 40) X 809 dL_law_40 c_40_18 (by decide) (by decide) rfl rfl ?_
                                          exact w_L_law_809 X hB hA hl0 hNw hr0 hr1  hk23  h
                                        · have h := x_ifn c_40_18 h
                                          by_cases c_40_19 : ((xs l4.toNatClampNeg) &&& (63 : Int32)) = (19 : Int32)
                                          · have h := x_ifp c_40_19 h
                                            refine a_tin (pc := 40) X 846 dL_law_40 c_40_19 (by decide) (by decide) rfl rfl ?_
                                            exact w_L_law_846 X hB hA hl0 hNw hr0 hr1  hk23  h
                                          · have h := x_ifn c_40_19 h
                                            by_cases c_40_20 : ((xs l4.toNatClampNeg) &&& (63 : Int32)) = (20 : Int32)
                                            · have h := x_ifp c_40_20 h
                                              refine a_tin (pc := 40) X 871 dL_law_40 c_40_20 (by decide) (by decide) rfl rfl ?_
                                              exact w_L_law_871 X hB hA hl0 hNw hr0 hr1  hk23  h
                                            · have h := x_ifn c_40_20 h
                                              by_cases c_40_21 : ((xs l4.toNatClampNeg) &&& (63 : Int32)) = (21 : Int32)
                                              · have h := x_ifp c_40_21 h
                                                refine a_tin (pc := 40) X 896 dL_law_40 c_40_21 (by decide) (by decide) rfl rfl ?_
                                                exact w_L_law_896 X hB hA hl0 hNw hr0 hr1  hk23  h
                                              · have h := x_ifn c_40_21 h
                                                by_cases c_40_22 : ((xs l4.toNatClampNeg) &&& (63 : Int32)) = (22 : Int32)
                                                · have h := x_ifp c_40_22 h
                                                  refine a_tin (pc := 40) X 921 dL_law_40 c_40_22 (by decide) (by decide) rfl rfl ?_
                                                  exact w_L_law_921 X hB hA hl0 hNw hr0 hr1  hk23  h
                                                · have h := x_ifn c_40_22 h
                                                  by_cases c_40_23 : ((xs l4.toNatClampNeg) &&& (63 : Int32)) = (23 : Int32)
                                                  · have h := x_ifp c_40_23 h
                                                    refine a_tin (pc := 40) X 946 dL_law_40 c_40_23 (by decide) (by decide) rfl rfl ?_
                                                    exact w_L_law_946 X hB hA hl0 hNw hr0 hr1  hk23  h
                                                  · have h := x_ifn c_40_23 h
                                                    by_cases c_40_24 : ((xs l4.toNatClampNeg) &&& (63 : Int32)) = (24 : Int32)
                                                    · have h := x_ifp c_40_24 h
                                                      refine a_tin (pc := 40) X 983 dL_law_40 c_40_24 (by decide) (by decide) rfl rfl ?_
                                                      exact w_L_law_983 X hB hA hl0 hNw hr0 hr1  hk23  h
                                                    · have h := x_ifn c_40_24 h
                                                      by_cases c_40_25 : ((xs l4.toNatClampNeg) &&& (63 : Int32)) = (25 : Int32)
                                                      · have h := x_ifp c_40_25 h
                                                        refine a_tin (pc := 40) X 996 dL_law_40 c_40_25 (by decide) (by decide) rfl rfl ?_
                                                        exact w_L_law_996 X hB hA hl0 hNw hr0 hr1  hk23  h
                                                      · have h := x_ifn c_40_25 h
                                                        by_cases c_40_26 : ((xs l4.toNatClampNeg) &&& (63 : Int32)) = (26 : Int32)
                                                        · have h := x_ifp c_40_26 h
                                                          refine a_tin (pc := 40) X 1021 dL_law_40 c_40_26 (by decide) (by decide) rfl rfl ?_
                                                          exact w_L_law_1021 X hB hA hl0 hNw hr0 hr1  hk23  h
                                                        · have h := x_ifn c_40_26 h
                                                          by_cases c_40_27 : ((xs l4.toNatClampNeg) &&& (63 : Int32)) = (27 : Int32)
                                                          · have h := x_ifp c_40_27 h
                                                            refine a_tin (pc := 40) X 1034 dL_law_40 c_40_27 (by decide) (by decide) rfl rfl ?_
                                                            exact w_L_law_1034 X hB hA hl0 hNw hr0 hr1  hk23  h
                                                          · have h := x_ifn c_40_27 h
                                                            by_cases c_40_28 : ((xs l4.toNatClampNeg) &&& (63 : Int32)) = (28 : Int32)
                                                            · have h := x_ifp c_40_28 h
                                                              refine a_tin (pc := 40) X 1047 dL_law_40 c_40_28 (by decide) (by decide) rfl rfl ?_
                                                              exact w_L_law_1047 X hB hA hl0 hNw hr0 hr1  hk23  h
                                                            · have h := x_ifn c_40_28 h
                                                              by_cases c_40_29 : ((xs l4.toNatClampNeg) &&& (63 : Int32)) = (29 : Int32)
                                                              · have h := x_ifp c_40_29 h
                                                                refine a_tin (pc := 40) X 1060 dL_law_40 c_40_29 (by decide) (by decide) rfl rfl ?_
                                                                exact w_L_law_1060 X hB hA hl0 hNw hr0 hr1  hk23  h
                                                              · have h := x_ifn c_40_29 h
                                                                by_cases c_40_30 : ((xs l4.toNatClampNeg) &&& (63 : Int32)) = (30 : Int32)
                                                                · have h := x_ifp c_40_30 h
                                                                  refine a_tin (pc := 40) X 1128 dL_law_40 c_40_30 (by decide) (by decide) rfl rfl ?_
                                                                  exact w_L_law_1128 X hB hA hl0 hNw hr0 hr1  hk23  h
                                                                · have h := x_ifn c_40_30 h
                                                                  by_cases c_40_31 : ((xs l4.toNatClampNeg) &&& (63 : Int32)) = (31 : Int32)
                                                                  · have h := x_ifp c_40_31 h
                                                                    refine a_tin (pc := 40) X 1153 dL_law_40 c_40_31 (by decide) (by decide) rfl rfl ?_
                                                                    exact w_L_law_1153 X hB hA hl0 hNw hr0 hr1  hk23  h
                                                                  · have h := x_ifn c_40_31 h
                                                                    by_cases c_40_32 : ((xs l4.toNatClampNeg) &&& (63 : Int32)) = (32 : Int32)
                                                                    · have h := x_ifp c_40_32 h
                                                                      refine a_tin (pc := 40) X 1178 dL_law_40 c_40_32 (by decide) (by decide) rfl rfl ?_
                                                                      exact w_L_law_1178 X hB hA hl0 hNw hr0 hr1  hk23  h
                                                                    · have h := x_ifn c_40_32 h
                                                                      by_cases c_40_33 : ((xs l4.toNatClampNeg) &&& (63 : Int32)) = (33 : Int32)
                                                                      · have h := x_ifp c_40_33 h
                                                                        refine a_tin (pc := 40) X 1215 dL_law_40 c_40_33 (by decide) (by decide) rfl rfl ?_
                                                                        exact w_L_law_1215 X hB hA hl0 hNw hr0 hr1  hk23  h
                                                                      · have h := x_ifn c_40_33 h
                                                                        by_cases c_40_34 : ((xs l4.toNatClampNeg) &&& (63 : Int32)) = (34 : Int32)
                                                                        · have h := x_ifp c_40_34 h
                                                                          refine a_tin (pc := 40) X 1264 dL_law_40 c_40_34 (by decide) (by decide) rfl rfl ?_
                                                                          exact w_L_law_1264 X hB hA hl0 hNw hr0 hr1  hk23  h
                                                                        · have h := x_ifn c_40_34 h
                                                                          by_cases c_40_35 : ((xs l4.toNatClampNeg) &&& (63 : Int32)) = (35 : Int32)
                                                                          · have h := x_ifp c_40_35 h
                                                                            refine a_tin (pc := 40) X 1289 dL_law_40 c_40_35 (by decide) (by decide) rfl rfl ?_
                                                                            exact w_L_law_1289 X hB hA hl0 hNw hr0 hr1  hk23  h
                                                                          · have h := x_ifn c_40_35 h
                                                                            by_cases c_40_36 : ((xs l4.toNatClampNeg) &&& (63 : Int32)) = (36 : Int32)
                                                                            · have h := x_ifp c_40_36 h
                                                                              refine a_tin (pc := 40) X 1314 dL_law_40 c_40_36 (by decide) (by decide) rfl rfl ?_
                                                                              exact w_L_law_1314 X hB hA hl0 hNw hr0 hr1  hk23  h
                                                                            · have h := x_ifn c_40_36 h
                                                                              by_cases c_40_37 : ((xs l4.toNatClampNeg) &&& (63 : Int32)) = (37 : Int32)
                                                                              · have h := x_ifp c_40_37 h
                                                                                refine a_tin (pc := 40) X 1327 dL_law_40 c_40_37 (by decide) (by decide) rfl rfl ?_
                                                                                exact w_L_law_1327 X hB hA hl0 hNw hr0 hr1  hk23  h
                                                                              · have h := x_ifn c_40_37 h
                                                                                by_cases c_40_38 : ((xs l4.toNatClampNeg) &&& (63 : Int32)) = (38 : Int32)
                                                                                · have h := x_ifp c_40_38 h
                                                                                  refine a_tin (pc := 40) X 1352 dL_law_40 c_40_38 (by decide) (by decide) rfl rfl ?_
                                                                                  exact w_L_law_1352 X hB hA hl0 hNw hr0 hr1  hk23  h
                                                                                · have h := x_ifn c_40_38 h
                                                                                  by_cases c_40_39 : ((xs l4.toNatClampNeg) &&& (63 : Int32)) = (39 : Int32)
                                                                                  · have h := x_ifp c_40_39 h
                                                                                    refine a_tin (pc := 40) X 1377 dL_law_40 c_40_39 (by decide) (by decide) rfl rfl ?_
                                                                                    exact w_L_law_1377 X hB hA hl0 hNw hr0 hr1  hk23  h
                                                                                  · have h := x_ifn c_40_39 h
                                                                                    by_cases c_40_40 : ((xs l4.toNatClampNeg) &&& (63 : Int32)) = (40 : Int32)
                                                                                    · have h := x_ifp c_40_40 h
                                                                                      refine a_tin (pc := 40) X 1402 dL_law_40 c_40_40 (by decide) (by decide) rfl rfl ?_
                                                                                      exact w_L_law_1402 X hB hA hl0 hNw hr0 hr1  hk23  h
                                                                                    · have h := x_ifn c_40_40 h
                                                                                      refine a_tout (pc := 40) X 1427 dL_law_40 (by have q0 := x_ne c_40_0; have q1 := x_ne c_40_1; have q2 := x_ne c_40_2; have q3 := x_ne c_40_3; have q4 := x_ne c_40_4; have q5 := x_ne c_40_5; have q6 := x_ne c_40_6; have q7 := x_ne c_40_7; have q8 := x_ne c_40_8; have q9 := x_ne c_40_9; have q10 := x_ne c_40_10; have q11 := x_ne c_40_11; have q12 := x_ne c_40_12; have q13 := x_ne c_40_13; have q14 := x_ne c_40_14; have q15 := x_ne c_40_15; have q16 := x_ne c_40_16; have q17 := x_ne c_40_17; have q18 := x_ne c_40_18; have q19 := x_ne c_40_19; have q20 := x_ne c_40_20; have q21 := x_ne c_40_21; have q22 := x_ne c_40_22; have q23 := x_ne c_40_23; have q24 := x_ne c_40_24; have q25 := x_ne c_40_25; have q26 := x_ne c_40_26; have q27 := x_ne c_40_27; have q28 := x_ne c_40_28; have q29 := x_ne c_40_29; have q30 := x_ne c_40_30; have q31 := x_ne c_40_31; have q32 := x_ne c_40_32; have q33 := x_ne c_40_33; have q34 := x_ne c_40_34; have q35 := x_ne c_40_35; have q36 := x_ne c_40_36; have q37 := x_ne c_40_37; have q38 := x_ne c_40_38; have q39 := x_ne c_40_39; have q40 := x_ne c_40_40; have q0 : (((xs l4.toNatClampNeg) &&& (63 : Int32)) : Int32).toInt ≠ 0 := q0; have q1 : (((xs l4.toNatClampNeg) &&& (63 : Int32)) : Int32).toInt ≠ 1 := q1; have q2 : (((xs l4.toNatClampNeg) &&& (63 : Int32)) : Int32).toInt ≠ 2 := q2; have q3 : (((xs l4.toNatClampNeg) &&& (63 : Int32)) : Int32).toInt ≠ 3 := q3; have q4 : (((xs l4.toNatClampNeg) &&& (63 : Int32)) : Int32).toInt ≠ 4 := q4; have q5 : (((xs l4.toNatClampNeg) &&& (63 : Int32)) : Int32).toInt ≠ 5 := q5; have q6 : (((xs l4.toNatClampNeg) &&& (63 : Int32)) : Int32).toInt ≠ 6 := q6; have q7 : (((xs l4.toNatClampNeg) &&& (63 : Int32)) : Int32).toInt ≠ 7 := q7; have q8 : (((xs l4.toNatClampNeg) &&& (63 : Int32)) : Int32).toInt ≠ 8 := q8; have q9 : (((xs l4.toNatClampNeg) &&& (63 : Int32)) : Int32).toInt ≠ 9 := q9; have q10 : (((xs l4.toNatClampNeg) &&& (63 : Int32)) : Int32).toInt ≠ 10 := q10; have q11 : (((xs l4.toNatClampNeg) &&& (63 : Int32)) : Int32).toInt ≠ 11 := q11; have q12 : (((xs l4.toNatClampNeg) &&& (63 : Int32)) : Int32).toInt ≠ 12 := q12; have q13 : (((xs l4.toNatClampNeg) &&& (63 : Int32)) : Int32).toInt ≠ 13 := q13; have q14 : (((xs l4.toNatClampNeg) &&& (63 : Int32)) : Int32).toInt ≠ 14 := q14; have q15 : (((xs l4.toNatClampNeg) &&& (63 : Int32)) : Int32).toInt ≠ 15 := q15; have q16 : (((xs l4.toNatClampNeg) &&& (63 : Int32)) : Int32).toInt ≠ 16 := q16; have q17 : (((xs l4.toNatClampNeg) &&& (63 : Int32)) : Int32).toInt ≠ 17 := q17; have q18 : (((xs l4.toNatClampNeg) &&& (63 : Int32)) : Int32).toInt ≠ 18 := q18; have q19 : (((xs l4.toNatClampNeg) &&& (63 : Int32)) : Int32).toInt ≠ 19 := q19; have q20 : (((xs l4.toNatClampNeg) &&& (63 : Int32)) : Int32).toInt ≠ 20 := q20; have q21 : (((xs l4.toNatClampNeg) &&& (63 : Int32)) : Int32).toInt ≠ 21 := q21; have q22 : (((xs l4.toNatClampNeg) &&& (63 : Int32)) : Int32).toInt ≠ 22 := q22; have q23 : (((xs l4.toNatClampNeg) &&& (63 : Int32)) : Int32).toInt ≠ 23 := q23; have q24 : (((xs l4.toNatClampNeg) &&& (63 : Int32)) : Int32).toInt ≠ 24 := q24; have q25 : (((xs l4.toNatClampNeg) &&& (63 : Int32)) : Int32).toInt ≠ 25 := q25; have q26 : (((xs l4.toNatClampNeg) &&& (63 : Int32)) : Int32).toInt ≠ 26 := q26; have q27 : (((xs l4.toNatClampNeg) &&& (63 : Int32)) : Int32).toInt ≠ 27 := q27; have q28 : (((xs l4.toNatClampNeg) &&& (63 : Int32)) : Int32).toInt ≠ 28 := q28; have q29 : (((xs l4.toNatClampNeg) &&& (63 : Int32)) : Int32).toInt ≠ 29 := q29; have q30 : (((xs l4.toNatClampNeg) &&& (63 : Int32)) : Int32).toInt ≠ 30 := q30; have q31 : (((xs l4.toNatClampNeg) &&& (63 : Int32)) : Int32).toInt ≠ 31 := q31; have q32 : (((xs l4.toNatClampNeg) &&& (63 : Int32)) : Int32).toInt ≠ 32 := q32; have q33 : (((xs l4.toNatClampNeg) &&& (63 : Int32)) : Int32).toInt ≠ 33 := q33; have q34 : (((xs l4.toNatClampNeg) &&& (63 : Int32)) : Int32).toInt ≠ 34 := q34; have q35 : (((xs l4.toNatClampNeg) &&& (63 : Int32)) : Int32).toInt ≠ 35 := q35; have q36 : (((xs l4.toNatClampNeg) &&& (63 : Int32)) : Int32).toInt ≠ 36 := q36; have q37 : (((xs l4.toNatClampNeg) &&& (63 : Int32)) : Int32).toInt ≠ 37 := q37; have q38 : (((xs l4.toNatClampNeg) &&& (63 : Int32)) : Int32).toInt ≠ 38 := q38; have q39 : (((xs l4.toNatClampNeg) &&& (63 : Int32)) : Int32).toInt ≠ 39 := q39; have q40 : (((xs l4.toNatClampNeg) &&& (63 : Int32)) : Int32).toInt ≠ 40 := q40; omega) rfl ?_
                                                                                      refine y_wid ?_
                                                                                      exact w_L_law_1427 X hB hA hl0 hNw hr0 hr1  hk23  h
