-- model: functional forms and contracts, written by wip/whole/gen.py out of the bytecode.
theorem dX12_readBookLine_0 : decode cX12_readBookLine 0 = .ok (.aload_n 0, 1) := by decide +kernel
theorem dX12_readBookLine_1 : decode cX12_readBookLine 1 = .ok (.bipush 13, 2) := by decide +kernel
theorem dX12_readBookLine_3 : decode cX12_readBookLine 3 = .ok (.invokevirtual 180, 3) := by decide +kernel
theorem dX12_readBookLine_6 : decode cX12_readBookLine 6 = .ok (.ifCond .eq 7, 3) := by decide +kernel
theorem dX12_readBookLine_9 : decode cX12_readBookLine 9 = .ok (.iconst 4, 1) := by decide +kernel
theorem dX12_readBookLine_10 : decode cX12_readBookLine 10 = .ok (.goto 45, 3) := by decide +kernel
theorem dX12_readBookLine_13 : decode cX12_readBookLine 13 = .ok (.aload_n 0, 1) := by decide +kernel
theorem dX12_readBookLine_14 : decode cX12_readBookLine 14 = .ok (.bipush 14, 2) := by decide +kernel
theorem dX12_readBookLine_16 : decode cX12_readBookLine 16 = .ok (.invokevirtual 180, 3) := by decide +kernel
theorem dX12_readBookLine_19 : decode cX12_readBookLine 19 = .ok (.ifCond .eq 7, 3) := by decide +kernel
theorem dX12_readBookLine_22 : decode cX12_readBookLine 22 = .ok (.iconst 5, 1) := by decide +kernel
theorem dX12_readBookLine_23 : decode cX12_readBookLine 23 = .ok (.goto 32, 3) := by decide +kernel
theorem dX12_readBookLine_26 : decode cX12_readBookLine 26 = .ok (.aload_n 0, 1) := by decide +kernel
theorem dX12_readBookLine_27 : decode cX12_readBookLine 27 = .ok (.bipush 15, 2) := by decide +kernel
theorem dX12_readBookLine_29 : decode cX12_readBookLine 29 = .ok (.invokevirtual 180, 3) := by decide +kernel
theorem dX12_readBookLine_32 : decode cX12_readBookLine 32 = .ok (.ifCond .eq 8, 3) := by decide +kernel
theorem dX12_readBookLine_35 : decode cX12_readBookLine 35 = .ok (.bipush 6, 2) := by decide +kernel
theorem dX12_readBookLine_37 : decode cX12_readBookLine 37 = .ok (.goto 18, 3) := by decide +kernel
theorem dX12_readBookLine_40 : decode cX12_readBookLine 40 = .ok (.aload_n 0, 1) := by decide +kernel
theorem dX12_readBookLine_41 : decode cX12_readBookLine 41 = .ok (.bipush 16, 2) := by decide +kernel
theorem dX12_readBookLine_43 : decode cX12_readBookLine 43 = .ok (.invokevirtual 180, 3) := by decide +kernel
theorem dX12_readBookLine_46 : decode cX12_readBookLine 46 = .ok (.ifCond .eq 8, 3) := by decide +kernel
theorem dX12_readBookLine_49 : decode cX12_readBookLine 49 = .ok (.bipush 7, 2) := by decide +kernel
theorem dX12_readBookLine_51 : decode cX12_readBookLine 51 = .ok (.goto 4, 3) := by decide +kernel
theorem dX12_readBookLine_54 : decode cX12_readBookLine 54 = .ok (.iconst 0, 1) := by decide +kernel
theorem dX12_readBookLine_55 : decode cX12_readBookLine 55 = .ok (.istore_n 1, 1) := by decide +kernel
theorem dX12_readBookLine_56 : decode cX12_readBookLine 56 = .ok (.iload_n 1, 1) := by decide +kernel
theorem dX12_readBookLine_57 : decode cX12_readBookLine 57 = .ok (.ifCond .ne 45, 3) := by decide +kernel
theorem dX12_readBookLine_60 : decode cX12_readBookLine 60 = .ok (.aload_n 0, 1) := by decide +kernel
theorem dX12_readBookLine_61 : decode cX12_readBookLine 61 = .ok (.invokevirtual 170, 3) := by decide +kernel
theorem dX12_readBookLine_64 : decode cX12_readBookLine 64 = .ok (.ifCond .ne 9, 3) := by decide +kernel
theorem dX12_readBookLine_67 : decode cX12_readBookLine 67 = .ok (.aload_n 0, 1) := by decide +kernel
theorem dX12_readBookLine_68 : decode cX12_readBookLine 68 = .ok (.iconst 1, 1) := by decide +kernel
theorem dX12_readBookLine_69 : decode cX12_readBookLine 69 = .ok (.invokevirtual 72, 3) := by decide +kernel
theorem dX12_readBookLine_72 : decode cX12_readBookLine 72 = .ok (.ireturn, 1) := by decide +kernel
theorem dX12_readBookLine_73 : decode cX12_readBookLine 73 = .ok (.aload_n 0, 1) := by decide +kernel
theorem dX12_readBookLine_74 : decode cX12_readBookLine 74 = .ok (.getfield 113, 3) := by decide +kernel
theorem dX12_readBookLine_77 : decode cX12_readBookLine 77 = .ok (.bipush 14, 2) := by decide +kernel
theorem dX12_readBookLine_79 : decode cX12_readBookLine 79 = .ok (.aload_n 0, 1) := by decide +kernel
theorem dX12_readBookLine_80 : decode cX12_readBookLine 80 = .ok (.getfield 98, 3) := by decide +kernel
theorem dX12_readBookLine_83 : decode cX12_readBookLine 83 = .ok (.iconst 3, 1) := by decide +kernel
theorem dX12_readBookLine_84 : decode cX12_readBookLine 84 = .ok (.iaload, 1) := by decide +kernel
theorem dX12_readBookLine_85 : decode cX12_readBookLine 85 = .ok (.aload_n 0, 1) := by decide +kernel
theorem dX12_readBookLine_86 : decode cX12_readBookLine 86 = .ok (.getfield 43, 3) := by decide +kernel
theorem dX12_readBookLine_89 : decode cX12_readBookLine 89 = .ok (.invokestatic 166, 3) := by decide +kernel
theorem dX12_readBookLine_92 : decode cX12_readBookLine 92 = .ok (.iconst (-1), 1) := by decide +kernel
theorem dX12_readBookLine_93 : decode cX12_readBookLine 93 = .ok (.if_icmp .ne 9, 3) := by decide +kernel
theorem dX12_readBookLine_96 : decode cX12_readBookLine 96 = .ok (.aload_n 0, 1) := by decide +kernel
theorem dX12_readBookLine_97 : decode cX12_readBookLine 97 = .ok (.iconst 3, 1) := by decide +kernel
theorem dX12_readBookLine_98 : decode cX12_readBookLine 98 = .ok (.invokevirtual 72, 3) := by decide +kernel
theorem dX12_readBookLine_101 : decode cX12_readBookLine 101 = .ok (.ireturn, 1) := by decide +kernel
theorem dX12_readBookLine_102 : decode cX12_readBookLine 102 = .ok (.aload_n 0, 1) := by decide +kernel
theorem dX12_readBookLine_103 : decode cX12_readBookLine 103 = .ok (.getfield 407, 3) := by decide +kernel
theorem dX12_readBookLine_106 : decode cX12_readBookLine 106 = .ok (.bipush 40, 2) := by decide +kernel
theorem dX12_readBookLine_108 : decode cX12_readBookLine 108 = .ok (.if_icmp .ne 9, 3) := by decide +kernel
theorem dX12_readBookLine_111 : decode cX12_readBookLine 111 = .ok (.aload_n 0, 1) := by decide +kernel
theorem dX12_readBookLine_112 : decode cX12_readBookLine 112 = .ok (.iconst 4, 1) := by decide +kernel
theorem dX12_readBookLine_113 : decode cX12_readBookLine 113 = .ok (.invokevirtual 72, 3) := by decide +kernel
theorem dX12_readBookLine_116 : decode cX12_readBookLine 116 = .ok (.ireturn, 1) := by decide +kernel
theorem dX12_readBookLine_117 : decode cX12_readBookLine 117 = .ok (.iconst 3, 1) := by decide +kernel
theorem dX12_readBookLine_118 : decode cX12_readBookLine 118 = .ok (.aload_n 0, 1) := by decide +kernel
theorem dX12_readBookLine_119 : decode cX12_readBookLine 119 = .ok (.getfield 407, 3) := by decide +kernel
theorem dX12_readBookLine_122 : decode cX12_readBookLine 122 = .ok (.imul, 1) := by decide +kernel
theorem dX12_readBookLine_123 : decode cX12_readBookLine 123 = .ok (.istore_n 2, 1) := by decide +kernel
theorem dX12_readBookLine_124 : decode cX12_readBookLine 124 = .ok (.aload_n 0, 1) := by decide +kernel
theorem dX12_readBookLine_125 : decode cX12_readBookLine 125 = .ok (.getfield 154, 3) := by decide +kernel
theorem dX12_readBookLine_128 : decode cX12_readBookLine 128 = .ok (.iload_n 2, 1) := by decide +kernel
theorem dX12_readBookLine_129 : decode cX12_readBookLine 129 = .ok (.iload_n 1, 1) := by decide +kernel
theorem dX12_readBookLine_130 : decode cX12_readBookLine 130 = .ok (.iastore, 1) := by decide +kernel
theorem dX12_readBookLine_131 : decode cX12_readBookLine 131 = .ok (.aload_n 0, 1) := by decide +kernel
theorem dX12_readBookLine_132 : decode cX12_readBookLine 132 = .ok (.getfield 154, 3) := by decide +kernel
theorem dX12_readBookLine_135 : decode cX12_readBookLine 135 = .ok (.iload_n 2, 1) := by decide +kernel
theorem dX12_readBookLine_136 : decode cX12_readBookLine 136 = .ok (.iconst 1, 1) := by decide +kernel
theorem dX12_readBookLine_137 : decode cX12_readBookLine 137 = .ok (.iadd, 1) := by decide +kernel
theorem dX12_readBookLine_138 : decode cX12_readBookLine 138 = .ok (.iload_n 1, 1) := by decide +kernel
theorem dX12_readBookLine_139 : decode cX12_readBookLine 139 = .ok (.ifCond .ne 25, 3) := by decide +kernel
theorem dX12_readBookLine_142 : decode cX12_readBookLine 142 = .ok (.aload_n 0, 1) := by decide +kernel
theorem dX12_readBookLine_143 : decode cX12_readBookLine 143 = .ok (.getfield 113, 3) := by decide +kernel
theorem dX12_readBookLine_146 : decode cX12_readBookLine 146 = .ok (.bipush 14, 2) := by decide +kernel
theorem dX12_readBookLine_148 : decode cX12_readBookLine 148 = .ok (.aload_n 0, 1) := by decide +kernel
theorem dX12_readBookLine_149 : decode cX12_readBookLine 149 = .ok (.getfield 98, 3) := by decide +kernel
theorem dX12_readBookLine_152 : decode cX12_readBookLine 152 = .ok (.iconst 3, 1) := by decide +kernel
theorem dX12_readBookLine_153 : decode cX12_readBookLine 153 = .ok (.iaload, 1) := by decide +kernel
theorem dX12_readBookLine_154 : decode cX12_readBookLine 154 = .ok (.aload_n 0, 1) := by decide +kernel
theorem dX12_readBookLine_155 : decode cX12_readBookLine 155 = .ok (.getfield 43, 3) := by decide +kernel
theorem dX12_readBookLine_158 : decode cX12_readBookLine 158 = .ok (.invokestatic 166, 3) := by decide +kernel
theorem dX12_readBookLine_161 : decode cX12_readBookLine 161 = .ok (.goto 4, 3) := by decide +kernel
theorem dX12_readBookLine_164 : decode cX12_readBookLine 164 = .ok (.iconst 0, 1) := by decide +kernel
theorem dX12_readBookLine_165 : decode cX12_readBookLine 165 = .ok (.iastore, 1) := by decide +kernel
theorem dX12_readBookLine_166 : decode cX12_readBookLine 166 = .ok (.aload_n 0, 1) := by decide +kernel
theorem dX12_readBookLine_167 : decode cX12_readBookLine 167 = .ok (.getfield 154, 3) := by decide +kernel
theorem dX12_readBookLine_170 : decode cX12_readBookLine 170 = .ok (.iload_n 2, 1) := by decide +kernel
theorem dX12_readBookLine_171 : decode cX12_readBookLine 171 = .ok (.iconst 2, 1) := by decide +kernel
theorem dX12_readBookLine_172 : decode cX12_readBookLine 172 = .ok (.iadd, 1) := by decide +kernel
theorem dX12_readBookLine_173 : decode cX12_readBookLine 173 = .ok (.iconst 0, 1) := by decide +kernel
theorem dX12_readBookLine_174 : decode cX12_readBookLine 174 = .ok (.iastore, 1) := by decide +kernel
theorem dX12_readBookLine_175 : decode cX12_readBookLine 175 = .ok (.aload_n 0, 1) := by decide +kernel
theorem dX12_readBookLine_176 : decode cX12_readBookLine 176 = .ok (.invokevirtual 82, 3) := by decide +kernel
theorem dX12_readBookLine_179 : decode cX12_readBookLine 179 = .ok (.iload_n 1, 1) := by decide +kernel
theorem dX12_readBookLine_180 : decode cX12_readBookLine 180 = .ok (.tableswitch 163 0 6 #[44, 163, 163, 163, 65, 92, 136], 44) := by decide +kernel
theorem dX12_readBookLine_224 : decode cX12_readBookLine 224 = .ok (.aload_n 0, 1) := by decide +kernel
theorem dX12_readBookLine_225 : decode cX12_readBookLine 225 = .ok (.iload_n 2, 1) := by decide +kernel
theorem dX12_readBookLine_226 : decode cX12_readBookLine 226 = .ok (.invokevirtual 410, 3) := by decide +kernel
theorem dX12_readBookLine_229 : decode cX12_readBookLine 229 = .ok (.ifCond .eq 14, 3) := by decide +kernel
theorem dX12_readBookLine_232 : decode cX12_readBookLine 232 = .ok (.aload_n 0, 1) := by decide +kernel
theorem dX12_readBookLine_233 : decode cX12_readBookLine 233 = .ok (.invokevirtual 231, 3) := by decide +kernel
theorem dX12_readBookLine_236 : decode cX12_readBookLine 236 = .ok (.ifCond .eq 7, 3) := by decide +kernel
theorem dX12_readBookLine_239 : decode cX12_readBookLine 239 = .ok (.iconst 1, 1) := by decide +kernel
theorem dX12_readBookLine_240 : decode cX12_readBookLine 240 = .ok (.goto 4, 3) := by decide +kernel
theorem dX12_readBookLine_243 : decode cX12_readBookLine 243 = .ok (.iconst 0, 1) := by decide +kernel
theorem dX12_readBookLine_244 : decode cX12_readBookLine 244 = .ok (.ireturn, 1) := by decide +kernel
theorem dX12_readBookLine_245 : decode cX12_readBookLine 245 = .ok (.aload_n 0, 1) := by decide +kernel
theorem dX12_readBookLine_246 : decode cX12_readBookLine 246 = .ok (.iload_n 2, 1) := by decide +kernel
theorem dX12_readBookLine_247 : decode cX12_readBookLine 247 = .ok (.iconst 1, 1) := by decide +kernel
theorem dX12_readBookLine_248 : decode cX12_readBookLine 248 = .ok (.iadd, 1) := by decide +kernel
theorem dX12_readBookLine_249 : decode cX12_readBookLine 249 = .ok (.aload_n 0, 1) := by decide +kernel
theorem dX12_readBookLine_250 : decode cX12_readBookLine 250 = .ok (.invokevirtual 398, 3) := by decide +kernel
theorem dX12_readBookLine_253 : decode cX12_readBookLine 253 = .ok (.invokevirtual 401, 3) := by decide +kernel
theorem dX12_readBookLine_256 : decode cX12_readBookLine 256 = .ok (.ifCond .eq 14, 3) := by decide +kernel
theorem dX12_readBookLine_259 : decode cX12_readBookLine 259 = .ok (.aload_n 0, 1) := by decide +kernel
theorem dX12_readBookLine_260 : decode cX12_readBookLine 260 = .ok (.invokevirtual 231, 3) := by decide +kernel
theorem dX12_readBookLine_263 : decode cX12_readBookLine 263 = .ok (.ifCond .eq 7, 3) := by decide +kernel
theorem dX12_readBookLine_266 : decode cX12_readBookLine 266 = .ok (.iconst 1, 1) := by decide +kernel
theorem dX12_readBookLine_267 : decode cX12_readBookLine 267 = .ok (.goto 4, 3) := by decide +kernel
theorem dX12_readBookLine_270 : decode cX12_readBookLine 270 = .ok (.iconst 0, 1) := by decide +kernel
theorem dX12_readBookLine_271 : decode cX12_readBookLine 271 = .ok (.ireturn, 1) := by decide +kernel
theorem dX12_readBookLine_272 : decode cX12_readBookLine 272 = .ok (.aload_n 0, 1) := by decide +kernel
theorem dX12_readBookLine_273 : decode cX12_readBookLine 273 = .ok (.iload_n 2, 1) := by decide +kernel
theorem dX12_readBookLine_274 : decode cX12_readBookLine 274 = .ok (.iconst 1, 1) := by decide +kernel
theorem dX12_readBookLine_275 : decode cX12_readBookLine 275 = .ok (.iadd, 1) := by decide +kernel
theorem dX12_readBookLine_276 : decode cX12_readBookLine 276 = .ok (.aload_n 0, 1) := by decide +kernel
theorem dX12_readBookLine_277 : decode cX12_readBookLine 277 = .ok (.invokevirtual 398, 3) := by decide +kernel
theorem dX12_readBookLine_280 : decode cX12_readBookLine 280 = .ok (.invokevirtual 401, 3) := by decide +kernel
theorem dX12_readBookLine_283 : decode cX12_readBookLine 283 = .ok (.ifCond .eq 31, 3) := by decide +kernel
theorem dX12_readBookLine_286 : decode cX12_readBookLine 286 = .ok (.aload_n 0, 1) := by decide +kernel
theorem dX12_readBookLine_287 : decode cX12_readBookLine 287 = .ok (.iload_n 2, 1) := by decide +kernel
theorem dX12_readBookLine_288 : decode cX12_readBookLine 288 = .ok (.iconst 2, 1) := by decide +kernel
theorem dX12_readBookLine_289 : decode cX12_readBookLine 289 = .ok (.iadd, 1) := by decide +kernel
theorem dX12_readBookLine_290 : decode cX12_readBookLine 290 = .ok (.aload_n 0, 1) := by decide +kernel
theorem dX12_readBookLine_291 : decode cX12_readBookLine 291 = .ok (.iconst 1, 1) := by decide +kernel
theorem dX12_readBookLine_292 : decode cX12_readBookLine 292 = .ok (.bipush 30, 2) := by decide +kernel
theorem dX12_readBookLine_294 : decode cX12_readBookLine 294 = .ok (.invokevirtual 196, 3) := by decide +kernel
theorem dX12_readBookLine_297 : decode cX12_readBookLine 297 = .ok (.invokevirtual 401, 3) := by decide +kernel
theorem dX12_readBookLine_300 : decode cX12_readBookLine 300 = .ok (.ifCond .eq 14, 3) := by decide +kernel
theorem dX12_readBookLine_303 : decode cX12_readBookLine 303 = .ok (.aload_n 0, 1) := by decide +kernel
theorem dX12_readBookLine_304 : decode cX12_readBookLine 304 = .ok (.invokevirtual 231, 3) := by decide +kernel
theorem dX12_readBookLine_307 : decode cX12_readBookLine 307 = .ok (.ifCond .eq 7, 3) := by decide +kernel
theorem dX12_readBookLine_310 : decode cX12_readBookLine 310 = .ok (.iconst 1, 1) := by decide +kernel
theorem dX12_readBookLine_311 : decode cX12_readBookLine 311 = .ok (.goto 4, 3) := by decide +kernel
theorem dX12_readBookLine_314 : decode cX12_readBookLine 314 = .ok (.iconst 0, 1) := by decide +kernel
theorem dX12_readBookLine_315 : decode cX12_readBookLine 315 = .ok (.ireturn, 1) := by decide +kernel
theorem dX12_readBookLine_316 : decode cX12_readBookLine 316 = .ok (.aload_n 0, 1) := by decide +kernel
theorem dX12_readBookLine_317 : decode cX12_readBookLine 317 = .ok (.iload_n 2, 1) := by decide +kernel
theorem dX12_readBookLine_318 : decode cX12_readBookLine 318 = .ok (.iconst 1, 1) := by decide +kernel
theorem dX12_readBookLine_319 : decode cX12_readBookLine 319 = .ok (.iadd, 1) := by decide +kernel
theorem dX12_readBookLine_320 : decode cX12_readBookLine 320 = .ok (.aload_n 0, 1) := by decide +kernel
theorem dX12_readBookLine_321 : decode cX12_readBookLine 321 = .ok (.invokevirtual 203, 3) := by decide +kernel
theorem dX12_readBookLine_324 : decode cX12_readBookLine 324 = .ok (.invokevirtual 401, 3) := by decide +kernel
theorem dX12_readBookLine_327 : decode cX12_readBookLine 327 = .ok (.ifCond .eq 14, 3) := by decide +kernel
theorem dX12_readBookLine_330 : decode cX12_readBookLine 330 = .ok (.aload_n 0, 1) := by decide +kernel
theorem dX12_readBookLine_331 : decode cX12_readBookLine 331 = .ok (.invokevirtual 231, 3) := by decide +kernel
theorem dX12_readBookLine_334 : decode cX12_readBookLine 334 = .ok (.ifCond .eq 7, 3) := by decide +kernel
theorem dX12_readBookLine_337 : decode cX12_readBookLine 337 = .ok (.iconst 1, 1) := by decide +kernel
theorem dX12_readBookLine_338 : decode cX12_readBookLine 338 = .ok (.goto 4, 3) := by decide +kernel
theorem dX12_readBookLine_341 : decode cX12_readBookLine 341 = .ok (.iconst 0, 1) := by decide +kernel
theorem dX12_readBookLine_342 : decode cX12_readBookLine 342 = .ok (.ireturn, 1) := by decide +kernel
theorem dX12_readBookLine_343 : decode cX12_readBookLine 343 = .ok (.aload_n 0, 1) := by decide +kernel
theorem dX12_readBookLine_344 : decode cX12_readBookLine 344 = .ok (.iload_n 2, 1) := by decide +kernel
theorem dX12_readBookLine_345 : decode cX12_readBookLine 345 = .ok (.iconst 1, 1) := by decide +kernel
theorem dX12_readBookLine_346 : decode cX12_readBookLine 346 = .ok (.iadd, 1) := by decide +kernel
theorem dX12_readBookLine_347 : decode cX12_readBookLine 347 = .ok (.aload_n 0, 1) := by decide +kernel
theorem dX12_readBookLine_348 : decode cX12_readBookLine 348 = .ok (.iconst 1, 1) := by decide +kernel
theorem dX12_readBookLine_349 : decode cX12_readBookLine 349 = .ok (.bipush 60, 2) := by decide +kernel
theorem dX12_readBookLine_351 : decode cX12_readBookLine 351 = .ok (.invokevirtual 196, 3) := by decide +kernel
theorem dX12_readBookLine_354 : decode cX12_readBookLine 354 = .ok (.invokevirtual 401, 3) := by decide +kernel
theorem dX12_readBookLine_357 : decode cX12_readBookLine 357 = .ok (.ifCond .eq 14, 3) := by decide +kernel
theorem dX12_readBookLine_360 : decode cX12_readBookLine 360 = .ok (.aload_n 0, 1) := by decide +kernel
theorem dX12_readBookLine_361 : decode cX12_readBookLine 361 = .ok (.invokevirtual 231, 3) := by decide +kernel
theorem dX12_readBookLine_364 : decode cX12_readBookLine 364 = .ok (.ifCond .eq 7, 3) := by decide +kernel
theorem dX12_readBookLine_367 : decode cX12_readBookLine 367 = .ok (.iconst 1, 1) := by decide +kernel
theorem dX12_readBookLine_368 : decode cX12_readBookLine 368 = .ok (.goto 4, 3) := by decide +kernel
theorem dX12_readBookLine_371 : decode cX12_readBookLine 371 = .ok (.iconst 0, 1) := by decide +kernel
theorem dX12_readBookLine_372 : decode cX12_readBookLine 372 = .ok (.ireturn, 1) := by decide +kernel
def f_X12_readBookLine_165 (w0 : XM) (l1 : Int32) (l2 : Int32) (s1 : Int32) (s2 : Int32) : Option (Int32 × XM) :=
  x_ck s1 120 (
  x_lt (x_pa w0 17 s1 s2) (fun m1 =>
  x_ck (l2 + (2 : Int32)) 120 (
  x_lt (x_pa m1 17 (l2 + (2 : Int32)) (0 : Int32)) (fun m2 =>
  x_bo (f_X12_go m2) (fun y3 =>
  if l1 = (0 : Int32) then
  (x_bo (f_X12_readDoes y3 l2) (fun y5 =>
  if y5.1 = (0 : Int32) then
  (some ((0 : Int32), y5.2))
  else (x_bo (f_X12_readEnd y5.2) (fun y6 =>
  if y6.1 = (0 : Int32) then
  (some ((0 : Int32), y6.2))
  else (some ((1 : Int32), y6.2))))))
  else (if l1 = (1 : Int32) then
  (x_bo (f_X12_readNumber y3 (1 : Int32) (60 : Int32)) (fun y7 =>
  x_bo (f_X12_keep y7.2 (l2 + (1 : Int32)) y7.1) (fun y8 =>
  if y8.1 = (0 : Int32) then
  (some ((0 : Int32), y8.2))
  else (x_bo (f_X12_readEnd y8.2) (fun y9 =>
  if y9.1 = (0 : Int32) then
  (some ((0 : Int32), y9.2))
  else (some ((1 : Int32), y9.2)))))))
  else (if l1 = (2 : Int32) then
  (x_bo (f_X12_readNumber y3 (1 : Int32) (60 : Int32)) (fun y10 =>
  x_bo (f_X12_keep y10.2 (l2 + (1 : Int32)) y10.1) (fun y11 =>
  if y11.1 = (0 : Int32) then
  (some ((0 : Int32), y11.2))
  else (x_bo (f_X12_readEnd y11.2) (fun y12 =>
  if y12.1 = (0 : Int32) then
  (some ((0 : Int32), y12.2))
  else (some ((1 : Int32), y12.2)))))))
  else (if l1 = (3 : Int32) then
  (x_bo (f_X12_readNumber y3 (1 : Int32) (60 : Int32)) (fun y13 =>
  x_bo (f_X12_keep y13.2 (l2 + (1 : Int32)) y13.1) (fun y14 =>
  if y14.1 = (0 : Int32) then
  (some ((0 : Int32), y14.2))
  else (x_bo (f_X12_readEnd y14.2) (fun y15 =>
  if y15.1 = (0 : Int32) then
  (some ((0 : Int32), y15.2))
  else (some ((1 : Int32), y15.2)))))))
  else (if l1 = (4 : Int32) then
  (x_bo (f_X12_readFoldNumber y3) (fun y16 =>
  x_bo (f_X12_keep y16.2 (l2 + (1 : Int32)) y16.1) (fun y17 =>
  if y17.1 = (0 : Int32) then
  (some ((0 : Int32), y17.2))
  else (x_bo (f_X12_readEnd y17.2) (fun y18 =>
  if y18.1 = (0 : Int32) then
  (some ((0 : Int32), y18.2))
  else (some ((1 : Int32), y18.2)))))))
  else (if l1 = (5 : Int32) then
  (x_bo (f_X12_readFoldNumber y3) (fun y19 =>
  x_bo (f_X12_keep y19.2 (l2 + (1 : Int32)) y19.1) (fun y20 =>
  if y20.1 = (0 : Int32) then
  (some ((0 : Int32), y20.2))
  else (x_bo (f_X12_readNumber y20.2 (1 : Int32) (30 : Int32)) (fun y21 =>
  x_bo (f_X12_keep y21.2 (l2 + (2 : Int32)) y21.1) (fun y22 =>
  if y22.1 = (0 : Int32) then
  (some ((0 : Int32), y22.2))
  else (x_bo (f_X12_readEnd y22.2) (fun y23 =>
  if y23.1 = (0 : Int32) then
  (some ((0 : Int32), y23.2))
  else (some ((1 : Int32), y23.2))))))))))
  else (if l1 = (6 : Int32) then
  (x_bo (f_X12_readKind y3) (fun y24 =>
  x_bo (f_X12_keep y24.2 (l2 + (1 : Int32)) y24.1) (fun y25 =>
  if y25.1 = (0 : Int32) then
  (some ((0 : Int32), y25.2))
  else (x_bo (f_X12_readEnd y25.2) (fun y26 =>
  if y26.1 = (0 : Int32) then
  (some ((0 : Int32), y26.2))
  else (some ((1 : Int32), y26.2)))))))
  else (x_bo (f_X12_readNumber y3 (1 : Int32) (60 : Int32)) (fun y27 =>
  x_bo (f_X12_keep y27.2 (l2 + (1 : Int32)) y27.1) (fun y28 =>
  if y28.1 = (0 : Int32) then
  (some ((0 : Int32), y28.2))
  else (x_bo (f_X12_readEnd y28.2) (fun y29 =>
  if y29.1 = (0 : Int32) then
  (some ((0 : Int32), y29.2))
  else (some ((1 : Int32), y29.2))))))))))))))))))
def f_X12_readBookLine_102 (w0 : XM) (l1 : Int32) : Option (Int32 × XM) :=
  if ((w0.1 0 40) : Int32) = (40 : Int32) then
  (x_lt (f_X12_bad w0 (4 : Int32)) (fun y33 =>
  some (y33.1, y33.2)))
  else (x_lt ((3 : Int32) * (w0.1 0 40)) (fun y30 =>
  x_ck y30 120 (
  x_lt (x_pa w0 17 y30 l1) (fun m31 =>
  if l1 = (0 : Int32) then
  (x_bo (f_X12_findIn (x_sub m31 7) (14 : Int32) (x_ga m31 2 (3 : Int32)) (m31.2 0 12)) (fun y32 =>
  f_X12_readBookLine_165   m31 l1 y30 (y30 + (1 : Int32)) y32))
  else (f_X12_readBookLine_165   m31 l1 y30 (y30 + (1 : Int32)) (0 : Int32))))))
def f_X12_readBookLine_55 (w0 : XM) (s0 : Int32) : Option (Int32 × XM) :=
  if s0 = (0 : Int32) then
  (x_bo (f_X12_isName w0) (fun y34 =>
  if y34 = (0 : Int32) then
  (x_lt (f_X12_bad w0 (1 : Int32)) (fun y37 =>
  some (y37.1, y37.2)))
  else (x_bo (f_X12_findIn (x_sub w0 7) (14 : Int32) (x_ga w0 2 (3 : Int32)) (w0.2 0 12)) (fun y35 =>
  if (y35 : Int32) = (-1 : Int32) then
  (x_lt (f_X12_bad w0 (3 : Int32)) (fun y36 =>
  some (y36.1, y36.2)))
  else (f_X12_readBookLine_102   w0 s0)))))
  else (f_X12_readBookLine_102   w0 s0)
def f_X12_readBookLine (v0 : XM) : Option (Int32 × XM) :=
  x_lt (f_X12_isWord v0 (13 : Int32)) (fun y38 =>
  if y38 = (0 : Int32) then
  (x_lt (f_X12_isWord v0 (14 : Int32)) (fun y39 =>
  if y39 = (0 : Int32) then
  (x_lt (f_X12_isWord v0 (15 : Int32)) (fun y40 =>
  if y40 = (0 : Int32) then
  (x_lt (f_X12_isWord v0 (16 : Int32)) (fun y41 =>
  if y41 = (0 : Int32) then
  (f_X12_readBookLine_55   v0 (0 : Int32))
  else (f_X12_readBookLine_55   v0 (7 : Int32))))
  else (f_X12_readBookLine_55   v0 (6 : Int32))))
  else (f_X12_readBookLine_55   v0 (5 : Int32))))
  else (f_X12_readBookLine_55   v0 (4 : Int32)))
set_option maxRecDepth 100000 in
set_option maxHeartbeats 4000000 in
theorem w_X12_readBookLine_165 {p : Program} {l : Launch} {e : Env} {s : State} {m : MethodId} {args : Array Value} {below : List Frame} {meth : Method} {c : Code} {D : va_G} {tc : Nat → ClassId} {aK aV : Nat → Nat} {A : Nat → Prop} {ad0 : Nat → Nat}  (X : Cx p s m args meth c cX12_readBookLine 3 (some .boolean) RX12 D tc aK aV A [(shModel, ad0)])  {o : Int32 × XM}  {w0 : XM} {l1 : Int32} {l2 : Int32} {s1 : Int32} {s2 : Int32}  (h : f_X12_readBookLine_165   w0 l1 l2 s1 s2 = some o) : aW p l e (x_Rm 5) s m args below meth c D tc A 3 [(shModel, ad0)] (some (.int o.1)) (x_Z o.1) [o.2] 165 [(0, .ref (ad0 0)), (1, .int l1), (2, .int l2)] [.int s2, .int s1, .ref (ad0 17)] [w0] := by
  unfold f_X12_readBookLine_165 at h
  obtain ⟨c_165, h⟩ := x_ck_elim h
  refine a_iast (pc := 165) X 0 rfl rfl rfl c_165 dX12_readBookLine_165 ?_
  obtain ⟨m1, e_m1, h⟩ := x_lt_elim h
  refine a_nm (vs2 := [m1]) (congrArg (fun q : XM => [q]) e_m1) ?_
  refine a_aload_n (pc := 166) X 0 dX12_readBookLine_166 rfl rfl ?_
  refine a_getR (pc := 167) X 0 17 17 fl_RX12_154 rfl rfl rfl rfl rfl dX12_readBookLine_167 ?_
  refine a_iload_n (pc := 170) X 2 dX12_readBookLine_170 rfl rfl ?_
  refine a_iconst (pc := 171) X dX12_readBookLine_171 q_ic_2 ?_
  refine a_iadd (pc := 172) X dX12_readBookLine_172 ?_
  refine a_iconst (pc := 173) X dX12_readBookLine_173 q_ic_0 ?_
  obtain ⟨c_174, h⟩ := x_ck_elim h
  refine a_iast (pc := 174) X 0 rfl rfl rfl c_174 dX12_readBookLine_174 ?_
  obtain ⟨m2, e_m2, h⟩ := x_lt_elim h
  refine a_nm (vs2 := [m2]) (congrArg (fun q : XM => [q]) e_m2) ?_
  refine a_aload_n (pc := 175) X 0 dX12_readBookLine_175 rfl rfl ?_
  obtain ⟨y3, e_y3, h⟩ := x_bo_elim h
  refine a_callV (pc := 176) (st2 := []) (vs2 := [y3]) X [(0, 0, 20)] [some y3] 0 0 12 [] [] cv_RX12_82 (c_X12_go (ad0 := ad0)  e_y3) rfl rfl rfl rfl rfl rfl rfl rfl rfl rfl rfl rfl rfl rfl rfl (Nat.le_of_ble_eq_true rfl) ⟨Nat.le_of_ble_eq_true rfl, Nat.le_of_ble_eq_true rfl⟩ dX12_readBookLine_176 (fun _ => ?_)
  refine a_iload_n (pc := 179) X 1 dX12_readBookLine_179 rfl rfl ?_
  by_cases c_180_0 : l1 = (0 : Int32)
  · have h := x_ifp c_180_0 h
    refine a_tin (pc := 180) X 224 dX12_readBookLine_180 c_180_0 (by decide) (by decide) rfl rfl ?_
    refine a_aload_n (pc := 224) X 0 dX12_readBookLine_224 rfl rfl ?_
    refine a_iload_n (pc := 225) X 2 dX12_readBookLine_225 rfl rfl ?_
    obtain ⟨y5, e_y5, h⟩ := x_bo_elim h
    refine a_callV (pc := 226) (st2 := [.int y5.1]) (vs2 := [y5.2]) X [(0, 0, 20)] [some y5.2] 0 0 12 [.int l2] [] cv_RX12_410 (c_X12_readDoes (ad0 := ad0)  e_y5) rfl rfl rfl rfl rfl rfl rfl rfl rfl rfl rfl rfl rfl rfl rfl (Nat.le_of_ble_eq_true rfl) ⟨Nat.le_of_ble_eq_true rfl, Nat.le_of_ble_eq_true rfl⟩ dX12_readBookLine_226 (fun z_226 => ?_)
    refine a_if_eq (pc := 229) X 243 dX12_readBookLine_229 rfl (fun c_229 => ?_) (fun c_229 => ?_)
    · have h := x_ifp c_229 h
      refine a_iconst (pc := 243) X dX12_readBookLine_243 q_ic_0 ?_
      have h := Option.some.inj h; subst h
      exact a_zret (pc := 244) X x_Z0 x_Z0 dX12_readBookLine_244
    · have h := x_ifn c_229 h
      refine a_aload_n (pc := 232) X 0 dX12_readBookLine_232 rfl rfl ?_
      obtain ⟨y6, e_y6, h⟩ := x_bo_elim h
      refine a_callV (pc := 233) (st2 := [.int y6.1]) (vs2 := [y6.2]) X [(0, 0, 20)] [some y6.2] 0 0 12 [] [] cv_RX12_231 (c_X12_readEnd (ad0 := ad0)  e_y6) rfl rfl rfl rfl rfl rfl rfl rfl rfl rfl rfl rfl rfl rfl rfl (Nat.le_of_ble_eq_true rfl) ⟨Nat.le_of_ble_eq_true rfl, Nat.le_of_ble_eq_true rfl⟩ dX12_readBookLine_233 (fun z_233 => ?_)
      refine a_if_eq (pc := 236) X 243 dX12_readBookLine_236 rfl (fun c_236 => ?_) (fun c_236 => ?_)
      · have h := x_ifp c_236 h
        refine a_iconst (pc := 243) X dX12_readBookLine_243 q_ic_0 ?_
        have h := Option.some.inj h; subst h
        exact a_zret (pc := 244) X x_Z0 x_Z0 dX12_readBookLine_244
      · have h := x_ifn c_236 h
        refine a_iconst (pc := 239) X dX12_readBookLine_239 q_ic_1 ?_
        refine a_goto (pc := 240) X 244 dX12_readBookLine_240 rfl ?_
        have h := Option.some.inj h; subst h
        exact a_zret (pc := 244) X x_Z1 x_Z1 dX12_readBookLine_244
  · have h := x_ifn c_180_0 h
    by_cases c_180_1 : l1 = (1 : Int32)
    · have h := x_ifp c_180_1 h
      refine a_tin (pc := 180) X 343 dX12_readBookLine_180 c_180_1 (by decide) (by decide) rfl rfl ?_
      refine a_aload_n (pc := 343) X 0 dX12_readBookLine_343 rfl rfl ?_
      refine a_iload_n (pc := 344) X 2 dX12_readBookLine_344 rfl rfl ?_
      refine a_iconst (pc := 345) X dX12_readBookLine_345 q_ic_1 ?_
      refine a_iadd (pc := 346) X dX12_readBookLine_346 ?_
      refine a_aload_n (pc := 347) X 0 dX12_readBookLine_347 rfl rfl ?_
      refine a_iconst (pc := 348) X dX12_readBookLine_348 q_ic_1 ?_
      refine a_bipush (pc := 349) X dX12_readBookLine_349 q_bp_60 ?_
      obtain ⟨y7, e_y7, h⟩ := x_bo_elim h
      refine a_callV (pc := 351) (st2 := [.int y7.1, .int (l2 + (1 : Int32)), .ref (ad0 0)]) (vs2 := [y7.2]) X [(0, 0, 20)] [some y7.2] 0 0 12 [.int (1 : Int32), .int (60 : Int32)] [.int (l2 + (1 : Int32)), .ref (ad0 0)] cv_RX12_196 (c_X12_readNumber (ad0 := ad0)  e_y7) rfl rfl rfl rfl rfl rfl rfl rfl rfl rfl rfl rfl rfl rfl rfl (Nat.le_of_ble_eq_true rfl) ⟨Nat.le_of_ble_eq_true rfl, Nat.le_of_ble_eq_true rfl⟩ dX12_readBookLine_351 (fun z_351 => ?_)
      obtain ⟨y8, e_y8, h⟩ := x_bo_elim h
      refine a_callV (pc := 354) (st2 := [.int y8.1]) (vs2 := [y8.2]) X [(0, 0, 20)] [some y8.2] 0 0 12 [.int (l2 + (1 : Int32)), .int y7.1] [] cv_RX12_401 (c_X12_keep (ad0 := ad0) z_351 e_y8) rfl rfl rfl rfl rfl rfl rfl rfl rfl rfl rfl rfl rfl rfl rfl (Nat.le_of_ble_eq_true rfl) ⟨Nat.le_of_ble_eq_true rfl, Nat.le_of_ble_eq_true rfl⟩ dX12_readBookLine_354 (fun z_354 => ?_)
      refine a_if_eq (pc := 357) X 371 dX12_readBookLine_357 rfl (fun c_357 => ?_) (fun c_357 => ?_)
      · have h := x_ifp c_357 h
        refine a_iconst (pc := 371) X dX12_readBookLine_371 q_ic_0 ?_
        have h := Option.some.inj h; subst h
        exact a_zret (pc := 372) X x_Z0 x_Z0 dX12_readBookLine_372
      · have h := x_ifn c_357 h
        refine a_aload_n (pc := 360) X 0 dX12_readBookLine_360 rfl rfl ?_
        obtain ⟨y9, e_y9, h⟩ := x_bo_elim h
        refine a_callV (pc := 361) (st2 := [.int y9.1]) (vs2 := [y9.2]) X [(0, 0, 20)] [some y9.2] 0 0 12 [] [] cv_RX12_231 (c_X12_readEnd (ad0 := ad0)  e_y9) rfl rfl rfl rfl rfl rfl rfl rfl rfl rfl rfl rfl rfl rfl rfl (Nat.le_of_ble_eq_true rfl) ⟨Nat.le_of_ble_eq_true rfl, Nat.le_of_ble_eq_true rfl⟩ dX12_readBookLine_361 (fun z_361 => ?_)
        refine a_if_eq (pc := 364) X 371 dX12_readBookLine_364 rfl (fun c_364 => ?_) (fun c_364 => ?_)
        · have h := x_ifp c_364 h
          refine a_iconst (pc := 371) X dX12_readBookLine_371 q_ic_0 ?_
          have h := Option.some.inj h; subst h
          exact a_zret (pc := 372) X x_Z0 x_Z0 dX12_readBookLine_372
        · have h := x_ifn c_364 h
          refine a_iconst (pc := 367) X dX12_readBookLine_367 q_ic_1 ?_
          refine a_goto (pc := 368) X 372 dX12_readBookLine_368 rfl ?_
          have h := Option.some.inj h; subst h
          exact a_zret (pc := 372) X x_Z1 x_Z1 dX12_readBookLine_372
    · have h := x_ifn c_180_1 h
      by_cases c_180_2 : l1 = (2 : Int32)
      · have h := x_ifp c_180_2 h
        refine a_tin (pc := 180) X 343 dX12_readBookLine_180 c_180_2 (by decide) (by decide) rfl rfl ?_
        refine a_aload_n (pc := 343) X 0 dX12_readBookLine_343 rfl rfl ?_
        refine a_iload_n (pc := 344) X 2 dX12_readBookLine_344 rfl rfl ?_
        refine a_iconst (pc := 345) X dX12_readBookLine_345 q_ic_1 ?_
        refine a_iadd (pc := 346) X dX12_readBookLine_346 ?_
        refine a_aload_n (pc := 347) X 0 dX12_readBookLine_347 rfl rfl ?_
        refine a_iconst (pc := 348) X dX12_readBookLine_348 q_ic_1 ?_
        refine a_bipush (pc := 349) X dX12_readBookLine_349 q_bp_60 ?_
        obtain ⟨y10, e_y10, h⟩ := x_bo_elim h
        refine a_callV (pc := 351) (st2 := [.int y10.1, .int (l2 + (1 : Int32)), .ref (ad0 0)]) (vs2 := [y10.2]) X [(0, 0, 20)] [some y10.2] 0 0 12 [.int (1 : Int32), .int (60 : Int32)] [.int (l2 + (1 : Int32)), .ref (ad0 0)] cv_RX12_196 (c_X12_readNumber (ad0 := ad0)  e_y10) rfl rfl rfl rfl rfl rfl rfl rfl rfl rfl rfl rfl rfl rfl rfl (Nat.le_of_ble_eq_true rfl) ⟨Nat.le_of_ble_eq_true rfl, Nat.le_of_ble_eq_true rfl⟩ dX12_readBookLine_351 (fun z_351 => ?_)
        obtain ⟨y11, e_y11, h⟩ := x_bo_elim h
        refine a_callV (pc := 354) (st2 := [.int y11.1]) (vs2 := [y11.2]) X [(0, 0, 20)] [some y11.2] 0 0 12 [.int (l2 + (1 : Int32)), .int y10.1] [] cv_RX12_401 (c_X12_keep (ad0 := ad0) z_351 e_y11) rfl rfl rfl rfl rfl rfl rfl rfl rfl rfl rfl rfl rfl rfl rfl (Nat.le_of_ble_eq_true rfl) ⟨Nat.le_of_ble_eq_true rfl, Nat.le_of_ble_eq_true rfl⟩ dX12_readBookLine_354 (fun z_354 => ?_)
        refine a_if_eq (pc := 357) X 371 dX12_readBookLine_357 rfl (fun c_357 => ?_) (fun c_357 => ?_)
        · have h := x_ifp c_357 h
          refine a_iconst (pc := 371) X dX12_readBookLine_371 q_ic_0 ?_
          have h := Option.some.inj h; subst h
          exact a_zret (pc := 372) X x_Z0 x_Z0 dX12_readBookLine_372
        · have h := x_ifn c_357 h
          refine a_aload_n (pc := 360) X 0 dX12_readBookLine_360 rfl rfl ?_
          obtain ⟨y12, e_y12, h⟩ := x_bo_elim h
          refine a_callV (pc := 361) (st2 := [.int y12.1]) (vs2 := [y12.2]) X [(0, 0, 20)] [some y12.2] 0 0 12 [] [] cv_RX12_231 (c_X12_readEnd (ad0 := ad0)  e_y12) rfl rfl rfl rfl rfl rfl rfl rfl rfl rfl rfl rfl rfl rfl rfl (Nat.le_of_ble_eq_true rfl) ⟨Nat.le_of_ble_eq_true rfl, Nat.le_of_ble_eq_true rfl⟩ dX12_readBookLine_361 (fun z_361 => ?_)
          refine a_if_eq (pc := 364) X 371 dX12_readBookLine_364 rfl (fun c_364 => ?_) (fun c_364 => ?_)
          · have h := x_ifp c_364 h
            refine a_iconst (pc := 371) X dX12_readBookLine_371 q_ic_0 ?_
            have h := Option.some.inj h; subst h
            exact a_zret (pc := 372) X x_Z0 x_Z0 dX12_readBookLine_372
          · have h := x_ifn c_364 h
            refine a_iconst (pc := 367) X dX12_readBookLine_367 q_ic_1 ?_
            refine a_goto (pc := 368) X 372 dX12_readBookLine_368 rfl ?_
            have h := Option.some.inj h; subst h
            exact a_zret (pc := 372) X x_Z1 x_Z1 dX12_readBookLine_372
      · have h := x_ifn c_180_2 h
        by_cases c_180_3 : l1 = (3 : Int32)
        · have h := x_ifp c_180_3 h
          refine a_tin (pc := 180) X 343 dX12_readBookLine_180 c_180_3 (by decide) (by decide) rfl rfl ?_
          refine a_aload_n (pc := 343) X 0 dX12_readBookLine_343 rfl rfl ?_
          refine a_iload_n (pc := 344) X 2 dX12_readBookLine_344 rfl rfl ?_
          refine a_iconst (pc := 345) X dX12_readBookLine_345 q_ic_1 ?_
          refine a_iadd (pc := 346) X dX12_readBookLine_346 ?_
          refine a_aload_n (pc := 347) X 0 dX12_readBookLine_347 rfl rfl ?_
          refine a_iconst (pc := 348) X dX12_readBookLine_348 q_ic_1 ?_
          refine a_bipush (pc := 349) X dX12_readBookLine_349 q_bp_60 ?_
          obtain ⟨y13, e_y13, h⟩ := x_bo_elim h
          refine a_callV (pc := 351) (st2 := [.int y13.1, .int (l2 + (1 : Int32)), .ref (ad0 0)]) (vs2 := [y13.2]) X [(0, 0, 20)] [some y13.2] 0 0 12 [.int (1 : Int32), .int (60 : Int32)] [.int (l2 + (1 : Int32)), .ref (ad0 0)] cv_RX12_196 (c_X12_readNumber (ad0 := ad0)  e_y13) rfl rfl rfl rfl rfl rfl rfl rfl rfl rfl rfl rfl rfl rfl rfl (Nat.le_of_ble_eq_true rfl) ⟨Nat.le_of_ble_eq_true rfl, Nat.le_of_ble_eq_true rfl⟩ dX12_readBookLine_351 (fun z_351 => ?_)
          obtain ⟨y14, e_y14, h⟩ := x_bo_elim h
          refine a_callV (pc := 354) (st2 := [.int y14.1]) (vs2 := [y14.2]) X [(0, 0, 20)] [some y14.2] 0 0 12 [.int (l2 + (1 : Int32)), .int y13.1] [] cv_RX12_401 (c_X12_keep (ad0 := ad0) z_351 e_y14) rfl rfl rfl rfl rfl rfl rfl rfl rfl rfl rfl rfl rfl rfl rfl (Nat.le_of_ble_eq_true rfl) ⟨Nat.le_of_ble_eq_true rfl, Nat.le_of_ble_eq_true rfl⟩ dX12_readBookLine_354 (fun z_354 => ?_)
          refine a_if_eq (pc := 357) X 371 dX12_readBookLine_357 rfl (fun c_357 => ?_) (fun c_357 => ?_)
          · have h := x_ifp c_357 h
            refine a_iconst (pc := 371) X dX12_readBookLine_371 q_ic_0 ?_
            have h := Option.some.inj h; subst h
            exact a_zret (pc := 372) X x_Z0 x_Z0 dX12_readBookLine_372
          · have h := x_ifn c_357 h
            refine a_aload_n (pc := 360) X 0 dX12_readBookLine_360 rfl rfl ?_
            obtain ⟨y15, e_y15, h⟩ := x_bo_elim h
            refine a_callV (pc := 361) (st2 := [.int y15.1]) (vs2 := [y15.2]) X [(0, 0, 20)] [some y15.2] 0 0 12 [] [] cv_RX12_231 (c_X12_readEnd (ad0 := ad0)  e_y15) rfl rfl rfl rfl rfl rfl rfl rfl rfl rfl rfl rfl rfl rfl rfl (Nat.le_of_ble_eq_true rfl) ⟨Nat.le_of_ble_eq_true rfl, Nat.le_of_ble_eq_true rfl⟩ dX12_readBookLine_361 (fun z_361 => ?_)
            refine a_if_eq (pc := 364) X 371 dX12_readBookLine_364 rfl (fun c_364 => ?_) (fun c_364 => ?_)
            · have h := x_ifp c_364 h
              refine a_iconst (pc := 371) X dX12_readBookLine_371 q_ic_0 ?_
              have h := Option.some.inj h; subst h
              exact a_zret (pc := 372) X x_Z0 x_Z0 dX12_readBookLine_372
            · have h := x_ifn c_364 h
              refine a_iconst (pc := 367) X dX12_readBookLine_367 q_ic_1 ?_
              refine a_goto (pc := 368) X 372 dX12_readBookLine_368 rfl ?_
              have h := Option.some.inj h; subst h
              exact a_zret (pc := 372) X x_Z1 x_Z1 dX12_readBookLine_372
        · have h := x_ifn c_180_3 h
          by_cases c_180_4 : l1 = (4 : Int32)
          · have h := x_ifp c_180_4 h
            refine a_tin (pc := 180) X 245 dX12_readBookLine_180 c_180_4 (by decide) (by decide) rfl rfl ?_
            refine a_aload_n (pc := 245) X 0 dX12_readBookLine_245 rfl rfl ?_
            refine a_iload_n (pc := 246) X 2 dX12_readBookLine_246 rfl rfl ?_
            refine a_iconst (pc := 247) X dX12_readBookLine_247 q_ic_1 ?_
            refine a_iadd (pc := 248) X dX12_readBookLine_248 ?_
            refine a_aload_n (pc := 249) X 0 dX12_readBookLine_249 rfl rfl ?_
            obtain ⟨y16, e_y16, h⟩ := x_bo_elim h
            refine a_callV (pc := 250) (st2 := [.int y16.1, .int (l2 + (1 : Int32)), .ref (ad0 0)]) (vs2 := [y16.2]) X [(0, 0, 20)] [some y16.2] 0 0 12 [] [.int (l2 + (1 : Int32)), .ref (ad0 0)] cv_RX12_398 (c_X12_readFoldNumber (ad0 := ad0)  e_y16) rfl rfl rfl rfl rfl rfl rfl rfl rfl rfl rfl rfl rfl rfl rfl (Nat.le_of_ble_eq_true rfl) ⟨Nat.le_of_ble_eq_true rfl, Nat.le_of_ble_eq_true rfl⟩ dX12_readBookLine_250 (fun z_250 => ?_)
            obtain ⟨y17, e_y17, h⟩ := x_bo_elim h
            refine a_callV (pc := 253) (st2 := [.int y17.1]) (vs2 := [y17.2]) X [(0, 0, 20)] [some y17.2] 0 0 12 [.int (l2 + (1 : Int32)), .int y16.1] [] cv_RX12_401 (c_X12_keep (ad0 := ad0) z_250 e_y17) rfl rfl rfl rfl rfl rfl rfl rfl rfl rfl rfl rfl rfl rfl rfl (Nat.le_of_ble_eq_true rfl) ⟨Nat.le_of_ble_eq_true rfl, Nat.le_of_ble_eq_true rfl⟩ dX12_readBookLine_253 (fun z_253 => ?_)
            refine a_if_eq (pc := 256) X 270 dX12_readBookLine_256 rfl (fun c_256 => ?_) (fun c_256 => ?_)
            · have h := x_ifp c_256 h
              refine a_iconst (pc := 270) X dX12_readBookLine_270 q_ic_0 ?_
              have h := Option.some.inj h; subst h
              exact a_zret (pc := 271) X x_Z0 x_Z0 dX12_readBookLine_271
            · have h := x_ifn c_256 h
              refine a_aload_n (pc := 259) X 0 dX12_readBookLine_259 rfl rfl ?_
              obtain ⟨y18, e_y18, h⟩ := x_bo_elim h
              refine a_callV (pc := 260) (st2 := [.int y18.1]) (vs2 := [y18.2]) X [(0, 0, 20)] [some y18.2] 0 0 12 [] [] cv_RX12_231 (c_X12_readEnd (ad0 := ad0)  e_y18) rfl rfl rfl rfl rfl rfl rfl rfl rfl rfl rfl rfl rfl rfl rfl (Nat.le_of_ble_eq_true rfl) ⟨Nat.le_of_ble_eq_true rfl, Nat.le_of_ble_eq_true rfl⟩ dX12_readBookLine_260 (fun z_260 => ?_)
              refine a_if_eq (pc := 263) X 270 dX12_readBookLine_263 rfl (fun c_263 => ?_) (fun c_263 => ?_)
              · have h := x_ifp c_263 h
                refine a_iconst (pc := 270) X dX12_readBookLine_270 q_ic_0 ?_
                have h := Option.some.inj h; subst h
                exact a_zret (pc := 271) X x_Z0 x_Z0 dX12_readBookLine_271
              · have h := x_ifn c_263 h
                refine a_iconst (pc := 266) X dX12_readBookLine_266 q_ic_1 ?_
                refine a_goto (pc := 267) X 271 dX12_readBookLine_267 rfl ?_
                have h := Option.some.inj h; subst h
                exact a_zret (pc := 271) X x_Z1 x_Z1 dX12_readBookLine_271
          · have h := x_ifn c_180_4 h
            by_cases c_180_5 : l1 = (5 : Int32)
            · have h := x_ifp c_180_5 h
              refine a_tin (pc := 180) X 272 dX12_readBookLine_180 c_180_5 (by decide) (by decide) rfl rfl ?_
              refine a_aload_n (pc := 272) X 0 dX12_readBookLine_272 rfl rfl ?_
              refine a_iload_n (pc := 273) X 2 dX12_readBookLine_273 rfl rfl ?_
              refine a_iconst (pc := 274) X dX12_readBookLine_274 q_ic_1 ?_
              refine a_iadd (pc := 275) X dX12_readBookLine_275 ?_
              refine a_aload_n (pc := 276) X 0 dX12_readBookLine_276 rfl rfl ?_
              obtain ⟨y19, e_y19, h⟩ := x_bo_elim h
              refine a_callV (pc := 277) (st2 := [.int y19.1, .int (l2 + (1 : Int32)), .ref (ad0 0)]) (vs2 := [y19.2]) X [(0, 0, 20)] [some y19.2] 0 0 12 [] [.int (l2 + (1 : Int32)), .ref (ad0 0)] cv_RX12_398 (c_X12_readFoldNumber (ad0 := ad0)  e_y19) rfl rfl rfl rfl rfl rfl rfl rfl rfl rfl rfl rfl rfl rfl rfl (Nat.le_of_ble_eq_true rfl) ⟨Nat.le_of_ble_eq_true rfl, Nat.le_of_ble_eq_true rfl⟩ dX12_readBookLine_277 (fun z_277 => ?_)
              obtain ⟨y20, e_y20, h⟩ := x_bo_elim h
              refine a_callV (pc := 280) (st2 := [.int y20.1]) (vs2 := [y20.2]) X [(0, 0, 20)] [some y20.2] 0 0 12 [.int (l2 + (1 : Int32)), .int y19.1] [] cv_RX12_401 (c_X12_keep (ad0 := ad0) z_277 e_y20) rfl rfl rfl rfl rfl rfl rfl rfl rfl rfl rfl rfl rfl rfl rfl (Nat.le_of_ble_eq_true rfl) ⟨Nat.le_of_ble_eq_true rfl, Nat.le_of_ble_eq_true rfl⟩ dX12_readBookLine_280 (fun z_280 => ?_)
              refine a_if_eq (pc := 283) X 314 dX12_readBookLine_283 rfl (fun c_283 => ?_) (fun c_283 => ?_)
              · have h := x_ifp c_283 h
                refine a_iconst (pc := 314) X dX12_readBookLine_314 q_ic_0 ?_
                have h := Option.some.inj h; subst h
                exact a_zret (pc := 315) X x_Z0 x_Z0 dX12_readBookLine_315
              · have h := x_ifn c_283 h
                refine a_aload_n (pc := 286) X 0 dX12_readBookLine_286 rfl rfl ?_
                refine a_iload_n (pc := 287) X 2 dX12_readBookLine_287 rfl rfl ?_
                refine a_iconst (pc := 288) X dX12_readBookLine_288 q_ic_2 ?_
                refine a_iadd (pc := 289) X dX12_readBookLine_289 ?_
                refine a_aload_n (pc := 290) X 0 dX12_readBookLine_290 rfl rfl ?_
                refine a_iconst (pc := 291) X dX12_readBookLine_291 q_ic_1 ?_
                refine a_bipush (pc := 292) X dX12_readBookLine_292 q_bp_30 ?_
                obtain ⟨y21, e_y21, h⟩ := x_bo_elim h
                refine a_callV (pc := 294) (st2 := [.int y21.1, .int (l2 + (2 : Int32)), .ref (ad0 0)]) (vs2 := [y21.2]) X [(0, 0, 20)] [some y21.2] 0 0 12 [.int (1 : Int32), .int (30 : Int32)] [.int (l2 + (2 : Int32)), .ref (ad0 0)] cv_RX12_196 (c_X12_readNumber (ad0 := ad0)  e_y21) rfl rfl rfl rfl rfl rfl rfl rfl rfl rfl rfl rfl rfl rfl rfl (Nat.le_of_ble_eq_true rfl) ⟨Nat.le_of_ble_eq_true rfl, Nat.le_of_ble_eq_true rfl⟩ dX12_readBookLine_294 (fun z_294 => ?_)
                obtain ⟨y22, e_y22, h⟩ := x_bo_elim h
                refine a_callV (pc := 297) (st2 := [.int y22.1]) (vs2 := [y22.2]) X [(0, 0, 20)] [some y22.2] 0 0 12 [.int (l2 + (2 : Int32)), .int y21.1] [] cv_RX12_401 (c_X12_keep (ad0 := ad0) z_294 e_y22) rfl rfl rfl rfl rfl rfl rfl rfl rfl rfl rfl rfl rfl rfl rfl (Nat.le_of_ble_eq_true rfl) ⟨Nat.le_of_ble_eq_true rfl, Nat.le_of_ble_eq_true rfl⟩ dX12_readBookLine_297 (fun z_297 => ?_)
                refine a_if_eq (pc := 300) X 314 dX12_readBookLine_300 rfl (fun c_300 => ?_) (fun c_300 => ?_)
                · have h := x_ifp c_300 h
                  refine a_iconst (pc := 314) X dX12_readBookLine_314 q_ic_0 ?_
                  have h := Option.some.inj h; subst h
                  exact a_zret (pc := 315) X x_Z0 x_Z0 dX12_readBookLine_315
                · have h := x_ifn c_300 h
                  refine a_aload_n (pc := 303) X 0 dX12_readBookLine_303 rfl rfl ?_
                  obtain ⟨y23, e_y23, h⟩ := x_bo_elim h
                  refine a_callV (pc := 304) (st2 := [.int y23.1]) (vs2 := [y23.2]) X [(0, 0, 20)] [some y23.2] 0 0 12 [] [] cv_RX12_231 (c_X12_readEnd (ad0 := ad0)  e_y23) rfl rfl rfl rfl rfl rfl rfl rfl rfl rfl rfl rfl rfl rfl rfl (Nat.le_of_ble_eq_true rfl) ⟨Nat.le_of_ble_eq_true rfl, Nat.le_of_ble_eq_true rfl⟩ dX12_readBookLine_304 (fun z_304 => ?_)
                  refine a_if_eq (pc := 307) X 314 dX12_readBookLine_307 rfl (fun c_307 => ?_) (fun c_307 => ?_)
                  · have h := x_ifp c_307 h
                    refine a_iconst (pc := 314) X dX12_readBookLine_314 q_ic_0 ?_
                    have h := Option.some.inj h; subst h
                    exact a_zret (pc := 315) X x_Z0 x_Z0 dX12_readBookLine_315
                  · have h := x_ifn c_307 h
                    refine a_iconst (pc := 310) X dX12_readBookLine_310 q_ic_1 ?_
                    refine a_goto (pc := 311) X 315 dX12_readBookLine_311 rfl ?_
                    have h := Option.some.inj h; subst h
                    exact a_zret (pc := 315) X x_Z1 x_Z1 dX12_readBookLine_315
            · have h := x_ifn c_180_5 h
              by_cases c_180_6 : l1 = (6 : Int32)
              · have h := x_ifp c_180_6 h
                refine a_tin (pc := 180) X 316 dX12_readBookLine_180 c_180_6 (by decide) (by decide) rfl rfl ?_
                refine a_aload_n (pc := 316) X 0 dX12_readBookLine_316 rfl rfl ?_
                refine a_iload_n (pc := 317) X 2 dX12_readBookLine_317 rfl rfl ?_
                refine a_iconst (pc := 318) X dX12_readBookLine_318 q_ic_1 ?_
                refine a_iadd (pc := 319) X dX12_readBookLine_319 ?_
                refine a_aload_n (pc := 320) X 0 dX12_readBookLine_320 rfl rfl ?_
                obtain ⟨y24, e_y24, h⟩ := x_bo_elim h
                refine a_callV (pc := 321) (st2 := [.int y24.1, .int (l2 + (1 : Int32)), .ref (ad0 0)]) (vs2 := [y24.2]) X [(0, 0, 20)] [some y24.2] 0 0 12 [] [.int (l2 + (1 : Int32)), .ref (ad0 0)] cv_RX12_203 (c_X12_readKind (ad0 := ad0)  e_y24) rfl rfl rfl rfl rfl rfl rfl rfl rfl rfl rfl rfl rfl rfl rfl (Nat.le_of_ble_eq_true rfl) ⟨Nat.le_of_ble_eq_true rfl, Nat.le_of_ble_eq_true rfl⟩ dX12_readBookLine_321 (fun z_321 => ?_)
                obtain ⟨y25, e_y25, h⟩ := x_bo_elim h
                refine a_callV (pc := 324) (st2 := [.int y25.1]) (vs2 := [y25.2]) X [(0, 0, 20)] [some y25.2] 0 0 12 [.int (l2 + (1 : Int32)), .int y24.1] [] cv_RX12_401 (c_X12_keep (ad0 := ad0) z_321 e_y25) rfl rfl rfl rfl rfl rfl rfl rfl rfl rfl rfl rfl rfl rfl rfl (Nat.le_of_ble_eq_true rfl) ⟨Nat.le_of_ble_eq_true rfl, Nat.le_of_ble_eq_true rfl⟩ dX12_readBookLine_324 (fun z_324 => ?_)
                refine a_if_eq (pc := 327) X 341 dX12_readBookLine_327 rfl (fun c_327 => ?_) (fun c_327 => ?_)
                · have h := x_ifp c_327 h
                  refine a_iconst (pc := 341) X dX12_readBookLine_341 q_ic_0 ?_
                  have h := Option.some.inj h; subst h
                  exact a_zret (pc := 342) X x_Z0 x_Z0 dX12_readBookLine_342
                · have h := x_ifn c_327 h
                  refine a_aload_n (pc := 330) X 0 dX12_readBookLine_330 rfl rfl ?_
                  obtain ⟨y26, e_y26, h⟩ := x_bo_elim h
                  refine a_callV (pc := 331) (st2 := [.int y26.1]) (vs2 := [y26.2]) X [(0, 0, 20)] [some y26.2] 0 0 12 [] [] cv_RX12_231 (c_X12_readEnd (ad0 := ad0)  e_y26) rfl rfl rfl rfl rfl rfl rfl rfl rfl rfl rfl rfl rfl rfl rfl (Nat.le_of_ble_eq_true rfl) ⟨Nat.le_of_ble_eq_true rfl, Nat.le_of_ble_eq_true rfl⟩ dX12_readBookLine_331 (fun z_331 => ?_)
                  refine a_if_eq (pc := 334) X 341 dX12_readBookLine_334 rfl (fun c_334 => ?_) (fun c_334 => ?_)
                  · have h := x_ifp c_334 h
                    refine a_iconst (pc := 341) X dX12_readBookLine_341 q_ic_0 ?_
                    have h := Option.some.inj h; subst h
                    exact a_zret (pc := 342) X x_Z0 x_Z0 dX12_readBookLine_342
                  · have h := x_ifn c_334 h
                    refine a_iconst (pc := 337) X dX12_readBookLine_337 q_ic_1 ?_
                    refine a_goto (pc := 338) X 342 dX12_readBookLine_338 rfl ?_
                    have h := Option.some.inj h; subst h
                    exact a_zret (pc := 342) X x_Z1 x_Z1 dX12_readBookLine_342
              · have h := x_ifn c_180_6 h
                refine a_tout (pc := 180) X 343 dX12_readBookLine_180 (by have q0 := x_ne c_180_0; have q1 := x_ne c_180_1; have q2 := x_ne c_180_2; have q3 := x_ne c_180_3; have q4 := x_ne c_180_4; have q5 := x_ne c_180_5; have q6 := x_ne c_180_6; have q0 : (l1 : Int32).toInt ≠ 0 := q0; have q1 : (l1 : Int32).toInt ≠ 1 := q1; have q2 : (l1 : Int32).toInt ≠ 2 := q2; have q3 : (l1 : Int32).toInt ≠ 3 := q3; have q4 : (l1 : Int32).toInt ≠ 4 := q4; have q5 : (l1 : Int32).toInt ≠ 5 := q5; have q6 : (l1 : Int32).toInt ≠ 6 := q6; omega) rfl ?_
                refine a_aload_n (pc := 343) X 0 dX12_readBookLine_343 rfl rfl ?_
                refine a_iload_n (pc := 344) X 2 dX12_readBookLine_344 rfl rfl ?_
                refine a_iconst (pc := 345) X dX12_readBookLine_345 q_ic_1 ?_
                refine a_iadd (pc := 346) X dX12_readBookLine_346 ?_
                refine a_aload_n (pc := 347) X 0 dX12_readBookLine_347 rfl rfl ?_
                refine a_iconst (pc := 348) X dX12_readBookLine_348 q_ic_1 ?_
                refine a_bipush (pc := 349) X dX12_readBookLine_349 q_bp_60 ?_
                obtain ⟨y27, e_y27, h⟩ := x_bo_elim h
                refine a_callV (pc := 351) (st2 := [.int y27.1, .int (l2 + (1 : Int32)), .ref (ad0 0)]) (vs2 := [y27.2]) X [(0, 0, 20)] [some y27.2] 0 0 12 [.int (1 : Int32), .int (60 : Int32)] [.int (l2 + (1 : Int32)), .ref (ad0 0)] cv_RX12_196 (c_X12_readNumber (ad0 := ad0)  e_y27) rfl rfl rfl rfl rfl rfl rfl rfl rfl rfl rfl rfl rfl rfl rfl (Nat.le_of_ble_eq_true rfl) ⟨Nat.le_of_ble_eq_true rfl, Nat.le_of_ble_eq_true rfl⟩ dX12_readBookLine_351 (fun z_351 => ?_)
                obtain ⟨y28, e_y28, h⟩ := x_bo_elim h
                refine a_callV (pc := 354) (st2 := [.int y28.1]) (vs2 := [y28.2]) X [(0, 0, 20)] [some y28.2] 0 0 12 [.int (l2 + (1 : Int32)), .int y27.1] [] cv_RX12_401 (c_X12_keep (ad0 := ad0) z_351 e_y28) rfl rfl rfl rfl rfl rfl rfl rfl rfl rfl rfl rfl rfl rfl rfl (Nat.le_of_ble_eq_true rfl) ⟨Nat.le_of_ble_eq_true rfl, Nat.le_of_ble_eq_true rfl⟩ dX12_readBookLine_354 (fun z_354 => ?_)
                refine a_if_eq (pc := 357) X 371 dX12_readBookLine_357 rfl (fun c_357 => ?_) (fun c_357 => ?_)
                · have h := x_ifp c_357 h
                  refine a_iconst (pc := 371) X dX12_readBookLine_371 q_ic_0 ?_
                  have h := Option.some.inj h; subst h
                  exact a_zret (pc := 372) X x_Z0 x_Z0 dX12_readBookLine_372
                · have h := x_ifn c_357 h
                  refine a_aload_n (pc := 360) X 0 dX12_readBookLine_360 rfl rfl ?_
                  obtain ⟨y29, e_y29, h⟩ := x_bo_elim h
                  refine a_callV (pc := 361) (st2 := [.int y29.1]) (vs2 := [y29.2]) X [(0, 0, 20)] [some y29.2] 0 0 12 [] [] cv_RX12_231 (c_X12_readEnd (ad0 := ad0)  e_y29) rfl rfl rfl rfl rfl rfl rfl rfl rfl rfl rfl rfl rfl rfl rfl (Nat.le_of_ble_eq_true rfl) ⟨Nat.le_of_ble_eq_true rfl, Nat.le_of_ble_eq_true rfl⟩ dX12_readBookLine_361 (fun z_361 => ?_)
                  refine a_if_eq (pc := 364) X 371 dX12_readBookLine_364 rfl (fun c_364 => ?_) (fun c_364 => ?_)
                  · have h := x_ifp c_364 h
                    refine a_iconst (pc := 371) X dX12_readBookLine_371 q_ic_0 ?_
                    have h := Option.some.inj h; subst h
                    exact a_zret (pc := 372) X x_Z0 x_Z0 dX12_readBookLine_372
                  · have h := x_ifn c_364 h
                    refine a_iconst (pc := 367) X dX12_readBookLine_367 q_ic_1 ?_
                    refine a_goto (pc := 368) X 372 dX12_readBookLine_368 rfl ?_
                    have h := Option.some.inj h; subst h
                    exact a_zret (pc := 372) X x_Z1 x_Z1 dX12_readBookLine_372
set_option maxRecDepth 100000 in
set_option maxHeartbeats 4000000 in
theorem w_X12_readBookLine_102 {p : Program} {l : Launch} {e : Env} {s : State} {m : MethodId} {args : Array Value} {below : List Frame} {meth : Method} {c : Code} {D : va_G} {tc : Nat → ClassId} {aK aV : Nat → Nat} {A : Nat → Prop} {ad0 : Nat → Nat}  (X : Cx p s m args meth c cX12_readBookLine 3 (some .boolean) RX12 D tc aK aV A [(shModel, ad0)])  {o : Int32 × XM}  {w0 : XM} {l1 : Int32}  (h : f_X12_readBookLine_102   w0 l1 = some o) : aW p l e (x_Rm 5) s m args below meth c D tc A 3 [(shModel, ad0)] (some (.int o.1)) (x_Z o.1) [o.2] 102 [(0, .ref (ad0 0)), (1, .int l1)] [] [w0] := by
  unfold f_X12_readBookLine_102 at h
  refine a_aload_n (pc := 102) X 0 dX12_readBookLine_102 rfl rfl ?_
  refine a_getI (pc := 103) X 0 fl_RX12_407 rfl rfl rfl rfl dX12_readBookLine_103 ?_
  refine a_bipush (pc := 106) X dX12_readBookLine_106 q_bp_40 ?_
  refine a_icmp_ne (pc := 108) X 117 dX12_readBookLine_108 rfl (fun c_108 => ?_) (fun c_108 => ?_)
  · have h := x_ifn c_108 h
    refine a_iconst (pc := 117) X dX12_readBookLine_117 q_ic_3 ?_
    refine a_aload_n (pc := 118) X 0 dX12_readBookLine_118 rfl rfl ?_
    refine a_getI (pc := 119) X 0 fl_RX12_407 rfl rfl rfl rfl dX12_readBookLine_119 ?_
    refine a_imul (pc := 122) X dX12_readBookLine_122 ?_
    obtain ⟨y30, e_y30, h⟩ := x_lt_elim h
    refine a_ni e_y30 ?_
    refine a_istore_n (pc := 123) X [(2, .int y30), (0, .ref (ad0 0)), (1, .int l1)] dX12_readBookLine_123 rfl (by decide) rfl ?_
    refine a_aload_n (pc := 124) X 1 dX12_readBookLine_124 rfl rfl ?_
    refine a_getR (pc := 125) X 0 17 17 fl_RX12_154 rfl rfl rfl rfl rfl dX12_readBookLine_125 ?_
    refine a_iload_n (pc := 128) X 0 dX12_readBookLine_128 rfl rfl ?_
    refine a_iload_n (pc := 129) X 2 dX12_readBookLine_129 rfl rfl ?_
    obtain ⟨c_130, h⟩ := x_ck_elim h
    refine a_iast (pc := 130) X 0 rfl rfl rfl c_130 dX12_readBookLine_130 ?_
    obtain ⟨m31, e_m31, h⟩ := x_lt_elim h
    refine a_nm (vs2 := [m31]) (congrArg (fun q : XM => [q]) e_m31) ?_
    refine a_aload_n (pc := 131) X 1 dX12_readBookLine_131 rfl rfl ?_
    refine a_getR (pc := 132) X 0 17 17 fl_RX12_154 rfl rfl rfl rfl rfl dX12_readBookLine_132 ?_
    refine a_iload_n (pc := 135) X 0 dX12_readBookLine_135 rfl rfl ?_
    refine a_iconst (pc := 136) X dX12_readBookLine_136 q_ic_1 ?_
    refine a_iadd (pc := 137) X dX12_readBookLine_137 ?_
    refine a_iload_n (pc := 138) X 2 dX12_readBookLine_138 rfl rfl ?_
    refine a_if_ne (pc := 139) X 164 dX12_readBookLine_139 rfl (fun c_139 => ?_) (fun c_139 => ?_)
    · have h := x_ifn c_139 h
      refine a_iconst (pc := 164) X dX12_readBookLine_164 q_ic_0 ?_
      refine a_sub [1, 2, 0] rfl ?_
      exact w_X12_readBookLine_165 X     h
    · have h := x_ifp c_139 h
      refine a_aload_n (pc := 142) X 1 dX12_readBookLine_142 rfl rfl ?_
      refine a_getR (pc := 143) X 0 7 7 fl_RX12_113 rfl rfl rfl rfl rfl dX12_readBookLine_143 ?_
      refine a_bipush (pc := 146) X dX12_readBookLine_146 q_bp_14 ?_
      refine a_aload_n (pc := 148) X 1 dX12_readBookLine_148 rfl rfl ?_
      refine a_getR (pc := 149) X 0 2 2 fl_RX12_98 rfl rfl rfl rfl rfl dX12_readBookLine_149 ?_
      refine a_iconst (pc := 152) X dX12_readBookLine_152 q_ic_3 ?_
      refine a_iald (pc := 153) X 0 rfl rfl rfl (x_inl (by decide)) dX12_readBookLine_153 ?_
      refine a_aload_n (pc := 154) X 1 dX12_readBookLine_154 rfl rfl ?_
      refine a_getL (pc := 155) X 0 fl_RX12_43 rfl rfl rfl rfl dX12_readBookLine_155 ?_
      obtain ⟨y32, e_y32, h⟩ := x_bo_elim h
      refine a_callS (pc := 158) (st2 := [.int y32, .int (y30 + (1 : Int32)), .ref (ad0 17)]) (vs2 := [m31]) X [(0, 7, 1)] [none] [.ref (ad0 7), .int (14 : Int32), .int (x_ga m31 2 (3 : Int32)), .long (m31.2 0 12)] [.int (y30 + (1 : Int32)), .ref (ad0 17)] cv_RX12_166 (c_X12_findIn (ad0 := (fun i => ad0 (i + 7)))  e_y32) rfl rfl rfl rfl rfl rfl rfl rfl rfl rfl rfl (Nat.le_of_ble_eq_true rfl) ⟨Nat.le_of_ble_eq_true rfl, Nat.le_of_ble_eq_true rfl⟩ dX12_readBookLine_158 (fun _ => ?_)
      refine a_goto (pc := 161) X 165 dX12_readBookLine_161 rfl ?_
      refine a_sub [1, 2, 0] rfl ?_
      exact w_X12_readBookLine_165 X     h
  · have h := x_ifp c_108 h
    refine a_aload_n (pc := 111) X 0 dX12_readBookLine_111 rfl rfl ?_
    refine a_iconst (pc := 112) X dX12_readBookLine_112 q_ic_4 ?_
    obtain ⟨y33, e_y33, h⟩ := x_lt_elim h
    refine a_callV (pc := 113) (st2 := [.int y33.1]) (vs2 := [y33.2]) X [(0, 0, 20)] [some y33.2] 0 0 12 [.int (4 : Int32)] [] cv_RX12_72 (c_X12_bad (ad0 := ad0)  e_y33) rfl rfl rfl rfl rfl rfl rfl rfl rfl rfl rfl rfl rfl rfl rfl (Nat.le_of_ble_eq_true rfl) ⟨Nat.le_of_ble_eq_true rfl, Nat.le_of_ble_eq_true rfl⟩ dX12_readBookLine_113 (fun z_113 => ?_)
    have h := Option.some.inj h; subst h
    exact a_zret (pc := 116) X z_113 z_113 dX12_readBookLine_116
set_option maxRecDepth 100000 in
set_option maxHeartbeats 4000000 in
theorem w_X12_readBookLine_55 {p : Program} {l : Launch} {e : Env} {s : State} {m : MethodId} {args : Array Value} {below : List Frame} {meth : Method} {c : Code} {D : va_G} {tc : Nat → ClassId} {aK aV : Nat → Nat} {A : Nat → Prop} {ad0 : Nat → Nat}  (X : Cx p s m args meth c cX12_readBookLine 3 (some .boolean) RX12 D tc aK aV A [(shModel, ad0)])  {o : Int32 × XM}  {w0 : XM} {s0 : Int32}  (h : f_X12_readBookLine_55   w0 s0 = some o) : aW p l e (x_Rm 5) s m args below meth c D tc A 3 [(shModel, ad0)] (some (.int o.1)) (x_Z o.1) [o.2] 55 [(0, .ref (ad0 0))] [.int s0] [w0] := by
  unfold f_X12_readBookLine_55 at h
  refine a_istore_n (pc := 55) X [(1, .int s0), (0, .ref (ad0 0))] dX12_readBookLine_55 rfl (by decide) rfl ?_
  refine a_iload_n (pc := 56) X 0 dX12_readBookLine_56 rfl rfl ?_
  refine a_if_ne (pc := 57) X 102 dX12_readBookLine_57 rfl (fun c_57 => ?_) (fun c_57 => ?_)
  · have h := x_ifn c_57 h
    refine a_sub [1, 0] rfl ?_
    exact w_X12_readBookLine_102 X     h
  · have h := x_ifp c_57 h
    refine a_aload_n (pc := 60) X 1 dX12_readBookLine_60 rfl rfl ?_
    obtain ⟨y34, e_y34, h⟩ := x_bo_elim h
    refine a_callV (pc := 61) (st2 := [.int y34]) (vs2 := [w0]) X [(0, 0, 20)] [none] 0 0 12 [] [] cv_RX12_170 (c_X12_isName (ad0 := ad0)  e_y34) rfl rfl rfl rfl rfl rfl rfl rfl rfl rfl rfl rfl rfl rfl rfl (Nat.le_of_ble_eq_true rfl) ⟨Nat.le_of_ble_eq_true rfl, Nat.le_of_ble_eq_true rfl⟩ dX12_readBookLine_61 (fun z_61 => ?_)
    refine a_if_ne (pc := 64) X 73 dX12_readBookLine_64 rfl (fun c_64 => ?_) (fun c_64 => ?_)
    · have h := x_ifn c_64 h
      refine a_aload_n (pc := 73) X 1 dX12_readBookLine_73 rfl rfl ?_
      refine a_getR (pc := 74) X 0 7 7 fl_RX12_113 rfl rfl rfl rfl rfl dX12_readBookLine_74 ?_
      refine a_bipush (pc := 77) X dX12_readBookLine_77 q_bp_14 ?_
      refine a_aload_n (pc := 79) X 1 dX12_readBookLine_79 rfl rfl ?_
      refine a_getR (pc := 80) X 0 2 2 fl_RX12_98 rfl rfl rfl rfl rfl dX12_readBookLine_80 ?_
      refine a_iconst (pc := 83) X dX12_readBookLine_83 q_ic_3 ?_
      refine a_iald (pc := 84) X 0 rfl rfl rfl (x_inl (by decide)) dX12_readBookLine_84 ?_
      refine a_aload_n (pc := 85) X 1 dX12_readBookLine_85 rfl rfl ?_
      refine a_getL (pc := 86) X 0 fl_RX12_43 rfl rfl rfl rfl dX12_readBookLine_86 ?_
      obtain ⟨y35, e_y35, h⟩ := x_bo_elim h
      refine a_callS (pc := 89) (st2 := [.int y35]) (vs2 := [w0]) X [(0, 7, 1)] [none] [.ref (ad0 7), .int (14 : Int32), .int (x_ga w0 2 (3 : Int32)), .long (w0.2 0 12)] [] cv_RX12_166 (c_X12_findIn (ad0 := (fun i => ad0 (i + 7)))  e_y35) rfl rfl rfl rfl rfl rfl rfl rfl rfl rfl rfl (Nat.le_of_ble_eq_true rfl) ⟨Nat.le_of_ble_eq_true rfl, Nat.le_of_ble_eq_true rfl⟩ dX12_readBookLine_89 (fun _ => ?_)
      refine a_iconst (pc := 92) X dX12_readBookLine_92 q_ic_m1 ?_
      refine a_icmp_ne (pc := 93) X 102 dX12_readBookLine_93 rfl (fun c_93 => ?_) (fun c_93 => ?_)
      · have h := x_ifn c_93 h
        refine a_sub [1, 0] rfl ?_
        exact w_X12_readBookLine_102 X     h
      · have h := x_ifp c_93 h
        refine a_aload_n (pc := 96) X 1 dX12_readBookLine_96 rfl rfl ?_
        refine a_iconst (pc := 97) X dX12_readBookLine_97 q_ic_3 ?_
        obtain ⟨y36, e_y36, h⟩ := x_lt_elim h
        refine a_callV (pc := 98) (st2 := [.int y36.1]) (vs2 := [y36.2]) X [(0, 0, 20)] [some y36.2] 0 0 12 [.int (3 : Int32)] [] cv_RX12_72 (c_X12_bad (ad0 := ad0)  e_y36) rfl rfl rfl rfl rfl rfl rfl rfl rfl rfl rfl rfl rfl rfl rfl (Nat.le_of_ble_eq_true rfl) ⟨Nat.le_of_ble_eq_true rfl, Nat.le_of_ble_eq_true rfl⟩ dX12_readBookLine_98 (fun z_98 => ?_)
        have h := Option.some.inj h; subst h
        exact a_zret (pc := 101) X z_98 z_98 dX12_readBookLine_101
    · have h := x_ifp c_64 h
      refine a_aload_n (pc := 67) X 1 dX12_readBookLine_67 rfl rfl ?_
      refine a_iconst (pc := 68) X dX12_readBookLine_68 q_ic_1 ?_
      obtain ⟨y37, e_y37, h⟩ := x_lt_elim h
      refine a_callV (pc := 69) (st2 := [.int y37.1]) (vs2 := [y37.2]) X [(0, 0, 20)] [some y37.2] 0 0 12 [.int (1 : Int32)] [] cv_RX12_72 (c_X12_bad (ad0 := ad0)  e_y37) rfl rfl rfl rfl rfl rfl rfl rfl rfl rfl rfl rfl rfl rfl rfl (Nat.le_of_ble_eq_true rfl) ⟨Nat.le_of_ble_eq_true rfl, Nat.le_of_ble_eq_true rfl⟩ dX12_readBookLine_69 (fun z_69 => ?_)
      have h := Option.some.inj h; subst h
      exact a_zret (pc := 72) X z_69 z_69 dX12_readBookLine_72
set_option maxRecDepth 100000 in
set_option maxHeartbeats 4000000 in
theorem c_X12_readBookLine {l : Launch}  {ad0 : Nat → Nat} {v0 : XM}   {o : Int32 × XM} (h : f_X12_readBookLine v0 = some o) : CT l yX12_readBookLine cX12_readBookLine 3 (some .boolean) 5 [(shModel, ad0)] [v0] (fun aK => [.ref (ad0 0)]) (some (.int o.1)) (x_Z o.1) [o.2] := by
  refine CT_of (by decide) (fun _ => Nat.le_of_ble_eq_true rfl) ?_
  intro p e s m args below meth c D tc aK aV A X
  have X : Cx p s m args meth c cX12_readBookLine 3 (some .boolean) RX12 D tc aK aV A [(shModel, ad0)] := X
  show aW p l e (x_Rm 5) s m args below meth c D tc A 3 [(shModel, ad0)] (some (.int o.1)) (x_Z o.1) [o.2] 0 [(0, .ref (ad0 0))] [] [v0]
  unfold f_X12_readBookLine at h
  refine a_aload_n (pc := 0) X 0 dX12_readBookLine_0 rfl rfl ?_
  refine a_bipush (pc := 1) X dX12_readBookLine_1 q_bp_13 ?_
  obtain ⟨y38, e_y38, h⟩ := x_lt_elim h
  refine a_callV (pc := 3) (st2 := [.int y38]) (vs2 := [v0]) X [(0, 0, 20)] [none] 0 0 12 [.int (13 : Int32)] [] cv_RX12_180 (c_X12_isWord (ad0 := ad0)  e_y38) rfl rfl rfl rfl rfl rfl rfl rfl rfl rfl rfl rfl rfl rfl rfl (Nat.le_of_ble_eq_true rfl) ⟨Nat.le_of_ble_eq_true rfl, Nat.le_of_ble_eq_true rfl⟩ dX12_readBookLine_3 (fun z_3 => ?_)
  refine a_if_eq (pc := 6) X 13 dX12_readBookLine_6 rfl (fun c_6 => ?_) (fun c_6 => ?_)
  · have h := x_ifp c_6 h
    refine a_aload_n (pc := 13) X 0 dX12_readBookLine_13 rfl rfl ?_
    refine a_bipush (pc := 14) X dX12_readBookLine_14 q_bp_14 ?_
    obtain ⟨y39, e_y39, h⟩ := x_lt_elim h
    refine a_callV (pc := 16) (st2 := [.int y39]) (vs2 := [v0]) X [(0, 0, 20)] [none] 0 0 12 [.int (14 : Int32)] [] cv_RX12_180 (c_X12_isWord (ad0 := ad0)  e_y39) rfl rfl rfl rfl rfl rfl rfl rfl rfl rfl rfl rfl rfl rfl rfl (Nat.le_of_ble_eq_true rfl) ⟨Nat.le_of_ble_eq_true rfl, Nat.le_of_ble_eq_true rfl⟩ dX12_readBookLine_16 (fun z_16 => ?_)
    refine a_if_eq (pc := 19) X 26 dX12_readBookLine_19 rfl (fun c_19 => ?_) (fun c_19 => ?_)
    · have h := x_ifp c_19 h
      refine a_aload_n (pc := 26) X 0 dX12_readBookLine_26 rfl rfl ?_
      refine a_bipush (pc := 27) X dX12_readBookLine_27 q_bp_15 ?_
      obtain ⟨y40, e_y40, h⟩ := x_lt_elim h
      refine a_callV (pc := 29) (st2 := [.int y40]) (vs2 := [v0]) X [(0, 0, 20)] [none] 0 0 12 [.int (15 : Int32)] [] cv_RX12_180 (c_X12_isWord (ad0 := ad0)  e_y40) rfl rfl rfl rfl rfl rfl rfl rfl rfl rfl rfl rfl rfl rfl rfl (Nat.le_of_ble_eq_true rfl) ⟨Nat.le_of_ble_eq_true rfl, Nat.le_of_ble_eq_true rfl⟩ dX12_readBookLine_29 (fun z_29 => ?_)
      refine a_if_eq (pc := 32) X 40 dX12_readBookLine_32 rfl (fun c_32 => ?_) (fun c_32 => ?_)
      · have h := x_ifp c_32 h
        refine a_aload_n (pc := 40) X 0 dX12_readBookLine_40 rfl rfl ?_
        refine a_bipush (pc := 41) X dX12_readBookLine_41 q_bp_16 ?_
        obtain ⟨y41, e_y41, h⟩ := x_lt_elim h
        refine a_callV (pc := 43) (st2 := [.int y41]) (vs2 := [v0]) X [(0, 0, 20)] [none] 0 0 12 [.int (16 : Int32)] [] cv_RX12_180 (c_X12_isWord (ad0 := ad0)  e_y41) rfl rfl rfl rfl rfl rfl rfl rfl rfl rfl rfl rfl rfl rfl rfl (Nat.le_of_ble_eq_true rfl) ⟨Nat.le_of_ble_eq_true rfl, Nat.le_of_ble_eq_true rfl⟩ dX12_readBookLine_43 (fun z_43 => ?_)
        refine a_if_eq (pc := 46) X 54 dX12_readBookLine_46 rfl (fun c_46 => ?_) (fun c_46 => ?_)
        · have h := x_ifp c_46 h
          refine a_iconst (pc := 54) X dX12_readBookLine_54 q_ic_0 ?_
          exact w_X12_readBookLine_55 X     h
        · have h := x_ifn c_46 h
          refine a_bipush (pc := 49) X dX12_readBookLine_49 q_bp_7 ?_
          refine a_goto (pc := 51) X 55 dX12_readBookLine_51 rfl ?_
          exact w_X12_readBookLine_55 X     h
      · have h := x_ifn c_32 h
        refine a_bipush (pc := 35) X dX12_readBookLine_35 q_bp_6 ?_
        refine a_goto (pc := 37) X 55 dX12_readBookLine_37 rfl ?_
        exact w_X12_readBookLine_55 X     h
    · have h := x_ifn c_19 h
      refine a_iconst (pc := 22) X dX12_readBookLine_22 q_ic_5 ?_
      refine a_goto (pc := 23) X 55 dX12_readBookLine_23 rfl ?_
      exact w_X12_readBookLine_55 X     h
  · have h := x_ifn c_6 h
    refine a_iconst (pc := 9) X dX12_readBookLine_9 q_ic_4 ?_
    refine a_goto (pc := 10) X 55 dX12_readBookLine_10 rfl ?_
    exact w_X12_readBookLine_55 X     h
theorem dX12_goBy_0 : decode cX12_goBy 0 = .ok (.aload_n 0, 1) := by decide +kernel
theorem dX12_goBy_1 : decode cX12_goBy 1 = .ok (.getfield 154, 3) := by decide +kernel
theorem dX12_goBy_4 : decode cX12_goBy 4 = .ok (.iload_n 1, 1) := by decide +kernel
theorem dX12_goBy_5 : decode cX12_goBy 5 = .ok (.iaload, 1) := by decide +kernel
theorem dX12_goBy_6 : decode cX12_goBy 6 = .ok (.istore_n 2, 1) := by decide +kernel
theorem dX12_goBy_7 : decode cX12_goBy 7 = .ok (.aload_n 0, 1) := by decide +kernel
theorem dX12_goBy_8 : decode cX12_goBy 8 = .ok (.getfield 154, 3) := by decide +kernel
theorem dX12_goBy_11 : decode cX12_goBy 11 = .ok (.iload_n 1, 1) := by decide +kernel
theorem dX12_goBy_12 : decode cX12_goBy 12 = .ok (.iconst 1, 1) := by decide +kernel
theorem dX12_goBy_13 : decode cX12_goBy 13 = .ok (.iadd, 1) := by decide +kernel
theorem dX12_goBy_14 : decode cX12_goBy 14 = .ok (.iaload, 1) := by decide +kernel
theorem dX12_goBy_15 : decode cX12_goBy 15 = .ok (.istore_n 3, 1) := by decide +kernel
theorem dX12_goBy_16 : decode cX12_goBy 16 = .ok (.aload_n 0, 1) := by decide +kernel
theorem dX12_goBy_17 : decode cX12_goBy 17 = .ok (.getfield 154, 3) := by decide +kernel
theorem dX12_goBy_20 : decode cX12_goBy 20 = .ok (.iload_n 1, 1) := by decide +kernel
theorem dX12_goBy_21 : decode cX12_goBy 21 = .ok (.iconst 2, 1) := by decide +kernel
theorem dX12_goBy_22 : decode cX12_goBy 22 = .ok (.iadd, 1) := by decide +kernel
theorem dX12_goBy_23 : decode cX12_goBy 23 = .ok (.iaload, 1) := by decide +kernel
theorem dX12_goBy_24 : decode cX12_goBy 24 = .ok (.istore 4, 2) := by decide +kernel
theorem dX12_goBy_26 : decode cX12_goBy 26 = .ok (.iload_n 2, 1) := by decide +kernel
theorem dX12_goBy_27 : decode cX12_goBy 27 = .ok (.bipush 7, 2) := by decide +kernel
theorem dX12_goBy_29 : decode cX12_goBy 29 = .ok (.if_icmp .ne 29, 3) := by decide +kernel
theorem dX12_goBy_32 : decode cX12_goBy 32 = .ok (.aload_n 0, 1) := by decide +kernel
theorem dX12_goBy_33 : decode cX12_goBy 33 = .ok (.getfield 98, 3) := by decide +kernel
theorem dX12_goBy_36 : decode cX12_goBy 36 = .ok (.bipush 70, 2) := by decide +kernel
theorem dX12_goBy_38 : decode cX12_goBy 38 = .ok (.iaload, 1) := by decide +kernel
theorem dX12_goBy_39 : decode cX12_goBy 39 = .ok (.iload_n 3, 1) := by decide +kernel
theorem dX12_goBy_40 : decode cX12_goBy 40 = .ok (.iadd, 1) := by decide +kernel
theorem dX12_goBy_41 : decode cX12_goBy 41 = .ok (.sipush 400, 3) := by decide +kernel
theorem dX12_goBy_44 : decode cX12_goBy 44 = .ok (.if_icmp .le 6, 3) := by decide +kernel
theorem dX12_goBy_47 : decode cX12_goBy 47 = .ok (.bipush 71, 2) := by decide +kernel
theorem dX12_goBy_49 : decode cX12_goBy 49 = .ok (.ireturn, 1) := by decide +kernel
theorem dX12_goBy_50 : decode cX12_goBy 50 = .ok (.aload_n 0, 1) := by decide +kernel
theorem dX12_goBy_51 : decode cX12_goBy 51 = .ok (.iload_n 3, 1) := by decide +kernel
theorem dX12_goBy_52 : decode cX12_goBy 52 = .ok (.invokevirtual 324, 3) := by decide +kernel
theorem dX12_goBy_55 : decode cX12_goBy 55 = .ok (.pop, 1) := by decide +kernel
theorem dX12_goBy_56 : decode cX12_goBy 56 = .ok (.iconst 0, 1) := by decide +kernel
theorem dX12_goBy_57 : decode cX12_goBy 57 = .ok (.ireturn, 1) := by decide +kernel
theorem dX12_goBy_58 : decode cX12_goBy 58 = .ok (.iload_n 2, 1) := by decide +kernel
theorem dX12_goBy_59 : decode cX12_goBy 59 = .ok (.ifCond .ne 12, 3) := by decide +kernel
theorem dX12_goBy_62 : decode cX12_goBy 62 = .ok (.aload_n 0, 1) := by decide +kernel
theorem dX12_goBy_63 : decode cX12_goBy 63 = .ok (.iload 4, 2) := by decide +kernel
theorem dX12_goBy_65 : decode cX12_goBy 65 = .ok (.invokevirtual 280, 3) := by decide +kernel
theorem dX12_goBy_68 : decode cX12_goBy 68 = .ok (.ifCond .eq 21, 3) := by decide +kernel
theorem dX12_goBy_71 : decode cX12_goBy 71 = .ok (.iload_n 2, 1) := by decide +kernel
theorem dX12_goBy_72 : decode cX12_goBy 72 = .ok (.iconst 4, 1) := by decide +kernel
theorem dX12_goBy_73 : decode cX12_goBy 73 = .ok (.if_icmp .eq 8, 3) := by decide +kernel
theorem dX12_goBy_76 : decode cX12_goBy 76 = .ok (.iload_n 2, 1) := by decide +kernel
theorem dX12_goBy_77 : decode cX12_goBy 77 = .ok (.iconst 5, 1) := by decide +kernel
theorem dX12_goBy_78 : decode cX12_goBy 78 = .ok (.if_icmp .ne 19, 3) := by decide +kernel
theorem dX12_goBy_81 : decode cX12_goBy 81 = .ok (.aload_n 0, 1) := by decide +kernel
theorem dX12_goBy_82 : decode cX12_goBy 82 = .ok (.iload_n 3, 1) := by decide +kernel
theorem dX12_goBy_83 : decode cX12_goBy 83 = .ok (.invokevirtual 280, 3) := by decide +kernel
theorem dX12_goBy_86 : decode cX12_goBy 86 = .ok (.ifCond .ne 11, 3) := by decide +kernel
theorem dX12_goBy_89 : decode cX12_goBy 89 = .ok (.bipush 10, 2) := by decide +kernel
theorem dX12_goBy_91 : decode cX12_goBy 91 = .ok (.iload_n 2, 1) := by decide +kernel
theorem dX12_goBy_92 : decode cX12_goBy 92 = .ok (.imul, 1) := by decide +kernel
theorem dX12_goBy_93 : decode cX12_goBy 93 = .ok (.bipush 9, 2) := by decide +kernel
theorem dX12_goBy_95 : decode cX12_goBy 95 = .ok (.iadd, 1) := by decide +kernel
theorem dX12_goBy_96 : decode cX12_goBy 96 = .ok (.ireturn, 1) := by decide +kernel
theorem dX12_goBy_97 : decode cX12_goBy 97 = .ok (.aload_n 0, 1) := by decide +kernel
theorem dX12_goBy_98 : decode cX12_goBy 98 = .ok (.iload_n 2, 1) := by decide +kernel
theorem dX12_goBy_99 : decode cX12_goBy 99 = .ok (.iload_n 3, 1) := by decide +kernel
theorem dX12_goBy_100 : decode cX12_goBy 100 = .ok (.iload 4, 2) := by decide +kernel
theorem dX12_goBy_102 : decode cX12_goBy 102 = .ok (.invokevirtual 298, 3) := by decide +kernel
theorem dX12_goBy_105 : decode cX12_goBy 105 = .ok (.istore 5, 2) := by decide +kernel
theorem dX12_goBy_107 : decode cX12_goBy 107 = .ok (.iload 5, 2) := by decide +kernel
theorem dX12_goBy_109 : decode cX12_goBy 109 = .ok (.ifCond .eq 11, 3) := by decide +kernel
theorem dX12_goBy_112 : decode cX12_goBy 112 = .ok (.bipush 10, 2) := by decide +kernel
theorem dX12_goBy_114 : decode cX12_goBy 114 = .ok (.iload_n 2, 1) := by decide +kernel
theorem dX12_goBy_115 : decode cX12_goBy 115 = .ok (.imul, 1) := by decide +kernel
theorem dX12_goBy_116 : decode cX12_goBy 116 = .ok (.iload 5, 2) := by decide +kernel
theorem dX12_goBy_118 : decode cX12_goBy 118 = .ok (.iadd, 1) := by decide +kernel
theorem dX12_goBy_119 : decode cX12_goBy 119 = .ok (.ireturn, 1) := by decide +kernel
theorem dX12_goBy_120 : decode cX12_goBy 120 = .ok (.aload_n 0, 1) := by decide +kernel
theorem dX12_goBy_121 : decode cX12_goBy 121 = .ok (.iload_n 2, 1) := by decide +kernel
theorem dX12_goBy_122 : decode cX12_goBy 122 = .ok (.iload_n 3, 1) := by decide +kernel
theorem dX12_goBy_123 : decode cX12_goBy 123 = .ok (.iload 4, 2) := by decide +kernel
theorem dX12_goBy_125 : decode cX12_goBy 125 = .ok (.invokevirtual 304, 3) := by decide +kernel
theorem dX12_goBy_128 : decode cX12_goBy 128 = .ok (.iconst 0, 1) := by decide +kernel
theorem dX12_goBy_129 : decode cX12_goBy 129 = .ok (.ireturn, 1) := by decide +kernel
def f_X12_goBy_89 (w0 : XM) (l2 : Int32) : Option (Int32 × XM) :=
  some (((10 : Int32) * l2) + (9 : Int32), w0)
def f_X12_goBy_97 (w0 : XM) (l2 : Int32) (l3 : Int32) (l4 : Int32) : Option (Int32 × XM) :=
  x_bo (f_X12_why w0 l2 l3 l4) (fun y1 =>
  if y1 = (0 : Int32) then
  (x_bo (f_X12_live w0 l2 l3 l4) (fun y2 =>
  some ((0 : Int32), y2)))
  else (some (((10 : Int32) * l2) + y1, w0)))
def f_X12_goBy_81 (w0 : XM) (l2 : Int32) (l3 : Int32) (l4 : Int32) : Option (Int32 × XM) :=
  x_lt (f_X12_isFold w0 l3) (fun y3 =>
  if y3 = (0 : Int32) then
  (f_X12_goBy_89   w0 l2)
  else (f_X12_goBy_97   w0 l2 l3 l4))
def f_X12_goBy_71 (w0 : XM) (l2 : Int32) (l3 : Int32) (l4 : Int32) : Option (Int32 × XM) :=
  if (l2 : Int32) = (4 : Int32) then
  (f_X12_goBy_81   w0 l2 l3 l4)
  else (if (l2 : Int32) = (5 : Int32) then
  (f_X12_goBy_81   w0 l2 l3 l4)
  else (f_X12_goBy_97   w0 l2 l3 l4))
def f_X12_goBy (v0 : XM) (x0 : Int32) : Option (Int32 × XM) :=
  x_ck x0 120 (
  x_ck (x0 + (1 : Int32)) 120 (
  x_lt (x_ga v0 17 (x0 + (1 : Int32))) (fun y4 =>
  x_ck (x0 + (2 : Int32)) 120 (
  x_lt (x_ga v0 17 (x0 + (2 : Int32))) (fun y5 =>
  if ((x_ga v0 17 x0) : Int32) = (7 : Int32) then
  (if (((x_ga v0 2 (70 : Int32)) + y4) : Int32) ≤ (400 : Int32) then
  (x_bo (f_X12_passHours v0 y4) (fun y7 =>
  some ((0 : Int32), y7.2)))
  else (some ((71 : Int32), v0)))
  else (if (x_ga v0 17 x0) = (0 : Int32) then
  (x_lt (f_X12_isFold v0 y5) (fun y6 =>
  if y6 = (0 : Int32) then
  (f_X12_goBy_89   v0 (x_ga v0 17 x0))
  else (f_X12_goBy_71   v0 (x_ga v0 17 x0) y4 y5)))
  else (f_X12_goBy_71   v0 (x_ga v0 17 x0) y4 y5)))))))
set_option maxRecDepth 100000 in
set_option maxHeartbeats 4000000 in
theorem w_X12_goBy_89 {p : Program} {l : Launch} {e : Env} {s : State} {m : MethodId} {args : Array Value} {below : List Frame} {meth : Method} {c : Code} {D : va_G} {tc : Nat → ClassId} {aK aV : Nat → Nat} {A : Nat → Prop} {ad0 : Nat → Nat}  (X : Cx p s m args meth c cX12_goBy 6 (some .int) RX12 D tc aK aV A [(shModel, ad0)])  {o : Int32 × XM}  {w0 : XM} {l2 : Int32}  (h : f_X12_goBy_89   w0 l2 = some o) : aW p l e (x_Rm 6) s m args below meth c D tc A 6 [(shModel, ad0)] (some (.int o.1)) True [o.2] 89 [(2, .int l2)] [] [w0] := by
  unfold f_X12_goBy_89 at h
  refine a_bipush (pc := 89) X dX12_goBy_89 q_bp_10 ?_
  refine a_iload_n (pc := 91) X 0 dX12_goBy_91 rfl rfl ?_
  refine a_imul (pc := 92) X dX12_goBy_92 ?_
  refine a_bipush (pc := 93) X dX12_goBy_93 q_bp_9 ?_
  refine a_iadd (pc := 95) X dX12_goBy_95 ?_
  have h := Option.some.inj h; subst h
  exact a_iret (pc := 96) X trivial dX12_goBy_96
set_option maxRecDepth 100000 in
set_option maxHeartbeats 4000000 in
theorem w_X12_goBy_97 {p : Program} {l : Launch} {e : Env} {s : State} {m : MethodId} {args : Array Value} {below : List Frame} {meth : Method} {c : Code} {D : va_G} {tc : Nat → ClassId} {aK aV : Nat → Nat} {A : Nat → Prop} {ad0 : Nat → Nat}  (X : Cx p s m args meth c cX12_goBy 6 (some .int) RX12 D tc aK aV A [(shModel, ad0)])  {o : Int32 × XM}  {w0 : XM} {l2 : Int32} {l3 : Int32} {l4 : Int32}  (h : f_X12_goBy_97   w0 l2 l3 l4 = some o) : aW p l e (x_Rm 6) s m args below meth c D tc A 6 [(shModel, ad0)] (some (.int o.1)) True [o.2] 97 [(0, .ref (ad0 0)), (2, .int l2), (3, .int l3), (4, .int l4)] [] [w0] := by
  unfold f_X12_goBy_97 at h
  refine a_aload_n (pc := 97) X 0 dX12_goBy_97 rfl rfl ?_
  refine a_iload_n (pc := 98) X 1 dX12_goBy_98 rfl rfl ?_
  refine a_iload_n (pc := 99) X 2 dX12_goBy_99 rfl rfl ?_
  refine a_iload (pc := 100) X 3 dX12_goBy_100 rfl ?_
  obtain ⟨y1, e_y1, h⟩ := x_bo_elim h
  refine a_callV (pc := 102) (st2 := [.int y1]) (vs2 := [w0]) X [(0, 0, 20)] [none] 0 0 12 [.int l2, .int l3, .int l4] [] cv_RX12_298 (c_X12_why (ad0 := ad0)  e_y1) rfl rfl rfl rfl rfl rfl rfl rfl rfl rfl rfl rfl rfl rfl rfl (Nat.le_of_ble_eq_true rfl) ⟨Nat.le_of_ble_eq_true rfl, Nat.le_of_ble_eq_true rfl⟩ dX12_goBy_102 (fun _ => ?_)
  refine a_istore (pc := 105) X [(5, .int y1), (0, .ref (ad0 0)), (2, .int l2), (3, .int l3), (4, .int l4)] dX12_goBy_105 (by decide) rfl ?_
  refine a_iload (pc := 107) X 0 dX12_goBy_107 rfl ?_
  refine a_if_eq (pc := 109) X 120 dX12_goBy_109 rfl (fun c_109 => ?_) (fun c_109 => ?_)
  · have h := x_ifp c_109 h
    refine a_aload_n (pc := 120) X 1 dX12_goBy_120 rfl rfl ?_
    refine a_iload_n (pc := 121) X 2 dX12_goBy_121 rfl rfl ?_
    refine a_iload_n (pc := 122) X 3 dX12_goBy_122 rfl rfl ?_
    refine a_iload (pc := 123) X 4 dX12_goBy_123 rfl ?_
    obtain ⟨y2, e_y2, h⟩ := x_bo_elim h
    refine a_callV (pc := 125) (st2 := []) (vs2 := [y2]) X [(0, 0, 20)] [some y2] 0 0 12 [.int l2, .int l3, .int l4] [] cv_RX12_304 (c_X12_live (ad0 := ad0)  e_y2) rfl rfl rfl rfl rfl rfl rfl rfl rfl rfl rfl rfl rfl rfl rfl (Nat.le_of_ble_eq_true rfl) ⟨Nat.le_of_ble_eq_true rfl, Nat.le_of_ble_eq_true rfl⟩ dX12_goBy_125 (fun _ => ?_)
    refine a_iconst (pc := 128) X dX12_goBy_128 q_ic_0 ?_
    have h := Option.some.inj h; subst h
    exact a_iret (pc := 129) X trivial dX12_goBy_129
  · have h := x_ifn c_109 h
    refine a_bipush (pc := 112) X dX12_goBy_112 q_bp_10 ?_
    refine a_iload_n (pc := 114) X 2 dX12_goBy_114 rfl rfl ?_
    refine a_imul (pc := 115) X dX12_goBy_115 ?_
    refine a_iload (pc := 116) X 0 dX12_goBy_116 rfl ?_
    refine a_iadd (pc := 118) X dX12_goBy_118 ?_
    have h := Option.some.inj h; subst h
    exact a_iret (pc := 119) X trivial dX12_goBy_119
set_option maxRecDepth 100000 in
set_option maxHeartbeats 4000000 in
theorem w_X12_goBy_81 {p : Program} {l : Launch} {e : Env} {s : State} {m : MethodId} {args : Array Value} {below : List Frame} {meth : Method} {c : Code} {D : va_G} {tc : Nat → ClassId} {aK aV : Nat → Nat} {A : Nat → Prop} {ad0 : Nat → Nat}  (X : Cx p s m args meth c cX12_goBy 6 (some .int) RX12 D tc aK aV A [(shModel, ad0)])  {o : Int32 × XM}  {w0 : XM} {l2 : Int32} {l3 : Int32} {l4 : Int32}  (h : f_X12_goBy_81   w0 l2 l3 l4 = some o) : aW p l e (x_Rm 6) s m args below meth c D tc A 6 [(shModel, ad0)] (some (.int o.1)) True [o.2] 81 [(0, .ref (ad0 0)), (2, .int l2), (3, .int l3), (4, .int l4)] [] [w0] := by
  unfold f_X12_goBy_81 at h
  refine a_aload_n (pc := 81) X 0 dX12_goBy_81 rfl rfl ?_
  refine a_iload_n (pc := 82) X 2 dX12_goBy_82 rfl rfl ?_
  obtain ⟨y3, e_y3, h⟩ := x_lt_elim h
  refine a_callV (pc := 83) (st2 := [.int y3]) (vs2 := [w0]) X [(0, 0, 20)] [none] 0 0 12 [.int l3] [] cv_RX12_280 (c_X12_isFold (ad0 := ad0)  e_y3) rfl rfl rfl rfl rfl rfl rfl rfl rfl rfl rfl rfl rfl rfl rfl (Nat.le_of_ble_eq_true rfl) ⟨Nat.le_of_ble_eq_true rfl, Nat.le_of_ble_eq_true rfl⟩ dX12_goBy_83 (fun z_83 => ?_)
  refine a_if_ne (pc := 86) X 97 dX12_goBy_86 rfl (fun c_86 => ?_) (fun c_86 => ?_)
  · have h := x_ifn c_86 h
    exact w_X12_goBy_97 X     h
  · have h := x_ifp c_86 h
    refine a_sub [1] rfl ?_
    exact w_X12_goBy_89 X     h
set_option maxRecDepth 100000 in
set_option maxHeartbeats 4000000 in
theorem w_X12_goBy_71 {p : Program} {l : Launch} {e : Env} {s : State} {m : MethodId} {args : Array Value} {below : List Frame} {meth : Method} {c : Code} {D : va_G} {tc : Nat → ClassId} {aK aV : Nat → Nat} {A : Nat → Prop} {ad0 : Nat → Nat}  (X : Cx p s m args meth c cX12_goBy 6 (some .int) RX12 D tc aK aV A [(shModel, ad0)])  {o : Int32 × XM}  {w0 : XM} {l2 : Int32} {l3 : Int32} {l4 : Int32}  (h : f_X12_goBy_71   w0 l2 l3 l4 = some o) : aW p l e (x_Rm 6) s m args below meth c D tc A 6 [(shModel, ad0)] (some (.int o.1)) True [o.2] 71 [(0, .ref (ad0 0)), (2, .int l2), (3, .int l3), (4, .int l4)] [] [w0] := by
  unfold f_X12_goBy_71 at h
  refine a_iload_n (pc := 71) X 1 dX12_goBy_71 rfl rfl ?_
  refine a_iconst (pc := 72) X dX12_goBy_72 q_ic_4 ?_
  refine a_icmp_eq (pc := 73) X 81 dX12_goBy_73 rfl (fun c_73 => ?_) (fun c_73 => ?_)
  · have h := x_ifp c_73 h
    exact w_X12_goBy_81 X     h
  · have h := x_ifn c_73 h
    refine a_iload_n (pc := 76) X 1 dX12_goBy_76 rfl rfl ?_
    refine a_iconst (pc := 77) X dX12_goBy_77 q_ic_5 ?_
    refine a_icmp_ne (pc := 78) X 97 dX12_goBy_78 rfl (fun c_78 => ?_) (fun c_78 => ?_)
    · have h := x_ifn c_78 h
      exact w_X12_goBy_97 X     h
    · have h := x_ifp c_78 h
      exact w_X12_goBy_81 X     h
set_option maxRecDepth 100000 in
set_option maxHeartbeats 4000000 in
theorem c_X12_goBy {l : Launch}  {ad0 : Nat → Nat} {v0 : XM} {x0 : Int32}  {o : Int32 × XM} (h : f_X12_goBy v0 x0 = some o) : CT l yX12_goBy cX12_goBy 6 (some .int) 6 [(shModel, ad0)] [v0] (fun aK => [.ref (ad0 0), .int x0]) (some (.int o.1)) True [o.2] := by
  refine CT_of (by decide) (fun _ => Nat.le_of_ble_eq_true rfl) ?_
  intro p e s m args below meth c D tc aK aV A X
  have X : Cx p s m args meth c cX12_goBy 6 (some .int) RX12 D tc aK aV A [(shModel, ad0)] := X
  show aW p l e (x_Rm 6) s m args below meth c D tc A 6 [(shModel, ad0)] (some (.int o.1)) True [o.2] 0 [(0, .ref (ad0 0)), (1, .int x0)] [] [v0]
  unfold f_X12_goBy at h
  refine a_aload_n (pc := 0) X 0 dX12_goBy_0 rfl rfl ?_
  refine a_getR (pc := 1) X 0 17 17 fl_RX12_154 rfl rfl rfl rfl rfl dX12_goBy_1 ?_
  refine a_iload_n (pc := 4) X 1 dX12_goBy_4 rfl rfl ?_
  obtain ⟨c_5, h⟩ := x_ck_elim h
  refine a_iald (pc := 5) X 0 rfl rfl rfl c_5 dX12_goBy_5 ?_
  refine a_istore_n (pc := 6) X [(2, .int (x_ga v0 17 x0)), (0, .ref (ad0 0)), (1, .int x0)] dX12_goBy_6 rfl (by decide) rfl ?_
  refine a_aload_n (pc := 7) X 1 dX12_goBy_7 rfl rfl ?_
  refine a_getR (pc := 8) X 0 17 17 fl_RX12_154 rfl rfl rfl rfl rfl dX12_goBy_8 ?_
  refine a_iload_n (pc := 11) X 2 dX12_goBy_11 rfl rfl ?_
  refine a_iconst (pc := 12) X dX12_goBy_12 q_ic_1 ?_
  refine a_iadd (pc := 13) X dX12_goBy_13 ?_
  obtain ⟨c_14, h⟩ := x_ck_elim h
  refine a_iald (pc := 14) X 0 rfl rfl rfl c_14 dX12_goBy_14 ?_
  obtain ⟨y4, e_y4, h⟩ := x_lt_elim h
  refine a_ni e_y4 ?_
  refine a_istore_n (pc := 15) X [(3, .int y4), (2, .int (x_ga v0 17 x0)), (0, .ref (ad0 0)), (1, .int x0)] dX12_goBy_15 rfl (by decide) rfl ?_
  refine a_aload_n (pc := 16) X 2 dX12_goBy_16 rfl rfl ?_
  refine a_getR (pc := 17) X 0 17 17 fl_RX12_154 rfl rfl rfl rfl rfl dX12_goBy_17 ?_
  refine a_iload_n (pc := 20) X 3 dX12_goBy_20 rfl rfl ?_
  refine a_iconst (pc := 21) X dX12_goBy_21 q_ic_2 ?_
  refine a_iadd (pc := 22) X dX12_goBy_22 ?_
  obtain ⟨c_23, h⟩ := x_ck_elim h
  refine a_iald (pc := 23) X 0 rfl rfl rfl c_23 dX12_goBy_23 ?_
  obtain ⟨y5, e_y5, h⟩ := x_lt_elim h
  refine a_ni e_y5 ?_
  refine a_istore (pc := 24) X [(4, .int y5), (3, .int y4), (2, .int (x_ga v0 17 x0)), (0, .ref (ad0 0)), (1, .int x0)] dX12_goBy_24 (by decide) rfl ?_
  refine a_iload_n (pc := 26) X 2 dX12_goBy_26 rfl rfl ?_
  refine a_bipush (pc := 27) X dX12_goBy_27 q_bp_7 ?_
  refine a_icmp_ne (pc := 29) X 58 dX12_goBy_29 rfl (fun c_29 => ?_) (fun c_29 => ?_)
  · have h := x_ifn c_29 h
    refine a_iload_n (pc := 58) X 2 dX12_goBy_58 rfl rfl ?_
    refine a_if_ne (pc := 59) X 71 dX12_goBy_59 rfl (fun c_59 => ?_) (fun c_59 => ?_)
    · have h := x_ifn c_59 h
      refine a_sub [3, 2, 1, 0] rfl ?_
      exact w_X12_goBy_71 X     h
    · have h := x_ifp c_59 h
      refine a_aload_n (pc := 62) X 3 dX12_goBy_62 rfl rfl ?_
      refine a_iload (pc := 63) X 0 dX12_goBy_63 rfl ?_
      obtain ⟨y6, e_y6, h⟩ := x_lt_elim h
      refine a_callV (pc := 65) (st2 := [.int y6]) (vs2 := [v0]) X [(0, 0, 20)] [none] 0 0 12 [.int y5] [] cv_RX12_280 (c_X12_isFold (ad0 := ad0)  e_y6) rfl rfl rfl rfl rfl rfl rfl rfl rfl rfl rfl rfl rfl rfl rfl (Nat.le_of_ble_eq_true rfl) ⟨Nat.le_of_ble_eq_true rfl, Nat.le_of_ble_eq_true rfl⟩ dX12_goBy_65 (fun z_65 => ?_)
      refine a_if_eq (pc := 68) X 89 dX12_goBy_68 rfl (fun c_68 => ?_) (fun c_68 => ?_)
      · have h := x_ifp c_68 h
        refine a_sub [2] rfl ?_
        exact w_X12_goBy_89 X     h
      · have h := x_ifn c_68 h
        refine a_sub [3, 2, 1, 0] rfl ?_
        exact w_X12_goBy_71 X     h
  · have h := x_ifp c_29 h
    refine a_aload_n (pc := 32) X 3 dX12_goBy_32 rfl rfl ?_
    refine a_getR (pc := 33) X 0 2 2 fl_RX12_98 rfl rfl rfl rfl rfl dX12_goBy_33 ?_
    refine a_bipush (pc := 36) X dX12_goBy_36 q_bp_70 ?_
    refine a_iald (pc := 38) X 0 rfl rfl rfl (x_inl (by decide)) dX12_goBy_38 ?_
    refine a_iload_n (pc := 39) X 1 dX12_goBy_39 rfl rfl ?_
    refine a_iadd (pc := 40) X dX12_goBy_40 ?_
    refine a_sipush (pc := 41) X dX12_goBy_41 q_sp_400 ?_
    refine a_icmp_le (pc := 44) X 50 dX12_goBy_44 rfl (fun c_44 => ?_) (fun c_44 => ?_)
    · have h := x_ifp c_44 h
      refine a_aload_n (pc := 50) X 3 dX12_goBy_50 rfl rfl ?_
      refine a_iload_n (pc := 51) X 1 dX12_goBy_51 rfl rfl ?_
      obtain ⟨y7, e_y7, h⟩ := x_bo_elim h
      refine a_callV (pc := 52) (st2 := [.int y7.1]) (vs2 := [y7.2]) X [(0, 0, 20)] [some y7.2] 0 0 12 [.int y4] [] cv_RX12_324 (c_X12_passHours (ad0 := ad0)  e_y7) rfl rfl rfl rfl rfl rfl rfl rfl rfl rfl rfl rfl rfl rfl rfl (Nat.le_of_ble_eq_true rfl) ⟨Nat.le_of_ble_eq_true rfl, Nat.le_of_ble_eq_true rfl⟩ dX12_goBy_52 (fun _ => ?_)
      refine a_pop (pc := 55) X dX12_goBy_55 rfl ?_
      refine a_iconst (pc := 56) X dX12_goBy_56 q_ic_0 ?_
      have h := Option.some.inj h; subst h
      exact a_iret (pc := 57) X trivial dX12_goBy_57
    · have h := x_ifn c_44 h
      refine a_bipush (pc := 47) X dX12_goBy_47 q_bp_71 ?_
      have h := Option.some.inj h; subst h
      exact a_iret (pc := 49) X trivial dX12_goBy_49
theorem dX12_stay_0 : decode cX12_stay 0 = .ok (.iconst 0, 1) := by decide +kernel
theorem dX12_stay_1 : decode cX12_stay 1 = .ok (.istore_n 2, 1) := by decide +kernel
theorem dX12_stay_2 : decode cX12_stay 2 = .ok (.iload_n 2, 1) := by decide +kernel
theorem dX12_stay_3 : decode cX12_stay 3 = .ok (.bipush 41, 2) := by decide +kernel
theorem dX12_stay_5 : decode cX12_stay 5 = .ok (.if_icmp .ge 41, 3) := by decide +kernel
theorem dX12_stay_8 : decode cX12_stay 8 = .ok (.aload_n 0, 1) := by decide +kernel
theorem dX12_stay_9 : decode cX12_stay 9 = .ok (.getfield 98, 3) := by decide +kernel
theorem dX12_stay_12 : decode cX12_stay 12 = .ok (.bipush 70, 2) := by decide +kernel
theorem dX12_stay_14 : decode cX12_stay 14 = .ok (.iload_n 2, 1) := by decide +kernel
theorem dX12_stay_15 : decode cX12_stay 15 = .ok (.iadd, 1) := by decide +kernel
theorem dX12_stay_16 : decode cX12_stay 16 = .ok (.iaload, 1) := by decide +kernel
theorem dX12_stay_17 : decode cX12_stay 17 = .ok (.istore_n 3, 1) := by decide +kernel
theorem dX12_stay_18 : decode cX12_stay 18 = .ok (.aload_n 0, 1) := by decide +kernel
theorem dX12_stay_19 : decode cX12_stay 19 = .ok (.getfield 98, 3) := by decide +kernel
theorem dX12_stay_22 : decode cX12_stay 22 = .ok (.bipush 70, 2) := by decide +kernel
theorem dX12_stay_24 : decode cX12_stay 24 = .ok (.iload_n 2, 1) := by decide +kernel
theorem dX12_stay_25 : decode cX12_stay 25 = .ok (.iadd, 1) := by decide +kernel
theorem dX12_stay_26 : decode cX12_stay 26 = .ok (.aload_n 0, 1) := by decide +kernel
theorem dX12_stay_27 : decode cX12_stay 27 = .ok (.getfield 110, 3) := by decide +kernel
theorem dX12_stay_30 : decode cX12_stay 30 = .ok (.iload_n 2, 1) := by decide +kernel
theorem dX12_stay_31 : decode cX12_stay 31 = .ok (.iaload, 1) := by decide +kernel
theorem dX12_stay_32 : decode cX12_stay 32 = .ok (.iastore, 1) := by decide +kernel
theorem dX12_stay_33 : decode cX12_stay 33 = .ok (.aload_n 0, 1) := by decide +kernel
theorem dX12_stay_34 : decode cX12_stay 34 = .ok (.getfield 110, 3) := by decide +kernel
theorem dX12_stay_37 : decode cX12_stay 37 = .ok (.iload_n 2, 1) := by decide +kernel
theorem dX12_stay_38 : decode cX12_stay 38 = .ok (.iload_n 3, 1) := by decide +kernel
theorem dX12_stay_39 : decode cX12_stay 39 = .ok (.iastore, 1) := by decide +kernel
theorem dX12_stay_40 : decode cX12_stay 40 = .ok (.iinc 2 1, 3) := by decide +kernel
theorem dX12_stay_43 : decode cX12_stay 43 = .ok (.goto (-41), 3) := by decide +kernel
theorem dX12_stay_46 : decode cX12_stay 46 = .ok (.iload_n 1, 1) := by decide +kernel
theorem dX12_stay_47 : decode cX12_stay 47 = .ok (.ifCond .ne 4, 3) := by decide +kernel
theorem dX12_stay_50 : decode cX12_stay 50 = .ok (.return_, 1) := by decide +kernel
theorem dX12_stay_51 : decode cX12_stay 51 = .ok (.aload_n 0, 1) := by decide +kernel
theorem dX12_stay_52 : decode cX12_stay 52 = .ok (.invokevirtual 301, 3) := by decide +kernel
theorem dX12_stay_55 : decode cX12_stay 55 = .ok (.aload_n 0, 1) := by decide +kernel
theorem dX12_stay_56 : decode cX12_stay 56 = .ok (.invokevirtual 395, 3) := by decide +kernel
theorem dX12_stay_59 : decode cX12_stay 59 = .ok (.return_, 1) := by decide +kernel
def f_X12_stay_2 (k2 : XM → Int32 → Int32 → Option (XM)) (w0 : XM) (l1 : Int32) (l2 : Int32) : Option (XM) :=
  if ((41 : Int32) : Int32) ≤ l2 then
  (if l1 = (0 : Int32) then
  (some w0)
  else (x_bo (f_X12_snap w0) (fun y1 =>
  x_bo (f_X12_takeBack y1) (fun y2 =>
  some y2))))
  else (x_ck ((70 : Int32) + l2) 353 (
  x_lt (x_ga w0 2 ((70 : Int32) + l2)) (fun y3 =>
  x_ck l2 41 (
  x_ck ((70 : Int32) + l2) 353 (
  x_lt (x_pa w0 2 ((70 : Int32) + l2) (x_ga w0 6 l2)) (fun m4 =>
  x_ck l2 41 (
  x_lt (x_pa m4 6 l2 y3) (fun m5 =>
  k2 m5 l1 (l2 + 1)))))))))
def f_X12_stay (v0 : XM) (x0 : Int32) : Option (XM) :=
  x_lp (φ := XM → Int32 → Int32 → Option (XM)) (fun _ _ _ => none) (f_X12_stay_2  ) x_NN v0 x0 (0 : Int32)
set_option maxRecDepth 100000 in
set_option maxHeartbeats 4000000 in
theorem w_X12_stay_2 {p : Program} {l : Launch} {e : Env} {s : State} {m : MethodId} {args : Array Value} {below : List Frame} {meth : Method} {c : Code} {D : va_G} {tc : Nat → ClassId} {aK aV : Nat → Nat} {A : Nat → Prop} {ad0 : Nat → Nat}  (X : Cx p s m args meth c cX12_stay 4 none RX12 D tc aK aV A [(shModel, ad0)])  {o : XM}  : ∀ (n : Nat), ∀ (w0 : XM) (l1 : Int32) (l2 : Int32), x_lp (φ := XM → Int32 → Int32 → Option (XM)) (fun _ _ _ => none) (f_X12_stay_2  ) n w0 l1 l2 = some o → aW p l e (x_Rm 1) s m args below meth c D tc A 4 [(shModel, ad0)] none True [o] 2 [(0, .ref (ad0 0)), (1, .int l1), (2, .int l2)] [] [w0] := by
  intro n
  induction n with
  | zero => intro w0 l1 l2 h; exact absurd h (fun q => by cases q)
  | succ n ih =>
    intro w0 l1 l2 h
    have h : f_X12_stay_2   (x_lp (φ := XM → Int32 → Int32 → Option (XM)) (fun _ _ _ => none) (f_X12_stay_2  ) n) w0 l1 l2 = some o := h
    generalize x_lp (φ := XM → Int32 → Int32 → Option (XM)) (fun _ _ _ => none) (f_X12_stay_2  ) n = k2 at h ih
    have hk2 := ih
    unfold f_X12_stay_2 at h
    refine a_iload_n (pc := 2) X 2 dX12_stay_2 rfl rfl ?_
    refine a_bipush (pc := 3) X dX12_stay_3 q_bp_41 ?_
    refine a_icmp_ge (pc := 5) X 46 dX12_stay_5 rfl (fun c_5 => ?_) (fun c_5 => ?_)
    · have h := x_ifp c_5 h
      refine a_iload_n (pc := 46) X 1 dX12_stay_46 rfl rfl ?_
      refine a_if_ne (pc := 47) X 51 dX12_stay_47 rfl (fun c_47 => ?_) (fun c_47 => ?_)
      · have h := x_ifn c_47 h
        refine a_aload_n (pc := 51) X 0 dX12_stay_51 rfl rfl ?_
        obtain ⟨y1, e_y1, h⟩ := x_bo_elim h
        refine a_callV (pc := 52) (st2 := []) (vs2 := [y1]) X [(0, 0, 20)] [some y1] 0 0 12 [] [] cv_RX12_301 (c_X12_snap (ad0 := ad0)  e_y1) rfl rfl rfl rfl rfl rfl rfl rfl rfl rfl rfl rfl rfl rfl rfl (Nat.le_of_ble_eq_true rfl) ⟨Nat.le_of_ble_eq_true rfl, Nat.le_of_ble_eq_true rfl⟩ dX12_stay_52 (fun _ => ?_)
        refine a_aload_n (pc := 55) X 0 dX12_stay_55 rfl rfl ?_
        obtain ⟨y2, e_y2, h⟩ := x_bo_elim h
        refine a_callV (pc := 56) (st2 := []) (vs2 := [y2]) X [(0, 0, 20)] [some y2] 0 0 12 [] [] cv_RX12_395 (c_X12_takeBack (ad0 := ad0)  e_y2) rfl rfl rfl rfl rfl rfl rfl rfl rfl rfl rfl rfl rfl rfl rfl (Nat.le_of_ble_eq_true rfl) ⟨Nat.le_of_ble_eq_true rfl, Nat.le_of_ble_eq_true rfl⟩ dX12_stay_56 (fun _ => ?_)
        have h := Option.some.inj h; subst h
        exact a_vret (pc := 59) X trivial dX12_stay_59
      · have h := x_ifp c_47 h
        have h := Option.some.inj h; subst h
        exact a_vret (pc := 50) X trivial dX12_stay_50
    · have h := x_ifn c_5 h
      refine a_aload_n (pc := 8) X 0 dX12_stay_8 rfl rfl ?_
      refine a_getR (pc := 9) X 0 2 2 fl_RX12_98 rfl rfl rfl rfl rfl dX12_stay_9 ?_
      refine a_bipush (pc := 12) X dX12_stay_12 q_bp_70 ?_
      refine a_iload_n (pc := 14) X 2 dX12_stay_14 rfl rfl ?_
      refine a_iadd (pc := 15) X dX12_stay_15 ?_
      obtain ⟨c_16, h⟩ := x_ck_elim h
      refine a_iald (pc := 16) X 0 rfl rfl rfl c_16 dX12_stay_16 ?_
      obtain ⟨y3, e_y3, h⟩ := x_lt_elim h
      refine a_ni e_y3 ?_
      refine a_istore_n (pc := 17) X [(3, .int y3), (0, .ref (ad0 0)), (1, .int l1), (2, .int l2)] dX12_stay_17 rfl (by decide) rfl ?_
      refine a_aload_n (pc := 18) X 1 dX12_stay_18 rfl rfl ?_
      refine a_getR (pc := 19) X 0 2 2 fl_RX12_98 rfl rfl rfl rfl rfl dX12_stay_19 ?_
      refine a_bipush (pc := 22) X dX12_stay_22 q_bp_70 ?_
      refine a_iload_n (pc := 24) X 3 dX12_stay_24 rfl rfl ?_
      refine a_iadd (pc := 25) X dX12_stay_25 ?_
      refine a_aload_n (pc := 26) X 1 dX12_stay_26 rfl rfl ?_
      refine a_getR (pc := 27) X 0 6 6 fl_RX12_110 rfl rfl rfl rfl rfl dX12_stay_27 ?_
      refine a_iload_n (pc := 30) X 3 dX12_stay_30 rfl rfl ?_
      obtain ⟨c_31, h⟩ := x_ck_elim h
      refine a_iald (pc := 31) X 0 rfl rfl rfl c_31 dX12_stay_31 ?_
      obtain ⟨c_32, h⟩ := x_ck_elim h
      refine a_iast (pc := 32) X 0 rfl rfl rfl c_32 dX12_stay_32 ?_
      obtain ⟨m4, e_m4, h⟩ := x_lt_elim h
      refine a_nm (vs2 := [m4]) (congrArg (fun q : XM => [q]) e_m4) ?_
      refine a_aload_n (pc := 33) X 1 dX12_stay_33 rfl rfl ?_
      refine a_getR (pc := 34) X 0 6 6 fl_RX12_110 rfl rfl rfl rfl rfl dX12_stay_34 ?_
      refine a_iload_n (pc := 37) X 3 dX12_stay_37 rfl rfl ?_
      refine a_iload_n (pc := 38) X 0 dX12_stay_38 rfl rfl ?_
      obtain ⟨c_39, h⟩ := x_ck_elim h
      refine a_iast (pc := 39) X 0 rfl rfl rfl c_39 dX12_stay_39 ?_
      obtain ⟨m5, e_m5, h⟩ := x_lt_elim h
      refine a_nm (vs2 := [m5]) (congrArg (fun q : XM => [q]) e_m5) ?_
      refine a_iinc (pc := 40) X 3 [(2, .int (l2 + 1)), (3, .int y3), (0, .ref (ad0 0)), (1, .int l1)] dX12_stay_40 rfl (congrArg (HAdd.hAdd l2) q_ic_1) (by decide) rfl ?_
      refine a_goto (pc := 43) X 2 dX12_stay_43 rfl ?_
      refine a_sub [2, 3, 0] rfl ?_
      exact hk2 _ _ _ h
set_option maxRecDepth 100000 in
set_option maxHeartbeats 4000000 in
theorem c_X12_stay {l : Launch}  {ad0 : Nat → Nat} {v0 : XM} {x0 : Int32} (hz0 : x_Z x0) {o : XM} (h : f_X12_stay v0 x0 = some o) : CT l yX12_stay cX12_stay 4 none 1 [(shModel, ad0)] [v0] (fun aK => [.ref (ad0 0), .int x0]) none True [o] := by
  refine CT_of (by decide) (fun _ => Nat.le_of_ble_eq_true rfl) ?_
  intro p e s m args below meth c D tc aK aV A X
  have X : Cx p s m args meth c cX12_stay 4 none RX12 D tc aK aV A [(shModel, ad0)] := X
  show aW p l e (x_Rm 1) s m args below meth c D tc A 4 [(shModel, ad0)] none True [o] 0 [(0, .ref (ad0 0)), (1, .int x0)] [] [v0]
  unfold f_X12_stay at h
  refine a_iconst (pc := 0) X dX12_stay_0 q_ic_0 ?_
  refine a_istore_n (pc := 1) X [(2, .int (0 : Int32)), (0, .ref (ad0 0)), (1, .int x0)] dX12_stay_1 rfl (by decide) rfl ?_
  refine a_sub [1, 2, 0] rfl ?_
  exact w_X12_stay_2 X    x_NN _ _ _ h
theorem dX12_book_0 : decode cX12_book 0 = .ok (.aload_n 0, 1) := by decide +kernel
theorem dX12_book_1 : decode cX12_book 1 = .ok (.iconst 0, 1) := by decide +kernel
theorem dX12_book_2 : decode cX12_book 2 = .ok (.putfield 1, 3) := by decide +kernel
theorem dX12_book_5 : decode cX12_book 5 = .ok (.iload_n 1, 1) := by decide +kernel
theorem dX12_book_6 : decode cX12_book 6 = .ok (.iconst 0, 1) := by decide +kernel
theorem dX12_book_7 : decode cX12_book 7 = .ok (.iconst 1, 1) := by decide +kernel
theorem dX12_book_8 : decode cX12_book 8 = .ok (.invokestatic 75, 3) := by decide +kernel
theorem dX12_book_11 : decode cX12_book 11 = .ok (.ifCond .ne 7, 3) := by decide +kernel
theorem dX12_book_14 : decode cX12_book 14 = .ok (.sipush (-1000), 3) := by decide +kernel
theorem dX12_book_17 : decode cX12_book 17 = .ok (.ireturn, 1) := by decide +kernel
theorem dX12_book_18 : decode cX12_book 18 = .ok (.aload_n 0, 1) := by decide +kernel
theorem dX12_book_19 : decode cX12_book 19 = .ok (.sipush 400, 3) := by decide +kernel
theorem dX12_book_22 : decode cX12_book 22 = .ok (.invokevirtual 225, 3) := by decide +kernel
theorem dX12_book_25 : decode cX12_book 25 = .ok (.aload_n 0, 1) := by decide +kernel
theorem dX12_book_26 : decode cX12_book 26 = .ok (.iconst 0, 1) := by decide +kernel
theorem dX12_book_27 : decode cX12_book 27 = .ok (.putfield 407, 3) := by decide +kernel
theorem dX12_book_30 : decode cX12_book 30 = .ok (.aload_n 0, 1) := by decide +kernel
theorem dX12_book_31 : decode cX12_book 31 = .ok (.getfield 30, 3) := by decide +kernel
theorem dX12_book_34 : decode cX12_book 34 = .ok (.ifCond .eq 31, 3) := by decide +kernel
theorem dX12_book_37 : decode cX12_book 37 = .ok (.aload_n 0, 1) := by decide +kernel
theorem dX12_book_38 : decode cX12_book 38 = .ok (.invokevirtual 413, 3) := by decide +kernel
theorem dX12_book_41 : decode cX12_book 41 = .ok (.ifCond .ne 11, 3) := by decide +kernel
theorem dX12_book_44 : decode cX12_book 44 = .ok (.bipush (-2), 2) := by decide +kernel
theorem dX12_book_46 : decode cX12_book 46 = .ok (.aload_n 0, 1) := by decide +kernel
theorem dX12_book_47 : decode cX12_book 47 = .ok (.getfield 69, 3) := by decide +kernel
theorem dX12_book_50 : decode cX12_book 50 = .ok (.isub, 1) := by decide +kernel
theorem dX12_book_51 : decode cX12_book 51 = .ok (.ireturn, 1) := by decide +kernel
theorem dX12_book_52 : decode cX12_book 52 = .ok (.aload_n 0, 1) := by decide +kernel
theorem dX12_book_53 : decode cX12_book 53 = .ok (.dup, 1) := by decide +kernel
theorem dX12_book_54 : decode cX12_book 54 = .ok (.getfield 407, 3) := by decide +kernel
theorem dX12_book_57 : decode cX12_book 57 = .ok (.iconst 1, 1) := by decide +kernel
theorem dX12_book_58 : decode cX12_book 58 = .ok (.iadd, 1) := by decide +kernel
theorem dX12_book_59 : decode cX12_book 59 = .ok (.putfield 407, 3) := by decide +kernel
theorem dX12_book_62 : decode cX12_book 62 = .ok (.goto (-32), 3) := by decide +kernel
theorem dX12_book_65 : decode cX12_book 65 = .ok (.aload_n 0, 1) := by decide +kernel
theorem dX12_book_66 : decode cX12_book 66 = .ok (.invokevirtual 392, 3) := by decide +kernel
theorem dX12_book_69 : decode cX12_book 69 = .ok (.iconst 0, 1) := by decide +kernel
theorem dX12_book_70 : decode cX12_book 70 = .ok (.istore_n 2, 1) := by decide +kernel
theorem dX12_book_71 : decode cX12_book 71 = .ok (.iconst 0, 1) := by decide +kernel
theorem dX12_book_72 : decode cX12_book 72 = .ok (.istore_n 3, 1) := by decide +kernel
theorem dX12_book_73 : decode cX12_book 73 = .ok (.iload_n 2, 1) := by decide +kernel
theorem dX12_book_74 : decode cX12_book 74 = .ok (.aload_n 0, 1) := by decide +kernel
theorem dX12_book_75 : decode cX12_book 75 = .ok (.getfield 407, 3) := by decide +kernel
theorem dX12_book_78 : decode cX12_book 78 = .ok (.if_icmp .ge 25, 3) := by decide +kernel
theorem dX12_book_81 : decode cX12_book 81 = .ok (.iload_n 3, 1) := by decide +kernel
theorem dX12_book_82 : decode cX12_book 82 = .ok (.ifCond .ne 21, 3) := by decide +kernel
theorem dX12_book_85 : decode cX12_book 85 = .ok (.aload_n 0, 1) := by decide +kernel
theorem dX12_book_86 : decode cX12_book 86 = .ok (.iconst 3, 1) := by decide +kernel
theorem dX12_book_87 : decode cX12_book 87 = .ok (.iload_n 2, 1) := by decide +kernel
theorem dX12_book_88 : decode cX12_book 88 = .ok (.imul, 1) := by decide +kernel
theorem dX12_book_89 : decode cX12_book 89 = .ok (.invokevirtual 416, 3) := by decide +kernel
theorem dX12_book_92 : decode cX12_book 92 = .ok (.istore_n 3, 1) := by decide +kernel
theorem dX12_book_93 : decode cX12_book 93 = .ok (.iload_n 3, 1) := by decide +kernel
theorem dX12_book_94 : decode cX12_book 94 = .ok (.ifCond .ne (-21), 3) := by decide +kernel
theorem dX12_book_97 : decode cX12_book 97 = .ok (.iinc 2 1, 3) := by decide +kernel
theorem dX12_book_100 : decode cX12_book 100 = .ok (.goto (-27), 3) := by decide +kernel
theorem dX12_book_103 : decode cX12_book 103 = .ok (.aload_n 0, 1) := by decide +kernel
theorem dX12_book_104 : decode cX12_book 104 = .ok (.getfield 157, 3) := by decide +kernel
theorem dX12_book_107 : decode cX12_book 107 = .ok (.iconst 0, 1) := by decide +kernel
theorem dX12_book_108 : decode cX12_book 108 = .ok (.iload_n 3, 1) := by decide +kernel
theorem dX12_book_109 : decode cX12_book 109 = .ok (.iastore, 1) := by decide +kernel
theorem dX12_book_110 : decode cX12_book 110 = .ok (.aload_n 0, 1) := by decide +kernel
theorem dX12_book_111 : decode cX12_book 111 = .ok (.getfield 157, 3) := by decide +kernel
theorem dX12_book_114 : decode cX12_book 114 = .ok (.iconst 1, 1) := by decide +kernel
theorem dX12_book_115 : decode cX12_book 115 = .ok (.iload_n 2, 1) := by decide +kernel
theorem dX12_book_116 : decode cX12_book 116 = .ok (.iastore, 1) := by decide +kernel
theorem dX12_book_117 : decode cX12_book 117 = .ok (.aload_n 0, 1) := by decide +kernel
theorem dX12_book_118 : decode cX12_book 118 = .ok (.getfield 157, 3) := by decide +kernel
theorem dX12_book_121 : decode cX12_book 121 = .ok (.iconst 2, 1) := by decide +kernel
theorem dX12_book_122 : decode cX12_book 122 = .ok (.aload_n 0, 1) := by decide +kernel
theorem dX12_book_123 : decode cX12_book 123 = .ok (.getfield 98, 3) := by decide +kernel
theorem dX12_book_126 : decode cX12_book 126 = .ok (.bipush 70, 2) := by decide +kernel
theorem dX12_book_128 : decode cX12_book 128 = .ok (.iaload, 1) := by decide +kernel
theorem dX12_book_129 : decode cX12_book 129 = .ok (.iastore, 1) := by decide +kernel
theorem dX12_book_130 : decode cX12_book 130 = .ok (.aload_n 0, 1) := by decide +kernel
theorem dX12_book_131 : decode cX12_book 131 = .ok (.getfield 157, 3) := by decide +kernel
theorem dX12_book_134 : decode cX12_book 134 = .ok (.iconst 3, 1) := by decide +kernel
theorem dX12_book_135 : decode cX12_book 135 = .ok (.aload_n 0, 1) := by decide +kernel
theorem dX12_book_136 : decode cX12_book 136 = .ok (.invokevirtual 289, 3) := by decide +kernel
theorem dX12_book_139 : decode cX12_book 139 = .ok (.iastore, 1) := by decide +kernel
theorem dX12_book_140 : decode cX12_book 140 = .ok (.aload_n 0, 1) := by decide +kernel
theorem dX12_book_141 : decode cX12_book 141 = .ok (.iconst 1, 1) := by decide +kernel
theorem dX12_book_142 : decode cX12_book 142 = .ok (.putfield 419, 3) := by decide +kernel
theorem dX12_book_145 : decode cX12_book 145 = .ok (.aload_n 0, 1) := by decide +kernel
theorem dX12_book_146 : decode cX12_book 146 = .ok (.iload_n 1, 1) := by decide +kernel
theorem dX12_book_147 : decode cX12_book 147 = .ok (.iconst 1, 1) := by decide +kernel
theorem dX12_book_148 : decode cX12_book 148 = .ok (.if_icmp .ne 11, 3) := by decide +kernel
theorem dX12_book_151 : decode cX12_book 151 = .ok (.iload_n 2, 1) := by decide +kernel
theorem dX12_book_152 : decode cX12_book 152 = .ok (.ifCond .le 7, 3) := by decide +kernel
theorem dX12_book_155 : decode cX12_book 155 = .ok (.iconst 1, 1) := by decide +kernel
theorem dX12_book_156 : decode cX12_book 156 = .ok (.goto 4, 3) := by decide +kernel
theorem dX12_book_159 : decode cX12_book 159 = .ok (.iconst 0, 1) := by decide +kernel
theorem dX12_book_160 : decode cX12_book 160 = .ok (.invokevirtual 422, 3) := by decide +kernel
theorem dX12_book_163 : decode cX12_book 163 = .ok (.iload_n 3, 1) := by decide +kernel
theorem dX12_book_164 : decode cX12_book 164 = .ok (.ifCond .ne 7, 3) := by decide +kernel
theorem dX12_book_167 : decode cX12_book 167 = .ok (.iconst (-1), 1) := by decide +kernel
theorem dX12_book_168 : decode cX12_book 168 = .ok (.goto 4, 3) := by decide +kernel
theorem dX12_book_171 : decode cX12_book 171 = .ok (.iload_n 2, 1) := by decide +kernel
theorem dX12_book_172 : decode cX12_book 172 = .ok (.ireturn, 1) := by decide +kernel
def f_X12_book_160 (w0 : XM) (l2 : Int32) (l3 : Int32) (s1 : Int32) : Option (Int32 × XM) :=
  x_bo (f_X12_stay w0 s1) (fun y1 =>
  if l3 = (0 : Int32) then
  (some ((-1 : Int32), y1))
  else (some (l2, y1)))
def f_X12_book_159 (w0 : XM) (l2 : Int32) (l3 : Int32) : Option (Int32 × XM) :=
  f_X12_book_160   w0 l2 l3 (0 : Int32)
def f_X12_book_103 (w0 : XM) (l1 : Int32) (l2 : Int32) (l3 : Int32) : Option (Int32 × XM) :=
  x_lt (x_pa w0 18 (0 : Int32) l3) (fun m2 =>
  x_lt (x_pa m2 18 (1 : Int32) l2) (fun m3 =>
  x_lt (x_pa m3 18 (2 : Int32) (x_ga m3 2 (70 : Int32))) (fun m4 =>
  x_bo (f_X12_known m4) (fun y5 =>
  x_lt (x_pa m4 18 (3 : Int32) y5) (fun m6 =>
  x_lt (x_si m6 0 41 (1 : Int32)) (fun m7 =>
  if (l1 : Int32) = (1 : Int32) then
  (if l2 ≤ (0 : Int32) then
  (f_X12_book_159   m7 l2 l3)
  else (f_X12_book_160   m7 l2 l3 (1 : Int32)))
  else (f_X12_book_159   m7 l2 l3)))))))
def f_X12_book_73 (k73 : XM → Int32 → Int32 → Int32 → Option (Int32 × XM)) (w0 : XM) (l1 : Int32) (l2 : Int32) (l3 : Int32) : Option (Int32 × XM) :=
  if ((w0.1 0 40) : Int32) ≤ l2 then
  (f_X12_book_103   w0 l1 l2 l3)
  else (if l3 = (0 : Int32) then
  (x_bo (f_X12_goBy w0 ((3 : Int32) * l2)) (fun y8 =>
  if y8.1 = (0 : Int32) then
  (k73 y8.2 l1 (l2 + 1) y8.1)
  else (k73 y8.2 l1 l2 y8.1)))
  else (f_X12_book_103   w0 l1 l2 l3))
def f_X12_book_30 (k30 : XM → Int32 → Option (Int32 × XM)) (w0 : XM) (l1 : Int32) : Option (Int32 × XM) :=
  if (w0.1 0 7) = (0 : Int32) then
  (x_bo (f_X12_layAside w0) (fun y9 =>
  x_lp (φ := XM → Int32 → Int32 → Int32 → Option (Int32 × XM)) (fun _ _ _ _ => none) (f_X12_book_73  ) x_NN y9 l1 (0 : Int32) (0 : Int32)))
  else (x_bo (f_X12_readBookLine w0) (fun y10 =>
  if y10.1 = (0 : Int32) then
  (some ((-2 : Int32) - (y10.2.1 0 11), y10.2))
  else (x_lt (x_si y10.2 0 40 ((y10.2.1 0 40) + (1 : Int32))) (fun m11 =>
  k30 m11 l1))))
def f_X12_book (v0 : XM) (x0 : Int32) : Option (Int32 × XM) :=
  x_lt (x_si v0 0 0 (0 : Int32)) (fun m12 =>
  x_lt (f_X12_isIn x0 (0 : Int32) (1 : Int32)) (fun y13 =>
  if y13 = (0 : Int32) then
  (some ((-1000 : Int32), m12))
  else (x_bo (f_X12_begin m12 (400 : Int32)) (fun y14 =>
  x_lt (x_si y14 0 40 (0 : Int32)) (fun m15 =>
  x_lp (φ := XM → Int32 → Option (Int32 × XM)) (fun _ _ => none) (f_X12_book_30  ) x_NN m15 x0)))))
set_option maxRecDepth 100000 in
set_option maxHeartbeats 4000000 in
theorem w_X12_book_160 {p : Program} {l : Launch} {e : Env} {s : State} {m : MethodId} {args : Array Value} {below : List Frame} {meth : Method} {c : Code} {D : va_G} {tc : Nat → ClassId} {aK aV : Nat → Nat} {A : Nat → Prop} {ad0 : Nat → Nat}  (X : Cx p s m args meth c cX12_book 4 (some .int) RX12 D tc aK aV A [(shModel, ad0)])  {o : Int32 × XM}  {w0 : XM} {l2 : Int32} {l3 : Int32} {s1 : Int32} (hzs1 : x_Z s1) (h : f_X12_book_160   w0 l2 l3 s1 = some o) : aW p l e (x_Rm 7) s m args below meth c D tc A 4 [(shModel, ad0)] (some (.int o.1)) True [o.2] 160 [(2, .int l2), (3, .int l3)] [.int s1, .ref (ad0 0)] [w0] := by
  unfold f_X12_book_160 at h
  obtain ⟨y1, e_y1, h⟩ := x_bo_elim h
  refine a_callV (pc := 160) (st2 := []) (vs2 := [y1]) X [(0, 0, 20)] [some y1] 0 0 12 [.int s1] [] cv_RX12_422 (c_X12_stay (ad0 := ad0) hzs1 e_y1) rfl rfl rfl rfl rfl rfl rfl rfl rfl rfl rfl rfl rfl rfl rfl (Nat.le_of_ble_eq_true rfl) ⟨Nat.le_of_ble_eq_true rfl, Nat.le_of_ble_eq_true rfl⟩ dX12_book_160 (fun _ => ?_)
  refine a_iload_n (pc := 163) X 1 dX12_book_163 rfl rfl ?_
  refine a_if_ne (pc := 164) X 171 dX12_book_164 rfl (fun c_164 => ?_) (fun c_164 => ?_)
  · have h := x_ifn c_164 h
    refine a_iload_n (pc := 171) X 0 dX12_book_171 rfl rfl ?_
    have h := Option.some.inj h; subst h
    exact a_iret (pc := 172) X trivial dX12_book_172
  · have h := x_ifp c_164 h
    refine a_iconst (pc := 167) X dX12_book_167 q_ic_m1 ?_
    refine a_goto (pc := 168) X 172 dX12_book_168 rfl ?_
    have h := Option.some.inj h; subst h
    exact a_iret (pc := 172) X trivial dX12_book_172
set_option maxRecDepth 100000 in
set_option maxHeartbeats 4000000 in
theorem w_X12_book_159 {p : Program} {l : Launch} {e : Env} {s : State} {m : MethodId} {args : Array Value} {below : List Frame} {meth : Method} {c : Code} {D : va_G} {tc : Nat → ClassId} {aK aV : Nat → Nat} {A : Nat → Prop} {ad0 : Nat → Nat}  (X : Cx p s m args meth c cX12_book 4 (some .int) RX12 D tc aK aV A [(shModel, ad0)])  {o : Int32 × XM}  {w0 : XM} {l2 : Int32} {l3 : Int32}  (h : f_X12_book_159   w0 l2 l3 = some o) : aW p l e (x_Rm 7) s m args below meth c D tc A 4 [(shModel, ad0)] (some (.int o.1)) True [o.2] 159 [(2, .int l2), (3, .int l3)] [.ref (ad0 0)] [w0] := by
  unfold f_X12_book_159 at h
  refine a_iconst (pc := 159) X dX12_book_159 q_ic_0 ?_
  exact w_X12_book_160 X    x_Z0 h
set_option maxRecDepth 100000 in
set_option maxHeartbeats 4000000 in
theorem w_X12_book_103 {p : Program} {l : Launch} {e : Env} {s : State} {m : MethodId} {args : Array Value} {below : List Frame} {meth : Method} {c : Code} {D : va_G} {tc : Nat → ClassId} {aK aV : Nat → Nat} {A : Nat → Prop} {ad0 : Nat → Nat}  (X : Cx p s m args meth c cX12_book 4 (some .int) RX12 D tc aK aV A [(shModel, ad0)])  {o : Int32 × XM}  {w0 : XM} {l1 : Int32} {l2 : Int32} {l3 : Int32}  (h : f_X12_book_103   w0 l1 l2 l3 = some o) : aW p l e (x_Rm 7) s m args below meth c D tc A 4 [(shModel, ad0)] (some (.int o.1)) True [o.2] 103 [(0, .ref (ad0 0)), (1, .int l1), (2, .int l2), (3, .int l3)] [] [w0] := by
  unfold f_X12_book_103 at h
  refine a_aload_n (pc := 103) X 0 dX12_book_103 rfl rfl ?_
  refine a_getR (pc := 104) X 0 18 18 fl_RX12_157 rfl rfl rfl rfl rfl dX12_book_104 ?_
  refine a_iconst (pc := 107) X dX12_book_107 q_ic_0 ?_
  refine a_iload_n (pc := 108) X 3 dX12_book_108 rfl rfl ?_
  refine a_iast (pc := 109) X 0 rfl rfl rfl (x_inl (by decide)) dX12_book_109 ?_
  obtain ⟨m2, e_m2, h⟩ := x_lt_elim h
  refine a_nm (vs2 := [m2]) (congrArg (fun q : XM => [q]) e_m2) ?_
  refine a_aload_n (pc := 110) X 0 dX12_book_110 rfl rfl ?_
  refine a_getR (pc := 111) X 0 18 18 fl_RX12_157 rfl rfl rfl rfl rfl dX12_book_111 ?_
  refine a_iconst (pc := 114) X dX12_book_114 q_ic_1 ?_
  refine a_iload_n (pc := 115) X 2 dX12_book_115 rfl rfl ?_
  refine a_iast (pc := 116) X 0 rfl rfl rfl (x_inl (by decide)) dX12_book_116 ?_
  obtain ⟨m3, e_m3, h⟩ := x_lt_elim h
  refine a_nm (vs2 := [m3]) (congrArg (fun q : XM => [q]) e_m3) ?_
  refine a_aload_n (pc := 117) X 0 dX12_book_117 rfl rfl ?_
  refine a_getR (pc := 118) X 0 18 18 fl_RX12_157 rfl rfl rfl rfl rfl dX12_book_118 ?_
  refine a_iconst (pc := 121) X dX12_book_121 q_ic_2 ?_
  refine a_aload_n (pc := 122) X 0 dX12_book_122 rfl rfl ?_
  refine a_getR (pc := 123) X 0 2 2 fl_RX12_98 rfl rfl rfl rfl rfl dX12_book_123 ?_
  refine a_bipush (pc := 126) X dX12_book_126 q_bp_70 ?_
  refine a_iald (pc := 128) X 0 rfl rfl rfl (x_inl (by decide)) dX12_book_128 ?_
  refine a_iast (pc := 129) X 0 rfl rfl rfl (x_inl (by decide)) dX12_book_129 ?_
  obtain ⟨m4, e_m4, h⟩ := x_lt_elim h
  refine a_nm (vs2 := [m4]) (congrArg (fun q : XM => [q]) e_m4) ?_
  refine a_aload_n (pc := 130) X 0 dX12_book_130 rfl rfl ?_
  refine a_getR (pc := 131) X 0 18 18 fl_RX12_157 rfl rfl rfl rfl rfl dX12_book_131 ?_
  refine a_iconst (pc := 134) X dX12_book_134 q_ic_3 ?_
  refine a_aload_n (pc := 135) X 0 dX12_book_135 rfl rfl ?_
  obtain ⟨y5, e_y5, h⟩ := x_bo_elim h
  refine a_callV (pc := 136) (st2 := [.int y5, .int (3 : Int32), .ref (ad0 18)]) (vs2 := [m4]) X [(0, 0, 20)] [none] 0 0 12 [] [.int (3 : Int32), .ref (ad0 18)] cv_RX12_289 (c_X12_known (ad0 := ad0)  e_y5) rfl rfl rfl rfl rfl rfl rfl rfl rfl rfl rfl rfl rfl rfl rfl (Nat.le_of_ble_eq_true rfl) ⟨Nat.le_of_ble_eq_true rfl, Nat.le_of_ble_eq_true rfl⟩ dX12_book_136 (fun _ => ?_)
  refine a_iast (pc := 139) X 0 rfl rfl rfl (x_inl (by decide)) dX12_book_139 ?_
  obtain ⟨m6, e_m6, h⟩ := x_lt_elim h
  refine a_nm (vs2 := [m6]) (congrArg (fun q : XM => [q]) e_m6) ?_
  refine a_aload_n (pc := 140) X 0 dX12_book_140 rfl rfl ?_
  refine a_iconst (pc := 141) X dX12_book_141 q_ic_1 ?_
  refine a_putZ (pc := 142) X 0 x_Z1 fl_RX12_419 rfl rfl rfl rfl dX12_book_142 ?_
  obtain ⟨m7, e_m7, h⟩ := x_lt_elim h
  refine a_nm (vs2 := [m7]) (congrArg (fun q : XM => [q]) e_m7) ?_
  refine a_aload_n (pc := 145) X 0 dX12_book_145 rfl rfl ?_
  refine a_iload_n (pc := 146) X 1 dX12_book_146 rfl rfl ?_
  refine a_iconst (pc := 147) X dX12_book_147 q_ic_1 ?_
  refine a_icmp_ne (pc := 148) X 159 dX12_book_148 rfl (fun c_148 => ?_) (fun c_148 => ?_)
  · have h := x_ifn c_148 h
    refine a_sub [2, 3] rfl ?_
    exact w_X12_book_159 X     h
  · have h := x_ifp c_148 h
    refine a_iload_n (pc := 151) X 2 dX12_book_151 rfl rfl ?_
    refine a_if_le (pc := 152) X 159 dX12_book_152 rfl (fun c_152 => ?_) (fun c_152 => ?_)
    · have h := x_ifp c_152 h
      refine a_sub [2, 3] rfl ?_
      exact w_X12_book_159 X     h
    · have h := x_ifn c_152 h
      refine a_iconst (pc := 155) X dX12_book_155 q_ic_1 ?_
      refine a_goto (pc := 156) X 160 dX12_book_156 rfl ?_
      refine a_sub [2, 3] rfl ?_
      exact w_X12_book_160 X    x_Z1 h
set_option maxRecDepth 100000 in
set_option maxHeartbeats 4000000 in
theorem w_X12_book_73 {p : Program} {l : Launch} {e : Env} {s : State} {m : MethodId} {args : Array Value} {below : List Frame} {meth : Method} {c : Code} {D : va_G} {tc : Nat → ClassId} {aK aV : Nat → Nat} {A : Nat → Prop} {ad0 : Nat → Nat}  (X : Cx p s m args meth c cX12_book 4 (some .int) RX12 D tc aK aV A [(shModel, ad0)])  {o : Int32 × XM}  : ∀ (n : Nat), ∀ (w0 : XM) (l1 : Int32) (l2 : Int32) (l3 : Int32), x_lp (φ := XM → Int32 → Int32 → Int32 → Option (Int32 × XM)) (fun _ _ _ _ => none) (f_X12_book_73  ) n w0 l1 l2 l3 = some o → aW p l e (x_Rm 7) s m args below meth c D tc A 4 [(shModel, ad0)] (some (.int o.1)) True [o.2] 73 [(0, .ref (ad0 0)), (1, .int l1), (2, .int l2), (3, .int l3)] [] [w0] := by
  intro n
  induction n with
  | zero => intro w0 l1 l2 l3 h; exact absurd h (fun q => by cases q)
  | succ n ih =>
    intro w0 l1 l2 l3 h
    have h : f_X12_book_73   (x_lp (φ := XM → Int32 → Int32 → Int32 → Option (Int32 × XM)) (fun _ _ _ _ => none) (f_X12_book_73  ) n) w0 l1 l2 l3 = some o := h
    generalize x_lp (φ := XM → Int32 → Int32 → Int32 → Option (Int32 × XM)) (fun _ _ _ _ => none) (f_X12_book_73  ) n = k73 at h ih
    have hk73 := ih
    unfold f_X12_book_73 at h
    refine a_iload_n (pc := 73) X 2 dX12_book_73 rfl rfl ?_
    refine a_aload_n (pc := 74) X 0 dX12_book_74 rfl rfl ?_
    refine a_getI (pc := 75) X 0 fl_RX12_407 rfl rfl rfl rfl dX12_book_75 ?_
    refine a_icmp_ge (pc := 78) X 103 dX12_book_78 rfl (fun c_78 => ?_) (fun c_78 => ?_)
    · have h := x_ifp c_78 h
      exact w_X12_book_103 X     h
    · have h := x_ifn c_78 h
      refine a_iload_n (pc := 81) X 3 dX12_book_81 rfl rfl ?_
      refine a_if_ne (pc := 82) X 103 dX12_book_82 rfl (fun c_82 => ?_) (fun c_82 => ?_)
      · have h := x_ifn c_82 h
        exact w_X12_book_103 X     h
      · have h := x_ifp c_82 h
        refine a_aload_n (pc := 85) X 0 dX12_book_85 rfl rfl ?_
        refine a_iconst (pc := 86) X dX12_book_86 q_ic_3 ?_
        refine a_iload_n (pc := 87) X 2 dX12_book_87 rfl rfl ?_
        refine a_imul (pc := 88) X dX12_book_88 ?_
        obtain ⟨y8, e_y8, h⟩ := x_bo_elim h
        refine a_callV (pc := 89) (st2 := [.int y8.1]) (vs2 := [y8.2]) X [(0, 0, 20)] [some y8.2] 0 0 12 [.int ((3 : Int32) * l2)] [] cv_RX12_416 (c_X12_goBy (ad0 := ad0)  e_y8) rfl rfl rfl rfl rfl rfl rfl rfl rfl rfl rfl rfl rfl rfl rfl (Nat.le_of_ble_eq_true rfl) ⟨Nat.le_of_ble_eq_true rfl, Nat.le_of_ble_eq_true rfl⟩ dX12_book_89 (fun _ => ?_)
        refine a_istore_n (pc := 92) X [(3, .int y8.1), (0, .ref (ad0 0)), (1, .int l1), (2, .int l2)] dX12_book_92 rfl (by decide) rfl ?_
        refine a_iload_n (pc := 93) X 0 dX12_book_93 rfl rfl ?_
        refine a_if_ne (pc := 94) X 73 dX12_book_94 rfl (fun c_94 => ?_) (fun c_94 => ?_)
        · have h := x_ifn c_94 h
          refine a_sub [1, 2, 3, 0] rfl ?_
          exact hk73 _ _ _ _ h
        · have h := x_ifp c_94 h
          refine a_iinc (pc := 97) X 3 [(2, .int (l2 + 1)), (3, .int y8.1), (0, .ref (ad0 0)), (1, .int l1)] dX12_book_97 rfl (congrArg (HAdd.hAdd l2) q_ic_1) (by decide) rfl ?_
          refine a_goto (pc := 100) X 73 dX12_book_100 rfl ?_
          refine a_sub [2, 3, 0, 1] rfl ?_
          exact hk73 _ _ _ _ h
set_option maxRecDepth 100000 in
set_option maxHeartbeats 4000000 in
theorem w_X12_book_30 {p : Program} {l : Launch} {e : Env} {s : State} {m : MethodId} {args : Array Value} {below : List Frame} {meth : Method} {c : Code} {D : va_G} {tc : Nat → ClassId} {aK aV : Nat → Nat} {A : Nat → Prop} {ad0 : Nat → Nat}  (X : Cx p s m args meth c cX12_book 4 (some .int) RX12 D tc aK aV A [(shModel, ad0)])  {o : Int32 × XM}  : ∀ (n : Nat), ∀ (w0 : XM) (l1 : Int32), x_lp (φ := XM → Int32 → Option (Int32 × XM)) (fun _ _ => none) (f_X12_book_30  ) n w0 l1 = some o → aW p l e (x_Rm 7) s m args below meth c D tc A 4 [(shModel, ad0)] (some (.int o.1)) True [o.2] 30 [(0, .ref (ad0 0)), (1, .int l1)] [] [w0] := by
  intro n
  induction n with
  | zero => intro w0 l1 h; exact absurd h (fun q => by cases q)
  | succ n ih =>
    intro w0 l1 h
    have h : f_X12_book_30   (x_lp (φ := XM → Int32 → Option (Int32 × XM)) (fun _ _ => none) (f_X12_book_30  ) n) w0 l1 = some o := h
    generalize x_lp (φ := XM → Int32 → Option (Int32 × XM)) (fun _ _ => none) (f_X12_book_30  ) n = k30 at h ih
    have hk30 := ih
    unfold f_X12_book_30 at h
    refine a_aload_n (pc := 30) X 0 dX12_book_30 rfl rfl ?_
    refine a_getI (pc := 31) X 0 fl_RX12_30 rfl rfl rfl rfl dX12_book_31 ?_
    refine a_if_eq (pc := 34) X 65 dX12_book_34 rfl (fun c_34 => ?_) (fun c_34 => ?_)
    · have h := x_ifp c_34 h
      refine a_aload_n (pc := 65) X 0 dX12_book_65 rfl rfl ?_
      obtain ⟨y9, e_y9, h⟩ := x_bo_elim h
      refine a_callV (pc := 66) (st2 := []) (vs2 := [y9]) X [(0, 0, 20)] [some y9] 0 0 12 [] [] cv_RX12_392 (c_X12_layAside (ad0 := ad0)  e_y9) rfl rfl rfl rfl rfl rfl rfl rfl rfl rfl rfl rfl rfl rfl rfl (Nat.le_of_ble_eq_true rfl) ⟨Nat.le_of_ble_eq_true rfl, Nat.le_of_ble_eq_true rfl⟩ dX12_book_66 (fun _ => ?_)
      refine a_iconst (pc := 69) X dX12_book_69 q_ic_0 ?_
      refine a_istore_n (pc := 70) X [(2, .int (0 : Int32)), (0, .ref (ad0 0)), (1, .int l1)] dX12_book_70 rfl (by decide) rfl ?_
      refine a_iconst (pc := 71) X dX12_book_71 q_ic_0 ?_
      refine a_istore_n (pc := 72) X [(3, .int (0 : Int32)), (2, .int (0 : Int32)), (0, .ref (ad0 0)), (1, .int l1)] dX12_book_72 rfl (by decide) rfl ?_
      refine a_sub [2, 3, 1, 0] rfl ?_
      exact w_X12_book_73 X    x_NN _ _ _ _ h
    · have h := x_ifn c_34 h
      refine a_aload_n (pc := 37) X 0 dX12_book_37 rfl rfl ?_
      obtain ⟨y10, e_y10, h⟩ := x_bo_elim h
      refine a_callV (pc := 38) (st2 := [.int y10.1]) (vs2 := [y10.2]) X [(0, 0, 20)] [some y10.2] 0 0 12 [] [] cv_RX12_413 (c_X12_readBookLine (ad0 := ad0)  e_y10) rfl rfl rfl rfl rfl rfl rfl rfl rfl rfl rfl rfl rfl rfl rfl (Nat.le_of_ble_eq_true rfl) ⟨Nat.le_of_ble_eq_true rfl, Nat.le_of_ble_eq_true rfl⟩ dX12_book_38 (fun z_38 => ?_)
      refine a_if_ne (pc := 41) X 52 dX12_book_41 rfl (fun c_41 => ?_) (fun c_41 => ?_)
      · have h := x_ifn c_41 h
        refine a_aload_n (pc := 52) X 0 dX12_book_52 rfl rfl ?_
        refine a_dup (pc := 53) X dX12_book_53 rfl ?_
        refine a_getI (pc := 54) X 0 fl_RX12_407 rfl rfl rfl rfl dX12_book_54 ?_
        refine a_iconst (pc := 57) X dX12_book_57 q_ic_1 ?_
        refine a_iadd (pc := 58) X dX12_book_58 ?_
        refine a_putI (pc := 59) X 0 fl_RX12_407 rfl rfl rfl rfl dX12_book_59 ?_
        obtain ⟨m11, e_m11, h⟩ := x_lt_elim h
        refine a_nm (vs2 := [m11]) (congrArg (fun q : XM => [q]) e_m11) ?_
        refine a_goto (pc := 62) X 30 dX12_book_62 rfl ?_
        exact hk30 _ _ h
      · have h := x_ifp c_41 h
        refine a_bipush (pc := 44) X dX12_book_44 q_bp_m2 ?_
        refine a_aload_n (pc := 46) X 0 dX12_book_46 rfl rfl ?_
        refine a_getI (pc := 47) X 0 fl_RX12_69 rfl rfl rfl rfl dX12_book_47 ?_
        refine a_isub (pc := 50) X dX12_book_50 ?_
        have h := Option.some.inj h; subst h
        exact a_iret (pc := 51) X trivial dX12_book_51
set_option maxRecDepth 100000 in
set_option maxHeartbeats 4000000 in
theorem c_X12_book {l : Launch}  {ad0 : Nat → Nat} {v0 : XM} {x0 : Int32}  {o : Int32 × XM} (h : f_X12_book v0 x0 = some o) : CT l yX12_book cX12_book 4 (some .int) 7 [(shModel, ad0)] [v0] (fun aK => [.ref (ad0 0), .int x0]) (some (.int o.1)) True [o.2] := by
  refine CT_of (by decide) (fun _ => Nat.le_of_ble_eq_true rfl) ?_
  intro p e s m args below meth c D tc aK aV A X
  have X : Cx p s m args meth c cX12_book 4 (some .int) RX12 D tc aK aV A [(shModel, ad0)] := X
  show aW p l e (x_Rm 7) s m args below meth c D tc A 4 [(shModel, ad0)] (some (.int o.1)) True [o.2] 0 [(0, .ref (ad0 0)), (1, .int x0)] [] [v0]
  unfold f_X12_book at h
  refine a_aload_n (pc := 0) X 0 dX12_book_0 rfl rfl ?_
  refine a_iconst (pc := 1) X dX12_book_1 q_ic_0 ?_
  refine a_putI (pc := 2) X 0 fl_RX12_1 rfl rfl rfl rfl dX12_book_2 ?_
  obtain ⟨m12, e_m12, h⟩ := x_lt_elim h
  refine a_nm (vs2 := [m12]) (congrArg (fun q : XM => [q]) e_m12) ?_
  refine a_iload_n (pc := 5) X 1 dX12_book_5 rfl rfl ?_
  refine a_iconst (pc := 6) X dX12_book_6 q_ic_0 ?_
  refine a_iconst (pc := 7) X dX12_book_7 q_ic_1 ?_
  obtain ⟨y13, e_y13, h⟩ := x_lt_elim h
  refine a_callS (pc := 8) (st2 := [.int y13]) (vs2 := [m12]) X [] [] [.int x0, .int (0 : Int32), .int (1 : Int32)] [] cv_RX12_75 (c_X12_isIn   e_y13) rfl rfl rfl rfl rfl rfl rfl rfl rfl rfl rfl (Nat.le_of_ble_eq_true rfl) ⟨Nat.le_of_ble_eq_true rfl, Nat.le_of_ble_eq_true rfl⟩ dX12_book_8 (fun z_8 => ?_)
  refine a_if_ne (pc := 11) X 18 dX12_book_11 rfl (fun c_11 => ?_) (fun c_11 => ?_)
  · have h := x_ifn c_11 h
    refine a_aload_n (pc := 18) X 0 dX12_book_18 rfl rfl ?_
    refine a_sipush (pc := 19) X dX12_book_19 q_sp_400 ?_
    obtain ⟨y14, e_y14, h⟩ := x_bo_elim h
    refine a_callV (pc := 22) (st2 := []) (vs2 := [y14]) X [(0, 0, 20)] [some y14] 0 0 12 [.int (400 : Int32)] [] cv_RX12_225 (c_X12_begin (ad0 := ad0)  e_y14) rfl rfl rfl rfl rfl rfl rfl rfl rfl rfl rfl rfl rfl rfl rfl (Nat.le_of_ble_eq_true rfl) ⟨Nat.le_of_ble_eq_true rfl, Nat.le_of_ble_eq_true rfl⟩ dX12_book_22 (fun _ => ?_)
    refine a_aload_n (pc := 25) X 0 dX12_book_25 rfl rfl ?_
    refine a_iconst (pc := 26) X dX12_book_26 q_ic_0 ?_
    refine a_putI (pc := 27) X 0 fl_RX12_407 rfl rfl rfl rfl dX12_book_27 ?_
    obtain ⟨m15, e_m15, h⟩ := x_lt_elim h
    refine a_nm (vs2 := [m15]) (congrArg (fun q : XM => [q]) e_m15) ?_
    exact w_X12_book_30 X    x_NN _ _ h
  · have h := x_ifp c_11 h
    refine a_sipush (pc := 14) X dX12_book_14 q_sp_m1000 ?_
    have h := Option.some.inj h; subst h
    exact a_iret (pc := 17) X trivial dX12_book_17
theorem dX12_told_0 : decode cX12_told 0 = .ok (.aload_n 0, 1) := by decide +kernel
theorem dX12_told_1 : decode cX12_told 1 = .ok (.iconst 0, 1) := by decide +kernel
theorem dX12_told_2 : decode cX12_told 2 = .ok (.putfield 1, 3) := by decide +kernel
theorem dX12_told_5 : decode cX12_told 5 = .ok (.aload_n 0, 1) := by decide +kernel
theorem dX12_told_6 : decode cX12_told 6 = .ok (.getfield 419, 3) := by decide +kernel
theorem dX12_told_9 : decode cX12_told 9 = .ok (.ifCond .eq 21, 3) := by decide +kernel
theorem dX12_told_12 : decode cX12_told 12 = .ok (.iload_n 1, 1) := by decide +kernel
theorem dX12_told_13 : decode cX12_told 13 = .ok (.iconst 0, 1) := by decide +kernel
theorem dX12_told_14 : decode cX12_told 14 = .ok (.iconst 3, 1) := by decide +kernel
theorem dX12_told_15 : decode cX12_told 15 = .ok (.invokestatic 75, 3) := by decide +kernel
theorem dX12_told_18 : decode cX12_told 18 = .ok (.ifCond .eq 12, 3) := by decide +kernel
theorem dX12_told_21 : decode cX12_told 21 = .ok (.aload_n 0, 1) := by decide +kernel
theorem dX12_told_22 : decode cX12_told 22 = .ok (.getfield 157, 3) := by decide +kernel
theorem dX12_told_25 : decode cX12_told 25 = .ok (.iload_n 1, 1) := by decide +kernel
theorem dX12_told_26 : decode cX12_told 26 = .ok (.iaload, 1) := by decide +kernel
theorem dX12_told_27 : decode cX12_told 27 = .ok (.goto 4, 3) := by decide +kernel
theorem dX12_told_30 : decode cX12_told 30 = .ok (.iconst (-1), 1) := by decide +kernel
theorem dX12_told_31 : decode cX12_told 31 = .ok (.ireturn, 1) := by decide +kernel
def f_X12_told (v0 : XM) (x0 : Int32) : Option (Int32 × XM) :=
  x_lt (x_si v0 0 0 (0 : Int32)) (fun m1 =>
  if (m1.1 0 41) = (0 : Int32) then
  (some ((-1 : Int32), m1))
  else (x_lt (f_X12_isIn x0 (0 : Int32) (3 : Int32)) (fun y2 =>
  if y2 = (0 : Int32) then
  (some ((-1 : Int32), m1))
  else (x_ck x0 4 (
  some (x_ga m1 18 x0, m1))))))
set_option maxRecDepth 100000 in
set_option maxHeartbeats 4000000 in
theorem c_X12_told {l : Launch}  {ad0 : Nat → Nat} {v0 : XM} {x0 : Int32}  {o : Int32 × XM} (h : f_X12_told v0 x0 = some o) : CT l yX12_told cX12_told 2 (some .int) 1 [(shModel, ad0)] [v0] (fun aK => [.ref (ad0 0), .int x0]) (some (.int o.1)) True [o.2] := by
  refine CT_of (by decide) (fun _ => Nat.le_of_ble_eq_true rfl) ?_
  intro p e s m args below meth c D tc aK aV A X
  have X : Cx p s m args meth c cX12_told 2 (some .int) RX12 D tc aK aV A [(shModel, ad0)] := X
  show aW p l e (x_Rm 1) s m args below meth c D tc A 2 [(shModel, ad0)] (some (.int o.1)) True [o.2] 0 [(0, .ref (ad0 0)), (1, .int x0)] [] [v0]
  unfold f_X12_told at h
  refine a_aload_n (pc := 0) X 0 dX12_told_0 rfl rfl ?_
  refine a_iconst (pc := 1) X dX12_told_1 q_ic_0 ?_
  refine a_putI (pc := 2) X 0 fl_RX12_1 rfl rfl rfl rfl dX12_told_2 ?_
  obtain ⟨m1, e_m1, h⟩ := x_lt_elim h
  refine a_nm (vs2 := [m1]) (congrArg (fun q : XM => [q]) e_m1) ?_
  refine a_aload_n (pc := 5) X 0 dX12_told_5 rfl rfl ?_
  refine a_getI (pc := 6) X 0 fl_RX12_419 rfl rfl rfl rfl dX12_told_6 ?_
  refine a_if_eq (pc := 9) X 30 dX12_told_9 rfl (fun c_9 => ?_) (fun c_9 => ?_)
  · have h := x_ifp c_9 h
    refine a_iconst (pc := 30) X dX12_told_30 q_ic_m1 ?_
    have h := Option.some.inj h; subst h
    exact a_iret (pc := 31) X trivial dX12_told_31
  · have h := x_ifn c_9 h
    refine a_iload_n (pc := 12) X 1 dX12_told_12 rfl rfl ?_
    refine a_iconst (pc := 13) X dX12_told_13 q_ic_0 ?_
    refine a_iconst (pc := 14) X dX12_told_14 q_ic_3 ?_
    obtain ⟨y2, e_y2, h⟩ := x_lt_elim h
    refine a_callS (pc := 15) (st2 := [.int y2]) (vs2 := [m1]) X [] [] [.int x0, .int (0 : Int32), .int (3 : Int32)] [] cv_RX12_75 (c_X12_isIn   e_y2) rfl rfl rfl rfl rfl rfl rfl rfl rfl rfl rfl (Nat.le_of_ble_eq_true rfl) ⟨Nat.le_of_ble_eq_true rfl, Nat.le_of_ble_eq_true rfl⟩ dX12_told_15 (fun z_15 => ?_)
    refine a_if_eq (pc := 18) X 30 dX12_told_18 rfl (fun c_18 => ?_) (fun c_18 => ?_)
    · have h := x_ifp c_18 h
      refine a_iconst (pc := 30) X dX12_told_30 q_ic_m1 ?_
      have h := Option.some.inj h; subst h
      exact a_iret (pc := 31) X trivial dX12_told_31
    · have h := x_ifn c_18 h
      refine a_aload_n (pc := 21) X 0 dX12_told_21 rfl rfl ?_
      refine a_getR (pc := 22) X 0 18 18 fl_RX12_157 rfl rfl rfl rfl rfl dX12_told_22 ?_
      refine a_iload_n (pc := 25) X 1 dX12_told_25 rfl rfl ?_
      obtain ⟨c_26, h⟩ := x_ck_elim h
      refine a_iald (pc := 26) X 0 rfl rfl rfl c_26 dX12_told_26 ?_
      refine a_goto (pc := 27) X 31 dX12_told_27 rfl ?_
      have h := Option.some.inj h; subst h
      exact a_iret (pc := 31) X trivial dX12_told_31
theorem dX12_saysOne_0 : decode cX12_saysOne 0 = .ok (.iconst 4, 1) := by decide +kernel
theorem dX12_saysOne_1 : decode cX12_saysOne 1 = .ok (.aload_n 0, 1) := by decide +kernel
theorem dX12_saysOne_2 : decode cX12_saysOne 2 = .ok (.getfield 426, 3) := by decide +kernel
theorem dX12_saysOne_5 : decode cX12_saysOne 5 = .ok (.imul, 1) := by decide +kernel
theorem dX12_saysOne_6 : decode cX12_saysOne 6 = .ok (.istore 5, 2) := by decide +kernel
theorem dX12_saysOne_8 : decode cX12_saysOne 8 = .ok (.aload_n 0, 1) := by decide +kernel
theorem dX12_saysOne_9 : decode cX12_saysOne 9 = .ok (.getfield 160, 3) := by decide +kernel
theorem dX12_saysOne_12 : decode cX12_saysOne 12 = .ok (.iload 5, 2) := by decide +kernel
theorem dX12_saysOne_14 : decode cX12_saysOne 14 = .ok (.iload_n 1, 1) := by decide +kernel
theorem dX12_saysOne_15 : decode cX12_saysOne 15 = .ok (.iastore, 1) := by decide +kernel
theorem dX12_saysOne_16 : decode cX12_saysOne 16 = .ok (.aload_n 0, 1) := by decide +kernel
theorem dX12_saysOne_17 : decode cX12_saysOne 17 = .ok (.getfield 160, 3) := by decide +kernel
theorem dX12_saysOne_20 : decode cX12_saysOne 20 = .ok (.iload 5, 2) := by decide +kernel
theorem dX12_saysOne_22 : decode cX12_saysOne 22 = .ok (.iconst 1, 1) := by decide +kernel
theorem dX12_saysOne_23 : decode cX12_saysOne 23 = .ok (.iadd, 1) := by decide +kernel
theorem dX12_saysOne_24 : decode cX12_saysOne 24 = .ok (.iload_n 2, 1) := by decide +kernel
theorem dX12_saysOne_25 : decode cX12_saysOne 25 = .ok (.iastore, 1) := by decide +kernel
theorem dX12_saysOne_26 : decode cX12_saysOne 26 = .ok (.aload_n 0, 1) := by decide +kernel
theorem dX12_saysOne_27 : decode cX12_saysOne 27 = .ok (.getfield 160, 3) := by decide +kernel
theorem dX12_saysOne_30 : decode cX12_saysOne 30 = .ok (.iload 5, 2) := by decide +kernel
theorem dX12_saysOne_32 : decode cX12_saysOne 32 = .ok (.iconst 2, 1) := by decide +kernel
theorem dX12_saysOne_33 : decode cX12_saysOne 33 = .ok (.iadd, 1) := by decide +kernel
theorem dX12_saysOne_34 : decode cX12_saysOne 34 = .ok (.iload_n 3, 1) := by decide +kernel
theorem dX12_saysOne_35 : decode cX12_saysOne 35 = .ok (.iastore, 1) := by decide +kernel
theorem dX12_saysOne_36 : decode cX12_saysOne 36 = .ok (.aload_n 0, 1) := by decide +kernel
theorem dX12_saysOne_37 : decode cX12_saysOne 37 = .ok (.getfield 160, 3) := by decide +kernel
theorem dX12_saysOne_40 : decode cX12_saysOne 40 = .ok (.iload 5, 2) := by decide +kernel
theorem dX12_saysOne_42 : decode cX12_saysOne 42 = .ok (.iconst 3, 1) := by decide +kernel
theorem dX12_saysOne_43 : decode cX12_saysOne 43 = .ok (.iadd, 1) := by decide +kernel
theorem dX12_saysOne_44 : decode cX12_saysOne 44 = .ok (.iload 4, 2) := by decide +kernel
theorem dX12_saysOne_46 : decode cX12_saysOne 46 = .ok (.iastore, 1) := by decide +kernel
theorem dX12_saysOne_47 : decode cX12_saysOne 47 = .ok (.aload_n 0, 1) := by decide +kernel
theorem dX12_saysOne_48 : decode cX12_saysOne 48 = .ok (.dup, 1) := by decide +kernel
theorem dX12_saysOne_49 : decode cX12_saysOne 49 = .ok (.getfield 426, 3) := by decide +kernel
theorem dX12_saysOne_52 : decode cX12_saysOne 52 = .ok (.iconst 1, 1) := by decide +kernel
theorem dX12_saysOne_53 : decode cX12_saysOne 53 = .ok (.iadd, 1) := by decide +kernel
theorem dX12_saysOne_54 : decode cX12_saysOne 54 = .ok (.putfield 426, 3) := by decide +kernel
theorem dX12_saysOne_57 : decode cX12_saysOne 57 = .ok (.aload_n 0, 1) := by decide +kernel
theorem dX12_saysOne_58 : decode cX12_saysOne 58 = .ok (.getfield 426, 3) := by decide +kernel
theorem dX12_saysOne_61 : decode cX12_saysOne 61 = .ok (.iconst 1, 1) := by decide +kernel
theorem dX12_saysOne_62 : decode cX12_saysOne 62 = .ok (.isub, 1) := by decide +kernel
theorem dX12_saysOne_63 : decode cX12_saysOne 63 = .ok (.ireturn, 1) := by decide +kernel
def f_X12_saysOne (v0 : XM) (x0 : Int32) (x1 : Int32) (x2 : Int32) (x3 : Int32) : Option (Int32 × XM) :=
  x_lt ((4 : Int32) * (v0.1 0 43)) (fun y1 =>
  x_ck y1 240 (
  x_lt (x_pa v0 19 y1 x0) (fun m2 =>
  x_ck (y1 + (1 : Int32)) 240 (
  x_lt (x_pa m2 19 (y1 + (1 : Int32)) x1) (fun m3 =>
  x_ck (y1 + (2 : Int32)) 240 (
  x_lt (x_pa m3 19 (y1 + (2 : Int32)) x2) (fun m4 =>
  x_ck (y1 + (3 : Int32)) 240 (
  x_lt (x_pa m4 19 (y1 + (3 : Int32)) x3) (fun m5 =>
  x_lt (x_si m5 0 43 ((m5.1 0 43) + (1 : Int32))) (fun m6 =>
  some ((m6.1 0 43) - (1 : Int32), m6)))))))))))
set_option maxRecDepth 100000 in
set_option maxHeartbeats 4000000 in
theorem c_X12_saysOne {l : Launch}  {ad0 : Nat → Nat} {v0 : XM} {x0 : Int32} {x1 : Int32} {x2 : Int32} {x3 : Int32}  {o : Int32 × XM} (h : f_X12_saysOne v0 x0 x1 x2 x3 = some o) : CT l yX12_saysOne cX12_saysOne 6 (some .int) 0 [(shModel, ad0)] [v0] (fun aK => [.ref (ad0 0), .int x0, .int x1, .int x2, .int x3]) (some (.int o.1)) True [o.2] := by
  refine CT_of (by decide) (fun _ => Nat.le_of_ble_eq_true rfl) ?_
  intro p e s m args below meth c D tc aK aV A X
  have X : Cx p s m args meth c cX12_saysOne 6 (some .int) RX12 D tc aK aV A [(shModel, ad0)] := X
  show aW p l e (x_Rm 0) s m args below meth c D tc A 6 [(shModel, ad0)] (some (.int o.1)) True [o.2] 0 [(0, .ref (ad0 0)), (1, .int x0), (2, .int x1), (3, .int x2), (4, .int x3)] [] [v0]
  unfold f_X12_saysOne at h
  refine a_iconst (pc := 0) X dX12_saysOne_0 q_ic_4 ?_
  refine a_aload_n (pc := 1) X 0 dX12_saysOne_1 rfl rfl ?_
  refine a_getI (pc := 2) X 0 fl_RX12_426 rfl rfl rfl rfl dX12_saysOne_2 ?_
  refine a_imul (pc := 5) X dX12_saysOne_5 ?_
  obtain ⟨y1, e_y1, h⟩ := x_lt_elim h
  refine a_ni e_y1 ?_
  refine a_istore (pc := 6) X [(5, .int y1), (0, .ref (ad0 0)), (1, .int x0), (2, .int x1), (3, .int x2), (4, .int x3)] dX12_saysOne_6 (by decide) rfl ?_
  refine a_aload_n (pc := 8) X 1 dX12_saysOne_8 rfl rfl ?_
  refine a_getR (pc := 9) X 0 19 19 fl_RX12_160 rfl rfl rfl rfl rfl dX12_saysOne_9 ?_
  refine a_iload (pc := 12) X 0 dX12_saysOne_12 rfl ?_
  refine a_iload_n (pc := 14) X 2 dX12_saysOne_14 rfl rfl ?_
  obtain ⟨c_15, h⟩ := x_ck_elim h
  refine a_iast (pc := 15) X 0 rfl rfl rfl c_15 dX12_saysOne_15 ?_
  obtain ⟨m2, e_m2, h⟩ := x_lt_elim h
  refine a_nm (vs2 := [m2]) (congrArg (fun q : XM => [q]) e_m2) ?_
  refine a_aload_n (pc := 16) X 1 dX12_saysOne_16 rfl rfl ?_
  refine a_getR (pc := 17) X 0 19 19 fl_RX12_160 rfl rfl rfl rfl rfl dX12_saysOne_17 ?_
  refine a_iload (pc := 20) X 0 dX12_saysOne_20 rfl ?_
  refine a_iconst (pc := 22) X dX12_saysOne_22 q_ic_1 ?_
  refine a_iadd (pc := 23) X dX12_saysOne_23 ?_
  refine a_iload_n (pc := 24) X 3 dX12_saysOne_24 rfl rfl ?_
  obtain ⟨c_25, h⟩ := x_ck_elim h
  refine a_iast (pc := 25) X 0 rfl rfl rfl c_25 dX12_saysOne_25 ?_
  obtain ⟨m3, e_m3, h⟩ := x_lt_elim h
  refine a_nm (vs2 := [m3]) (congrArg (fun q : XM => [q]) e_m3) ?_
  refine a_aload_n (pc := 26) X 1 dX12_saysOne_26 rfl rfl ?_
  refine a_getR (pc := 27) X 0 19 19 fl_RX12_160 rfl rfl rfl rfl rfl dX12_saysOne_27 ?_
  refine a_iload (pc := 30) X 0 dX12_saysOne_30 rfl ?_
  refine a_iconst (pc := 32) X dX12_saysOne_32 q_ic_2 ?_
  refine a_iadd (pc := 33) X dX12_saysOne_33 ?_
  refine a_iload_n (pc := 34) X 4 dX12_saysOne_34 rfl rfl ?_
  obtain ⟨c_35, h⟩ := x_ck_elim h
  refine a_iast (pc := 35) X 0 rfl rfl rfl c_35 dX12_saysOne_35 ?_
  obtain ⟨m4, e_m4, h⟩ := x_lt_elim h
  refine a_nm (vs2 := [m4]) (congrArg (fun q : XM => [q]) e_m4) ?_
  refine a_aload_n (pc := 36) X 1 dX12_saysOne_36 rfl rfl ?_
  refine a_getR (pc := 37) X 0 19 19 fl_RX12_160 rfl rfl rfl rfl rfl dX12_saysOne_37 ?_
  refine a_iload (pc := 40) X 0 dX12_saysOne_40 rfl ?_
  refine a_iconst (pc := 42) X dX12_saysOne_42 q_ic_3 ?_
  refine a_iadd (pc := 43) X dX12_saysOne_43 ?_
  refine a_iload (pc := 44) X 5 dX12_saysOne_44 rfl ?_
  obtain ⟨c_46, h⟩ := x_ck_elim h
  refine a_iast (pc := 46) X 0 rfl rfl rfl c_46 dX12_saysOne_46 ?_
  obtain ⟨m5, e_m5, h⟩ := x_lt_elim h
  refine a_nm (vs2 := [m5]) (congrArg (fun q : XM => [q]) e_m5) ?_
  refine a_aload_n (pc := 47) X 1 dX12_saysOne_47 rfl rfl ?_
  refine a_dup (pc := 48) X dX12_saysOne_48 rfl ?_
  refine a_getI (pc := 49) X 0 fl_RX12_426 rfl rfl rfl rfl dX12_saysOne_49 ?_
  refine a_iconst (pc := 52) X dX12_saysOne_52 q_ic_1 ?_
  refine a_iadd (pc := 53) X dX12_saysOne_53 ?_
  refine a_putI (pc := 54) X 0 fl_RX12_426 rfl rfl rfl rfl dX12_saysOne_54 ?_
  obtain ⟨m6, e_m6, h⟩ := x_lt_elim h
  refine a_nm (vs2 := [m6]) (congrArg (fun q : XM => [q]) e_m6) ?_
  refine a_aload_n (pc := 57) X 1 dX12_saysOne_57 rfl rfl ?_
  refine a_getI (pc := 58) X 0 fl_RX12_426 rfl rfl rfl rfl dX12_saysOne_58 ?_
  refine a_iconst (pc := 61) X dX12_saysOne_61 q_ic_1 ?_
  refine a_isub (pc := 62) X dX12_saysOne_62 ?_
  have h := Option.some.inj h; subst h
  exact a_iret (pc := 63) X trivial dX12_saysOne_63
theorem dX12_readOf_0 : decode cX12_readOf 0 = .ok (.aload_n 0, 1) := by decide +kernel
theorem dX12_readOf_1 : decode cX12_readOf 1 = .ok (.iload_n 1, 1) := by decide +kernel
theorem dX12_readOf_2 : decode cX12_readOf 2 = .ok (.bipush 23, 2) := by decide +kernel
theorem dX12_readOf_4 : decode cX12_readOf 4 = .ok (.if_icmp .ne 7, 3) := by decide +kernel
theorem dX12_readOf_7 : decode cX12_readOf 7 = .ok (.iconst 0, 1) := by decide +kernel
theorem dX12_readOf_8 : decode cX12_readOf 8 = .ok (.goto 5, 3) := by decide +kernel
theorem dX12_readOf_11 : decode cX12_readOf 11 = .ok (.bipush 8, 2) := by decide +kernel
theorem dX12_readOf_13 : decode cX12_readOf 13 = .ok (.aload_n 0, 1) := by decide +kernel
theorem dX12_readOf_14 : decode cX12_readOf 14 = .ok (.getfield 98, 3) := by decide +kernel
theorem dX12_readOf_17 : decode cX12_readOf 17 = .ok (.iload_n 1, 1) := by decide +kernel
theorem dX12_readOf_18 : decode cX12_readOf 18 = .ok (.bipush 23, 2) := by decide +kernel
theorem dX12_readOf_20 : decode cX12_readOf 20 = .ok (.if_icmp .ne 7, 3) := by decide +kernel
theorem dX12_readOf_23 : decode cX12_readOf 23 = .ok (.iconst 0, 1) := by decide +kernel
theorem dX12_readOf_24 : decode cX12_readOf 24 = .ok (.goto 4, 3) := by decide +kernel
theorem dX12_readOf_27 : decode cX12_readOf 27 = .ok (.iconst 2, 1) := by decide +kernel
theorem dX12_readOf_28 : decode cX12_readOf 28 = .ok (.iaload, 1) := by decide +kernel
theorem dX12_readOf_29 : decode cX12_readOf 29 = .ok (.invokevirtual 404, 3) := by decide +kernel
theorem dX12_readOf_32 : decode cX12_readOf 32 = .ok (.ifCond .ne 5, 3) := by decide +kernel
theorem dX12_readOf_35 : decode cX12_readOf 35 = .ok (.iconst 0, 1) := by decide +kernel
theorem dX12_readOf_36 : decode cX12_readOf 36 = .ok (.ireturn, 1) := by decide +kernel
theorem dX12_readOf_37 : decode cX12_readOf 37 = .ok (.aload_n 0, 1) := by decide +kernel
theorem dX12_readOf_38 : decode cX12_readOf 38 = .ok (.aload_n 0, 1) := by decide +kernel
theorem dX12_readOf_39 : decode cX12_readOf 39 = .ok (.bipush 50, 2) := by decide +kernel
theorem dX12_readOf_41 : decode cX12_readOf 41 = .ok (.iload_n 1, 1) := by decide +kernel
theorem dX12_readOf_42 : decode cX12_readOf 42 = .ok (.iadd, 1) := by decide +kernel
theorem dX12_readOf_43 : decode cX12_readOf 43 = .ok (.aload_n 0, 1) := by decide +kernel
theorem dX12_readOf_44 : decode cX12_readOf 44 = .ok (.getfield 79, 3) := by decide +kernel
theorem dX12_readOf_47 : decode cX12_readOf 47 = .ok (.iconst 0, 1) := by decide +kernel
theorem dX12_readOf_48 : decode cX12_readOf 48 = .ok (.iconst 0, 1) := by decide +kernel
theorem dX12_readOf_49 : decode cX12_readOf 49 = .ok (.invokevirtual 435, 3) := by decide +kernel
theorem dX12_readOf_52 : decode cX12_readOf 52 = .ok (.putfield 432, 3) := by decide +kernel
theorem dX12_readOf_55 : decode cX12_readOf 55 = .ok (.iconst 1, 1) := by decide +kernel
theorem dX12_readOf_56 : decode cX12_readOf 56 = .ok (.ireturn, 1) := by decide +kernel
def f_X12_readOf_28 (w0 : XM) (l1 : Int32) (s1 : Int32) (s3 : Int32) : Option (Int32 × XM) :=
  x_ck s3 353 (
  x_bo (f_X12_readNamed w0 s1 (x_ga w0 2 s3)) (fun y1 =>
  if y1.1 = (0 : Int32) then
  (some ((0 : Int32), y1.2))
  else (x_bo (f_X12_saysOne y1.2 ((50 : Int32) + l1) (y1.2.1 0 13) (0 : Int32) (0 : Int32)) (fun y2 =>
  x_lt (x_si y2.2 0 46 y2.1) (fun m3 =>
  some ((1 : Int32), m3))))))
def f_X12_readOf_13 (w0 : XM) (l1 : Int32) (s1 : Int32) : Option (Int32 × XM) :=
  if (l1 : Int32) = (23 : Int32) then
  (f_X12_readOf_28   w0 l1 s1 (0 : Int32))
  else (f_X12_readOf_28   w0 l1 s1 (2 : Int32))
def f_X12_readOf (v0 : XM) (x0 : Int32) : Option (Int32 × XM) :=
  if (x0 : Int32) = (23 : Int32) then
  (f_X12_readOf_13   v0 x0 (0 : Int32))
  else (f_X12_readOf_13   v0 x0 (8 : Int32))
set_option maxRecDepth 100000 in
set_option maxHeartbeats 4000000 in
theorem w_X12_readOf_28 {p : Program} {l : Launch} {e : Env} {s : State} {m : MethodId} {args : Array Value} {below : List Frame} {meth : Method} {c : Code} {D : va_G} {tc : Nat → ClassId} {aK aV : Nat → Nat} {A : Nat → Prop} {ad0 : Nat → Nat}  (X : Cx p s m args meth c cX12_readOf 2 (some .boolean) RX12 D tc aK aV A [(shModel, ad0)])  {o : Int32 × XM}  {w0 : XM} {l1 : Int32} {s1 : Int32} {s3 : Int32}  (h : f_X12_readOf_28   w0 l1 s1 s3 = some o) : aW p l e (x_Rm 4) s m args below meth c D tc A 2 [(shModel, ad0)] (some (.int o.1)) (x_Z o.1) [o.2] 28 [(0, .ref (ad0 0)), (1, .int l1)] [.int s3, .ref (ad0 2), .int s1, .ref (ad0 0)] [w0] := by
  unfold f_X12_readOf_28 at h
  obtain ⟨c_28, h⟩ := x_ck_elim h
  refine a_iald (pc := 28) X 0 rfl rfl rfl c_28 dX12_readOf_28 ?_
  obtain ⟨y1, e_y1, h⟩ := x_bo_elim h
  refine a_callV (pc := 29) (st2 := [.int y1.1]) (vs2 := [y1.2]) X [(0, 0, 20)] [some y1.2] 0 0 12 [.int s1, .int (x_ga w0 2 s3)] [] cv_RX12_404 (c_X12_readNamed (ad0 := ad0)  e_y1) rfl rfl rfl rfl rfl rfl rfl rfl rfl rfl rfl rfl rfl rfl rfl (Nat.le_of_ble_eq_true rfl) ⟨Nat.le_of_ble_eq_true rfl, Nat.le_of_ble_eq_true rfl⟩ dX12_readOf_29 (fun z_29 => ?_)
  refine a_if_ne (pc := 32) X 37 dX12_readOf_32 rfl (fun c_32 => ?_) (fun c_32 => ?_)
  · have h := x_ifn c_32 h
    refine a_aload_n (pc := 37) X 0 dX12_readOf_37 rfl rfl ?_
    refine a_aload_n (pc := 38) X 0 dX12_readOf_38 rfl rfl ?_
    refine a_bipush (pc := 39) X dX12_readOf_39 q_bp_50 ?_
    refine a_iload_n (pc := 41) X 1 dX12_readOf_41 rfl rfl ?_
    refine a_iadd (pc := 42) X dX12_readOf_42 ?_
    refine a_aload_n (pc := 43) X 0 dX12_readOf_43 rfl rfl ?_
    refine a_getI (pc := 44) X 0 fl_RX12_79 rfl rfl rfl rfl dX12_readOf_44 ?_
    refine a_iconst (pc := 47) X dX12_readOf_47 q_ic_0 ?_
    refine a_iconst (pc := 48) X dX12_readOf_48 q_ic_0 ?_
    obtain ⟨y2, e_y2, h⟩ := x_bo_elim h
    refine a_callV (pc := 49) (st2 := [.int y2.1, .ref (ad0 0)]) (vs2 := [y2.2]) X [(0, 0, 20)] [some y2.2] 0 0 12 [.int ((50 : Int32) + l1), .int (y1.2.1 0 13), .int (0 : Int32), .int (0 : Int32)] [.ref (ad0 0)] cv_RX12_435 (c_X12_saysOne (ad0 := ad0)  e_y2) rfl rfl rfl rfl rfl rfl rfl rfl rfl rfl rfl rfl rfl rfl rfl (Nat.le_of_ble_eq_true rfl) ⟨Nat.le_of_ble_eq_true rfl, Nat.le_of_ble_eq_true rfl⟩ dX12_readOf_49 (fun _ => ?_)
    refine a_putI (pc := 52) X 0 fl_RX12_432 rfl rfl rfl rfl dX12_readOf_52 ?_
    obtain ⟨m3, e_m3, h⟩ := x_lt_elim h
    refine a_nm (vs2 := [m3]) (congrArg (fun q : XM => [q]) e_m3) ?_
    refine a_iconst (pc := 55) X dX12_readOf_55 q_ic_1 ?_
    have h := Option.some.inj h; subst h
    exact a_zret (pc := 56) X x_Z1 x_Z1 dX12_readOf_56
  · have h := x_ifp c_32 h
    refine a_iconst (pc := 35) X dX12_readOf_35 q_ic_0 ?_
    have h := Option.some.inj h; subst h
    exact a_zret (pc := 36) X x_Z0 x_Z0 dX12_readOf_36
set_option maxRecDepth 100000 in
set_option maxHeartbeats 4000000 in
theorem w_X12_readOf_13 {p : Program} {l : Launch} {e : Env} {s : State} {m : MethodId} {args : Array Value} {below : List Frame} {meth : Method} {c : Code} {D : va_G} {tc : Nat → ClassId} {aK aV : Nat → Nat} {A : Nat → Prop} {ad0 : Nat → Nat}  (X : Cx p s m args meth c cX12_readOf 2 (some .boolean) RX12 D tc aK aV A [(shModel, ad0)])  {o : Int32 × XM}  {w0 : XM} {l1 : Int32} {s1 : Int32}  (h : f_X12_readOf_13   w0 l1 s1 = some o) : aW p l e (x_Rm 4) s m args below meth c D tc A 2 [(shModel, ad0)] (some (.int o.1)) (x_Z o.1) [o.2] 13 [(0, .ref (ad0 0)), (1, .int l1)] [.int s1, .ref (ad0 0)] [w0] := by
  unfold f_X12_readOf_13 at h
  refine a_aload_n (pc := 13) X 0 dX12_readOf_13 rfl rfl ?_
  refine a_getR (pc := 14) X 0 2 2 fl_RX12_98 rfl rfl rfl rfl rfl dX12_readOf_14 ?_
  refine a_iload_n (pc := 17) X 1 dX12_readOf_17 rfl rfl ?_
  refine a_bipush (pc := 18) X dX12_readOf_18 q_bp_23 ?_
  refine a_icmp_ne (pc := 20) X 27 dX12_readOf_20 rfl (fun c_20 => ?_) (fun c_20 => ?_)
  · have h := x_ifn c_20 h
    refine a_iconst (pc := 27) X dX12_readOf_27 q_ic_2 ?_
    exact w_X12_readOf_28 X     h
  · have h := x_ifp c_20 h
    refine a_iconst (pc := 23) X dX12_readOf_23 q_ic_0 ?_
    refine a_goto (pc := 24) X 28 dX12_readOf_24 rfl ?_
    exact w_X12_readOf_28 X     h
set_option maxRecDepth 100000 in
set_option maxHeartbeats 4000000 in
theorem c_X12_readOf {l : Launch}  {ad0 : Nat → Nat} {v0 : XM} {x0 : Int32}  {o : Int32 × XM} (h : f_X12_readOf v0 x0 = some o) : CT l yX12_readOf cX12_readOf 2 (some .boolean) 4 [(shModel, ad0)] [v0] (fun aK => [.ref (ad0 0), .int x0]) (some (.int o.1)) (x_Z o.1) [o.2] := by
  refine CT_of (by decide) (fun _ => Nat.le_of_ble_eq_true rfl) ?_
  intro p e s m args below meth c D tc aK aV A X
  have X : Cx p s m args meth c cX12_readOf 2 (some .boolean) RX12 D tc aK aV A [(shModel, ad0)] := X
  show aW p l e (x_Rm 4) s m args below meth c D tc A 2 [(shModel, ad0)] (some (.int o.1)) (x_Z o.1) [o.2] 0 [(0, .ref (ad0 0)), (1, .int x0)] [] [v0]
  unfold f_X12_readOf at h
  refine a_aload_n (pc := 0) X 0 dX12_readOf_0 rfl rfl ?_
  refine a_iload_n (pc := 1) X 1 dX12_readOf_1 rfl rfl ?_
  refine a_bipush (pc := 2) X dX12_readOf_2 q_bp_23 ?_
  refine a_icmp_ne (pc := 4) X 11 dX12_readOf_4 rfl (fun c_4 => ?_) (fun c_4 => ?_)
  · have h := x_ifn c_4 h
    refine a_bipush (pc := 11) X dX12_readOf_11 q_bp_8 ?_
    exact w_X12_readOf_13 X     h
  · have h := x_ifp c_4 h
    refine a_iconst (pc := 7) X dX12_readOf_7 q_ic_0 ?_
    refine a_goto (pc := 8) X 13 dX12_readOf_8 rfl ?_
    exact w_X12_readOf_13 X     h
theorem dX12_readCompare_0 : decode cX12_readCompare 0 = .ok (.aload_n 0, 1) := by decide +kernel
theorem dX12_readCompare_1 : decode cX12_readCompare 1 = .ok (.bipush 60, 2) := by decide +kernel
theorem dX12_readCompare_3 : decode cX12_readCompare 3 = .ok (.invokevirtual 86, 3) := by decide +kernel
theorem dX12_readCompare_6 : decode cX12_readCompare 6 = .ok (.ifCond .ne 27, 3) := by decide +kernel
theorem dX12_readCompare_9 : decode cX12_readCompare 9 = .ok (.aload_n 0, 1) := by decide +kernel
theorem dX12_readCompare_10 : decode cX12_readCompare 10 = .ok (.bipush 61, 2) := by decide +kernel
theorem dX12_readCompare_12 : decode cX12_readCompare 12 = .ok (.invokevirtual 86, 3) := by decide +kernel
theorem dX12_readCompare_15 : decode cX12_readCompare 15 = .ok (.ifCond .ne 18, 3) := by decide +kernel
theorem dX12_readCompare_18 : decode cX12_readCompare 18 = .ok (.aload_n 0, 1) := by decide +kernel
theorem dX12_readCompare_19 : decode cX12_readCompare 19 = .ok (.bipush 62, 2) := by decide +kernel
theorem dX12_readCompare_21 : decode cX12_readCompare 21 = .ok (.invokevirtual 86, 3) := by decide +kernel
theorem dX12_readCompare_24 : decode cX12_readCompare 24 = .ok (.ifCond .ne 9, 3) := by decide +kernel
theorem dX12_readCompare_27 : decode cX12_readCompare 27 = .ok (.aload_n 0, 1) := by decide +kernel
theorem dX12_readCompare_28 : decode cX12_readCompare 28 = .ok (.iconst 1, 1) := by decide +kernel
theorem dX12_readCompare_29 : decode cX12_readCompare 29 = .ok (.invokevirtual 72, 3) := by decide +kernel
theorem dX12_readCompare_32 : decode cX12_readCompare 32 = .ok (.ireturn, 1) := by decide +kernel
theorem dX12_readCompare_33 : decode cX12_readCompare 33 = .ok (.aload_n 0, 1) := by decide +kernel
theorem dX12_readCompare_34 : decode cX12_readCompare 34 = .ok (.getfield 40, 3) := by decide +kernel
theorem dX12_readCompare_37 : decode cX12_readCompare 37 = .ok (.istore_n 2, 1) := by decide +kernel
theorem dX12_readCompare_38 : decode cX12_readCompare 38 = .ok (.aload_n 0, 1) := by decide +kernel
theorem dX12_readCompare_39 : decode cX12_readCompare 39 = .ok (.invokevirtual 82, 3) := by decide +kernel
theorem dX12_readCompare_42 : decode cX12_readCompare 42 = .ok (.aload_n 0, 1) := by decide +kernel
theorem dX12_readCompare_43 : decode cX12_readCompare 43 = .ok (.iconst 0, 1) := by decide +kernel
theorem dX12_readCompare_44 : decode cX12_readCompare 44 = .ok (.sipush 999, 3) := by decide +kernel
theorem dX12_readCompare_47 : decode cX12_readCompare 47 = .ok (.invokevirtual 196, 3) := by decide +kernel
theorem dX12_readCompare_50 : decode cX12_readCompare 50 = .ok (.ifCond .ne 5, 3) := by decide +kernel
theorem dX12_readCompare_53 : decode cX12_readCompare 53 = .ok (.iconst 0, 1) := by decide +kernel
theorem dX12_readCompare_54 : decode cX12_readCompare 54 = .ok (.ireturn, 1) := by decide +kernel
theorem dX12_readCompare_55 : decode cX12_readCompare 55 = .ok (.aload_n 0, 1) := by decide +kernel
theorem dX12_readCompare_56 : decode cX12_readCompare 56 = .ok (.aload_n 0, 1) := by decide +kernel
theorem dX12_readCompare_57 : decode cX12_readCompare 57 = .ok (.bipush 50, 2) := by decide +kernel
theorem dX12_readCompare_59 : decode cX12_readCompare 59 = .ok (.iload_n 1, 1) := by decide +kernel
theorem dX12_readCompare_60 : decode cX12_readCompare 60 = .ok (.iadd, 1) := by decide +kernel
theorem dX12_readCompare_61 : decode cX12_readCompare 61 = .ok (.iconst 0, 1) := by decide +kernel
theorem dX12_readCompare_62 : decode cX12_readCompare 62 = .ok (.aload_n 0, 1) := by decide +kernel
theorem dX12_readCompare_63 : decode cX12_readCompare 63 = .ok (.getfield 79, 3) := by decide +kernel
theorem dX12_readCompare_66 : decode cX12_readCompare 66 = .ok (.iload_n 2, 1) := by decide +kernel
theorem dX12_readCompare_67 : decode cX12_readCompare 67 = .ok (.invokevirtual 435, 3) := by decide +kernel
theorem dX12_readCompare_70 : decode cX12_readCompare 70 = .ok (.putfield 432, 3) := by decide +kernel
theorem dX12_readCompare_73 : decode cX12_readCompare 73 = .ok (.iconst 1, 1) := by decide +kernel
theorem dX12_readCompare_74 : decode cX12_readCompare 74 = .ok (.ireturn, 1) := by decide +kernel
def f_X12_readCompare_33 (w0 : XM) (l1 : Int32) : Option (Int32 × XM) :=
  x_bo (f_X12_go w0) (fun y1 =>
  x_bo (f_X12_readNumber y1 (0 : Int32) (999 : Int32)) (fun y2 =>
  if y2.1 = (0 : Int32) then
  (some ((0 : Int32), y2.2))
  else (x_bo (f_X12_saysOne y2.2 ((50 : Int32) + l1) (0 : Int32) (y2.2.1 0 13) (w0.1 0 9)) (fun y3 =>
  x_lt (x_si y3.2 0 46 y3.1) (fun m4 =>
  some ((1 : Int32), m4))))))
def f_X12_readCompare (v0 : XM) (x0 : Int32) : Option (Int32 × XM) :=
  x_lt (f_X12_isSign v0 (60 : Int32)) (fun y5 =>
  if y5 = (0 : Int32) then
  (x_lt (f_X12_isSign v0 (61 : Int32)) (fun y6 =>
  if y6 = (0 : Int32) then
  (x_lt (f_X12_isSign v0 (62 : Int32)) (fun y7 =>
  if y7 = (0 : Int32) then
  (x_lt (f_X12_bad v0 (1 : Int32)) (fun y8 =>
  some (y8.1, y8.2)))
  else (f_X12_readCompare_33   v0 x0)))
  else (f_X12_readCompare_33   v0 x0)))
  else (f_X12_readCompare_33   v0 x0))
set_option maxRecDepth 100000 in
set_option maxHeartbeats 4000000 in
theorem w_X12_readCompare_33 {p : Program} {l : Launch} {e : Env} {s : State} {m : MethodId} {args : Array Value} {below : List Frame} {meth : Method} {c : Code} {D : va_G} {tc : Nat → ClassId} {aK aV : Nat → Nat} {A : Nat → Prop} {ad0 : Nat → Nat}  (X : Cx p s m args meth c cX12_readCompare 3 (some .boolean) RX12 D tc aK aV A [(shModel, ad0)])  {o : Int32 × XM}  {w0 : XM} {l1 : Int32}  (h : f_X12_readCompare_33   w0 l1 = some o) : aW p l e (x_Rm 3) s m args below meth c D tc A 3 [(shModel, ad0)] (some (.int o.1)) (x_Z o.1) [o.2] 33 [(0, .ref (ad0 0)), (1, .int l1)] [] [w0] := by
  unfold f_X12_readCompare_33 at h
  refine a_aload_n (pc := 33) X 0 dX12_readCompare_33 rfl rfl ?_
  refine a_getI (pc := 34) X 0 fl_RX12_40 rfl rfl rfl rfl dX12_readCompare_34 ?_
  refine a_istore_n (pc := 37) X [(2, .int (w0.1 0 9)), (0, .ref (ad0 0)), (1, .int l1)] dX12_readCompare_37 rfl (by decide) rfl ?_
  refine a_aload_n (pc := 38) X 1 dX12_readCompare_38 rfl rfl ?_
  obtain ⟨y1, e_y1, h⟩ := x_bo_elim h
  refine a_callV (pc := 39) (st2 := []) (vs2 := [y1]) X [(0, 0, 20)] [some y1] 0 0 12 [] [] cv_RX12_82 (c_X12_go (ad0 := ad0)  e_y1) rfl rfl rfl rfl rfl rfl rfl rfl rfl rfl rfl rfl rfl rfl rfl (Nat.le_of_ble_eq_true rfl) ⟨Nat.le_of_ble_eq_true rfl, Nat.le_of_ble_eq_true rfl⟩ dX12_readCompare_39 (fun _ => ?_)
  refine a_aload_n (pc := 42) X 1 dX12_readCompare_42 rfl rfl ?_
  refine a_iconst (pc := 43) X dX12_readCompare_43 q_ic_0 ?_
  refine a_sipush (pc := 44) X dX12_readCompare_44 q_sp_999 ?_
  obtain ⟨y2, e_y2, h⟩ := x_bo_elim h
  refine a_callV (pc := 47) (st2 := [.int y2.1]) (vs2 := [y2.2]) X [(0, 0, 20)] [some y2.2] 0 0 12 [.int (0 : Int32), .int (999 : Int32)] [] cv_RX12_196 (c_X12_readNumber (ad0 := ad0)  e_y2) rfl rfl rfl rfl rfl rfl rfl rfl rfl rfl rfl rfl rfl rfl rfl (Nat.le_of_ble_eq_true rfl) ⟨Nat.le_of_ble_eq_true rfl, Nat.le_of_ble_eq_true rfl⟩ dX12_readCompare_47 (fun z_47 => ?_)
  refine a_if_ne (pc := 50) X 55 dX12_readCompare_50 rfl (fun c_50 => ?_) (fun c_50 => ?_)
  · have h := x_ifn c_50 h
    refine a_aload_n (pc := 55) X 1 dX12_readCompare_55 rfl rfl ?_
    refine a_aload_n (pc := 56) X 1 dX12_readCompare_56 rfl rfl ?_
    refine a_bipush (pc := 57) X dX12_readCompare_57 q_bp_50 ?_
    refine a_iload_n (pc := 59) X 2 dX12_readCompare_59 rfl rfl ?_
    refine a_iadd (pc := 60) X dX12_readCompare_60 ?_
    refine a_iconst (pc := 61) X dX12_readCompare_61 q_ic_0 ?_
    refine a_aload_n (pc := 62) X 1 dX12_readCompare_62 rfl rfl ?_
    refine a_getI (pc := 63) X 0 fl_RX12_79 rfl rfl rfl rfl dX12_readCompare_63 ?_
    refine a_iload_n (pc := 66) X 0 dX12_readCompare_66 rfl rfl ?_
    obtain ⟨y3, e_y3, h⟩ := x_bo_elim h
    refine a_callV (pc := 67) (st2 := [.int y3.1, .ref (ad0 0)]) (vs2 := [y3.2]) X [(0, 0, 20)] [some y3.2] 0 0 12 [.int ((50 : Int32) + l1), .int (0 : Int32), .int (y2.2.1 0 13), .int (w0.1 0 9)] [.ref (ad0 0)] cv_RX12_435 (c_X12_saysOne (ad0 := ad0)  e_y3) rfl rfl rfl rfl rfl rfl rfl rfl rfl rfl rfl rfl rfl rfl rfl (Nat.le_of_ble_eq_true rfl) ⟨Nat.le_of_ble_eq_true rfl, Nat.le_of_ble_eq_true rfl⟩ dX12_readCompare_67 (fun _ => ?_)
    refine a_putI (pc := 70) X 0 fl_RX12_432 rfl rfl rfl rfl dX12_readCompare_70 ?_
    obtain ⟨m4, e_m4, h⟩ := x_lt_elim h
    refine a_nm (vs2 := [m4]) (congrArg (fun q : XM => [q]) e_m4) ?_
    refine a_iconst (pc := 73) X dX12_readCompare_73 q_ic_1 ?_
    have h := Option.some.inj h; subst h
    exact a_zret (pc := 74) X x_Z1 x_Z1 dX12_readCompare_74
  · have h := x_ifp c_50 h
    refine a_iconst (pc := 53) X dX12_readCompare_53 q_ic_0 ?_
    have h := Option.some.inj h; subst h
    exact a_zret (pc := 54) X x_Z0 x_Z0 dX12_readCompare_54
set_option maxRecDepth 100000 in
set_option maxHeartbeats 4000000 in
theorem c_X12_readCompare {l : Launch}  {ad0 : Nat → Nat} {v0 : XM} {x0 : Int32}  {o : Int32 × XM} (h : f_X12_readCompare v0 x0 = some o) : CT l yX12_readCompare cX12_readCompare 3 (some .boolean) 3 [(shModel, ad0)] [v0] (fun aK => [.ref (ad0 0), .int x0]) (some (.int o.1)) (x_Z o.1) [o.2] := by
  refine CT_of (by decide) (fun _ => Nat.le_of_ble_eq_true rfl) ?_
  intro p e s m args below meth c D tc aK aV A X
  have X : Cx p s m args meth c cX12_readCompare 3 (some .boolean) RX12 D tc aK aV A [(shModel, ad0)] := X
  show aW p l e (x_Rm 3) s m args below meth c D tc A 3 [(shModel, ad0)] (some (.int o.1)) (x_Z o.1) [o.2] 0 [(0, .ref (ad0 0)), (1, .int x0)] [] [v0]
  unfold f_X12_readCompare at h
  refine a_aload_n (pc := 0) X 0 dX12_readCompare_0 rfl rfl ?_
  refine a_bipush (pc := 1) X dX12_readCompare_1 q_bp_60 ?_
  obtain ⟨y5, e_y5, h⟩ := x_lt_elim h
  refine a_callV (pc := 3) (st2 := [.int y5]) (vs2 := [v0]) X [(0, 0, 20)] [none] 0 0 12 [.int (60 : Int32)] [] cv_RX12_86 (c_X12_isSign (ad0 := ad0)  e_y5) rfl rfl rfl rfl rfl rfl rfl rfl rfl rfl rfl rfl rfl rfl rfl (Nat.le_of_ble_eq_true rfl) ⟨Nat.le_of_ble_eq_true rfl, Nat.le_of_ble_eq_true rfl⟩ dX12_readCompare_3 (fun z_3 => ?_)
  refine a_if_ne (pc := 6) X 33 dX12_readCompare_6 rfl (fun c_6 => ?_) (fun c_6 => ?_)
  · have h := x_ifn c_6 h
    exact w_X12_readCompare_33 X     h
  · have h := x_ifp c_6 h
    refine a_aload_n (pc := 9) X 0 dX12_readCompare_9 rfl rfl ?_
    refine a_bipush (pc := 10) X dX12_readCompare_10 q_bp_61 ?_
    obtain ⟨y6, e_y6, h⟩ := x_lt_elim h
    refine a_callV (pc := 12) (st2 := [.int y6]) (vs2 := [v0]) X [(0, 0, 20)] [none] 0 0 12 [.int (61 : Int32)] [] cv_RX12_86 (c_X12_isSign (ad0 := ad0)  e_y6) rfl rfl rfl rfl rfl rfl rfl rfl rfl rfl rfl rfl rfl rfl rfl (Nat.le_of_ble_eq_true rfl) ⟨Nat.le_of_ble_eq_true rfl, Nat.le_of_ble_eq_true rfl⟩ dX12_readCompare_12 (fun z_12 => ?_)
    refine a_if_ne (pc := 15) X 33 dX12_readCompare_15 rfl (fun c_15 => ?_) (fun c_15 => ?_)
    · have h := x_ifn c_15 h
      exact w_X12_readCompare_33 X     h
    · have h := x_ifp c_15 h
      refine a_aload_n (pc := 18) X 0 dX12_readCompare_18 rfl rfl ?_
      refine a_bipush (pc := 19) X dX12_readCompare_19 q_bp_62 ?_
      obtain ⟨y7, e_y7, h⟩ := x_lt_elim h
      refine a_callV (pc := 21) (st2 := [.int y7]) (vs2 := [v0]) X [(0, 0, 20)] [none] 0 0 12 [.int (62 : Int32)] [] cv_RX12_86 (c_X12_isSign (ad0 := ad0)  e_y7) rfl rfl rfl rfl rfl rfl rfl rfl rfl rfl rfl rfl rfl rfl rfl (Nat.le_of_ble_eq_true rfl) ⟨Nat.le_of_ble_eq_true rfl, Nat.le_of_ble_eq_true rfl⟩ dX12_readCompare_21 (fun z_21 => ?_)
      refine a_if_ne (pc := 24) X 33 dX12_readCompare_24 rfl (fun c_24 => ?_) (fun c_24 => ?_)
      · have h := x_ifn c_24 h
        exact w_X12_readCompare_33 X     h
      · have h := x_ifp c_24 h
        refine a_aload_n (pc := 27) X 0 dX12_readCompare_27 rfl rfl ?_
        refine a_iconst (pc := 28) X dX12_readCompare_28 q_ic_1 ?_
        obtain ⟨y8, e_y8, h⟩ := x_lt_elim h
        refine a_callV (pc := 29) (st2 := [.int y8.1]) (vs2 := [y8.2]) X [(0, 0, 20)] [some y8.2] 0 0 12 [.int (1 : Int32)] [] cv_RX12_72 (c_X12_bad (ad0 := ad0)  e_y8) rfl rfl rfl rfl rfl rfl rfl rfl rfl rfl rfl rfl rfl rfl rfl (Nat.le_of_ble_eq_true rfl) ⟨Nat.le_of_ble_eq_true rfl, Nat.le_of_ble_eq_true rfl⟩ dX12_readCompare_29 (fun z_29 => ?_)
        have h := Option.some.inj h; subst h
        exact a_zret (pc := 32) X z_29 z_29 dX12_readCompare_32
theorem dX12_readOr_0 : decode cX12_readOr 0 = .ok (.aload_n 0, 1) := by decide +kernel
theorem dX12_readOr_1 : decode cX12_readOr 1 = .ok (.invokevirtual 429, 3) := by decide +kernel
theorem dX12_readOr_4 : decode cX12_readOr 4 = .ok (.ifCond .ne 5, 3) := by decide +kernel
theorem dX12_readOr_7 : decode cX12_readOr 7 = .ok (.iconst 0, 1) := by decide +kernel
theorem dX12_readOr_8 : decode cX12_readOr 8 = .ok (.ireturn, 1) := by decide +kernel
theorem dX12_readOr_9 : decode cX12_readOr 9 = .ok (.aload_n 0, 1) := by decide +kernel
theorem dX12_readOr_10 : decode cX12_readOr 10 = .ok (.getfield 432, 3) := by decide +kernel
theorem dX12_readOr_13 : decode cX12_readOr 13 = .ok (.istore_n 1, 1) := by decide +kernel
theorem dX12_readOr_14 : decode cX12_readOr 14 = .ok (.aload_n 0, 1) := by decide +kernel
theorem dX12_readOr_15 : decode cX12_readOr 15 = .ok (.bipush 17, 2) := by decide +kernel
theorem dX12_readOr_17 : decode cX12_readOr 17 = .ok (.invokevirtual 180, 3) := by decide +kernel
theorem dX12_readOr_20 : decode cX12_readOr 20 = .ok (.ifCond .eq 31, 3) := by decide +kernel
theorem dX12_readOr_23 : decode cX12_readOr 23 = .ok (.aload_n 0, 1) := by decide +kernel
theorem dX12_readOr_24 : decode cX12_readOr 24 = .ok (.invokevirtual 82, 3) := by decide +kernel
theorem dX12_readOr_27 : decode cX12_readOr 27 = .ok (.aload_n 0, 1) := by decide +kernel
theorem dX12_readOr_28 : decode cX12_readOr 28 = .ok (.invokevirtual 429, 3) := by decide +kernel
theorem dX12_readOr_31 : decode cX12_readOr 31 = .ok (.ifCond .ne 5, 3) := by decide +kernel
theorem dX12_readOr_34 : decode cX12_readOr 34 = .ok (.iconst 0, 1) := by decide +kernel
theorem dX12_readOr_35 : decode cX12_readOr 35 = .ok (.ireturn, 1) := by decide +kernel
theorem dX12_readOr_36 : decode cX12_readOr 36 = .ok (.aload_n 0, 1) := by decide +kernel
theorem dX12_readOr_37 : decode cX12_readOr 37 = .ok (.iconst 3, 1) := by decide +kernel
theorem dX12_readOr_38 : decode cX12_readOr 38 = .ok (.iload_n 1, 1) := by decide +kernel
theorem dX12_readOr_39 : decode cX12_readOr 39 = .ok (.aload_n 0, 1) := by decide +kernel
theorem dX12_readOr_40 : decode cX12_readOr 40 = .ok (.getfield 432, 3) := by decide +kernel
theorem dX12_readOr_43 : decode cX12_readOr 43 = .ok (.iconst 0, 1) := by decide +kernel
theorem dX12_readOr_44 : decode cX12_readOr 44 = .ok (.invokevirtual 435, 3) := by decide +kernel
theorem dX12_readOr_47 : decode cX12_readOr 47 = .ok (.istore_n 1, 1) := by decide +kernel
theorem dX12_readOr_48 : decode cX12_readOr 48 = .ok (.goto (-34), 3) := by decide +kernel
theorem dX12_readOr_51 : decode cX12_readOr 51 = .ok (.aload_n 0, 1) := by decide +kernel
theorem dX12_readOr_52 : decode cX12_readOr 52 = .ok (.iload_n 1, 1) := by decide +kernel
theorem dX12_readOr_53 : decode cX12_readOr 53 = .ok (.putfield 432, 3) := by decide +kernel
theorem dX12_readOr_56 : decode cX12_readOr 56 = .ok (.iconst 1, 1) := by decide +kernel
theorem dX12_readOr_57 : decode cX12_readOr 57 = .ok (.ireturn, 1) := by decide +kernel
def f_X12_readOr_14 (rc : Nat → XM → Option (Int32 × XM)) (k14 : XM → Int32 → Option (Int32 × XM)) (w0 : XM) (l1 : Int32) : Option (Int32 × XM) :=
  x_lt (f_X12_isWord w0 (17 : Int32)) (fun y1 =>
  if y1 = (0 : Int32) then
  (x_lt (x_si w0 0 46 l1) (fun m2 =>
  some ((1 : Int32), m2)))
  else (x_bo (f_X12_go w0) (fun y3 =>
  x_bo (rc 1 y3) (fun y4 =>
  if y4.1 = (0 : Int32) then
  (some ((0 : Int32), y4.2))
  else (x_bo (f_X12_saysOne y4.2 (3 : Int32) l1 (y4.2.1 0 46) (0 : Int32)) (fun y5 =>
  k14 y5.2 y5.1))))))
def f_X12_readOr (rc : Nat → XM → Option (Int32 × XM)) (v0 : XM) : Option (Int32 × XM) :=
  x_bo (rc 1 v0) (fun y6 =>
  if y6.1 = (0 : Int32) then
  (some ((0 : Int32), y6.2))
  else (x_lp (φ := XM → Int32 → Option (Int32 × XM)) (fun _ _ => none) (f_X12_readOr_14 rc ) x_NN y6.2 (y6.2.1 0 46)))
set_option maxRecDepth 100000 in
set_option maxHeartbeats 4000000 in
theorem w_X12_readOr_14 {p : Program} {l : Launch} {e : Env} {s : State} {m : MethodId} {args : Array Value} {below : List Frame} {meth : Method} {c : Code} {D : va_G} {tc : Nat → ClassId} {aK aV : Nat → Nat} {A : Nat → Prop} {ad0 : Nat → Nat} {dd : Nat} {rc : Nat → XM → Option (Int32 × XM)} (X : Cx p s m args meth c cX12_readOr 2 (some .boolean) RX12 D tc aK aV A [(shModel, ad0)]) (hr_X12_readOr : ∀ {ad0 : Nat → Nat} {v0 : XM}  {o : Int32 × XM}, rc 0 v0 = some o → CT l yX12_readOr cX12_readOr 2 (some .boolean) (5 + dd) [(shModel, ad0)] [v0] (fun aK => [.ref (ad0 0)]) (some (.int o.1)) (x_Z o.1) [o.2]) (hr_X12_readAnd : ∀ {ad0 : Nat → Nat} {v0 : XM}  {o : Int32 × XM}, rc 1 v0 = some o → CT l yX12_readAnd cX12_readAnd 2 (some .boolean) (5 + dd) [(shModel, ad0)] [v0] (fun aK => [.ref (ad0 0)]) (some (.int o.1)) (x_Z o.1) [o.2]) (hr_X12_readSaid : ∀ {ad0 : Nat → Nat} {v0 : XM}  {o : Int32 × XM}, rc 2 v0 = some o → CT l yX12_readSaid cX12_readSaid 4 (some .boolean) (5 + dd) [(shModel, ad0)] [v0] (fun aK => [.ref (ad0 0)]) (some (.int o.1)) (x_Z o.1) [o.2]) (hr_X12_readNot : ∀ {ad0 : Nat → Nat} {v0 : XM}  {o : Int32 × XM}, rc 3 v0 = some o → CT l yX12_readNot cX12_readNot 1 (some .boolean) (5 + dd) [(shModel, ad0)] [v0] (fun aK => [.ref (ad0 0)]) (some (.int o.1)) (x_Z o.1) [o.2]) (hr_X12_readBracket : ∀ {ad0 : Nat → Nat} {v0 : XM}  {o : Int32 × XM}, rc 4 v0 = some o → CT l yX12_readBracket cX12_readBracket 1 (some .boolean) (5 + dd) [(shModel, ad0)] [v0] (fun aK => [.ref (ad0 0)]) (some (.int o.1)) (x_Z o.1) [o.2])  {o : Int32 × XM}  : ∀ (n : Nat), ∀ (w0 : XM) (l1 : Int32), x_lp (φ := XM → Int32 → Option (Int32 × XM)) (fun _ _ => none) (f_X12_readOr_14 rc ) n w0 l1 = some o → aW p l e (x_Rm (5 + dd + 1)) s m args below meth c D tc A 2 [(shModel, ad0)] (some (.int o.1)) (x_Z o.1) [o.2] 14 [(0, .ref (ad0 0)), (1, .int l1)] [] [w0] := by
  intro n
  induction n with
  | zero => intro w0 l1 h; exact absurd h (fun q => by cases q)
  | succ n ih =>
    intro w0 l1 h
    have h : f_X12_readOr_14 rc  (x_lp (φ := XM → Int32 → Option (Int32 × XM)) (fun _ _ => none) (f_X12_readOr_14 rc ) n) w0 l1 = some o := h
    generalize x_lp (φ := XM → Int32 → Option (Int32 × XM)) (fun _ _ => none) (f_X12_readOr_14 rc ) n = k14 at h ih
    have hk14 := ih
    unfold f_X12_readOr_14 at h
    refine a_aload_n (pc := 14) X 0 dX12_readOr_14 rfl rfl ?_
    refine a_bipush (pc := 15) X dX12_readOr_15 q_bp_17 ?_
    obtain ⟨y1, e_y1, h⟩ := x_lt_elim h
    refine a_callV (pc := 17) (st2 := [.int y1]) (vs2 := [w0]) X [(0, 0, 20)] [none] 0 0 12 [.int (17 : Int32)] [] cv_RX12_180 (c_X12_isWord (ad0 := ad0)  e_y1) rfl rfl rfl rfl rfl rfl rfl rfl rfl rfl rfl rfl rfl rfl rfl (Nat.le_of_ble_eq_true rfl) (by constructor <;> simp only [x_Rm] <;> omega) dX12_readOr_17 (fun z_17 => ?_)
    refine a_if_eq (pc := 20) X 51 dX12_readOr_20 rfl (fun c_20 => ?_) (fun c_20 => ?_)
    · have h := x_ifp c_20 h
      refine a_aload_n (pc := 51) X 0 dX12_readOr_51 rfl rfl ?_
      refine a_iload_n (pc := 52) X 1 dX12_readOr_52 rfl rfl ?_
      refine a_putI (pc := 53) X 0 fl_RX12_432 rfl rfl rfl rfl dX12_readOr_53 ?_
      obtain ⟨m2, e_m2, h⟩ := x_lt_elim h
      refine a_nm (vs2 := [m2]) (congrArg (fun q : XM => [q]) e_m2) ?_
      refine a_iconst (pc := 56) X dX12_readOr_56 q_ic_1 ?_
      have h := Option.some.inj h; subst h
      exact a_zret (pc := 57) X x_Z1 x_Z1 dX12_readOr_57
    · have h := x_ifn c_20 h
      refine a_aload_n (pc := 23) X 0 dX12_readOr_23 rfl rfl ?_
      obtain ⟨y3, e_y3, h⟩ := x_bo_elim h
      refine a_callV (pc := 24) (st2 := []) (vs2 := [y3]) X [(0, 0, 20)] [some y3] 0 0 12 [] [] cv_RX12_82 (c_X12_go (ad0 := ad0)  e_y3) rfl rfl rfl rfl rfl rfl rfl rfl rfl rfl rfl rfl rfl rfl rfl (Nat.le_of_ble_eq_true rfl) (by constructor <;> simp only [x_Rm] <;> omega) dX12_readOr_24 (fun _ => ?_)
      refine a_aload_n (pc := 27) X 0 dX12_readOr_27 rfl rfl ?_
      obtain ⟨y4, e_y4, h⟩ := x_bo_elim h
      refine a_callV (pc := 28) (st2 := [.int y4.1]) (vs2 := [y4.2]) X [(0, 0, 20)] [some y4.2] 0 0 12 [] [] cv_RX12_429 (hr_X12_readAnd (ad0 := ad0)  e_y4) rfl rfl rfl rfl rfl rfl rfl rfl rfl rfl rfl rfl rfl rfl rfl (Nat.le_of_ble_eq_true rfl) (by constructor <;> simp only [x_Rm] <;> omega) dX12_readOr_28 (fun z_28 => ?_)
      refine a_if_ne (pc := 31) X 36 dX12_readOr_31 rfl (fun c_31 => ?_) (fun c_31 => ?_)
      · have h := x_ifn c_31 h
        refine a_aload_n (pc := 36) X 0 dX12_readOr_36 rfl rfl ?_
        refine a_iconst (pc := 37) X dX12_readOr_37 q_ic_3 ?_
        refine a_iload_n (pc := 38) X 1 dX12_readOr_38 rfl rfl ?_
        refine a_aload_n (pc := 39) X 0 dX12_readOr_39 rfl rfl ?_
        refine a_getI (pc := 40) X 0 fl_RX12_432 rfl rfl rfl rfl dX12_readOr_40 ?_
        refine a_iconst (pc := 43) X dX12_readOr_43 q_ic_0 ?_
        obtain ⟨y5, e_y5, h⟩ := x_bo_elim h
        refine a_callV (pc := 44) (st2 := [.int y5.1]) (vs2 := [y5.2]) X [(0, 0, 20)] [some y5.2] 0 0 12 [.int (3 : Int32), .int l1, .int (y4.2.1 0 46), .int (0 : Int32)] [] cv_RX12_435 (c_X12_saysOne (ad0 := ad0)  e_y5) rfl rfl rfl rfl rfl rfl rfl rfl rfl rfl rfl rfl rfl rfl rfl (Nat.le_of_ble_eq_true rfl) (by constructor <;> simp only [x_Rm] <;> omega) dX12_readOr_44 (fun _ => ?_)
        refine a_istore_n (pc := 47) X [(1, .int y5.1), (0, .ref (ad0 0))] dX12_readOr_47 rfl (by decide) rfl ?_
        refine a_goto (pc := 48) X 14 dX12_readOr_48 rfl ?_
        refine a_sub [1, 0] rfl ?_
        exact hk14 _ _ h
      · have h := x_ifp c_31 h
        refine a_iconst (pc := 34) X dX12_readOr_34 q_ic_0 ?_
        have h := Option.some.inj h; subst h
        exact a_zret (pc := 35) X x_Z0 x_Z0 dX12_readOr_35
set_option maxRecDepth 100000 in
set_option maxHeartbeats 4000000 in
theorem cb_X12_readOr {l : Launch} {dd : Nat} {rc : Nat → XM → Option (Int32 × XM)} (hr_X12_readOr : ∀ {ad0 : Nat → Nat} {v0 : XM}  {o : Int32 × XM}, rc 0 v0 = some o → CT l yX12_readOr cX12_readOr 2 (some .boolean) (5 + dd) [(shModel, ad0)] [v0] (fun aK => [.ref (ad0 0)]) (some (.int o.1)) (x_Z o.1) [o.2]) (hr_X12_readAnd : ∀ {ad0 : Nat → Nat} {v0 : XM}  {o : Int32 × XM}, rc 1 v0 = some o → CT l yX12_readAnd cX12_readAnd 2 (some .boolean) (5 + dd) [(shModel, ad0)] [v0] (fun aK => [.ref (ad0 0)]) (some (.int o.1)) (x_Z o.1) [o.2]) (hr_X12_readSaid : ∀ {ad0 : Nat → Nat} {v0 : XM}  {o : Int32 × XM}, rc 2 v0 = some o → CT l yX12_readSaid cX12_readSaid 4 (some .boolean) (5 + dd) [(shModel, ad0)] [v0] (fun aK => [.ref (ad0 0)]) (some (.int o.1)) (x_Z o.1) [o.2]) (hr_X12_readNot : ∀ {ad0 : Nat → Nat} {v0 : XM}  {o : Int32 × XM}, rc 3 v0 = some o → CT l yX12_readNot cX12_readNot 1 (some .boolean) (5 + dd) [(shModel, ad0)] [v0] (fun aK => [.ref (ad0 0)]) (some (.int o.1)) (x_Z o.1) [o.2]) (hr_X12_readBracket : ∀ {ad0 : Nat → Nat} {v0 : XM}  {o : Int32 × XM}, rc 4 v0 = some o → CT l yX12_readBracket cX12_readBracket 1 (some .boolean) (5 + dd) [(shModel, ad0)] [v0] (fun aK => [.ref (ad0 0)]) (some (.int o.1)) (x_Z o.1) [o.2]) {ad0 : Nat → Nat} {v0 : XM}   {o : Int32 × XM} (h : f_X12_readOr rc v0 = some o) : CT l yX12_readOr cX12_readOr 2 (some .boolean) (5 + dd + 1) [(shModel, ad0)] [v0] (fun aK => [.ref (ad0 0)]) (some (.int o.1)) (x_Z o.1) [o.2] := by
  refine CT_of (by decide) (fun _ => Nat.le_of_ble_eq_true rfl) ?_
  intro p e s m args below meth c D tc aK aV A X
  have X : Cx p s m args meth c cX12_readOr 2 (some .boolean) RX12 D tc aK aV A [(shModel, ad0)] := X
  show aW p l e (x_Rm (5 + dd + 1)) s m args below meth c D tc A 2 [(shModel, ad0)] (some (.int o.1)) (x_Z o.1) [o.2] 0 [(0, .ref (ad0 0))] [] [v0]
  unfold f_X12_readOr at h
  refine a_aload_n (pc := 0) X 0 dX12_readOr_0 rfl rfl ?_
  obtain ⟨y6, e_y6, h⟩ := x_bo_elim h
  refine a_callV (pc := 1) (st2 := [.int y6.1]) (vs2 := [y6.2]) X [(0, 0, 20)] [some y6.2] 0 0 12 [] [] cv_RX12_429 (hr_X12_readAnd (ad0 := ad0)  e_y6) rfl rfl rfl rfl rfl rfl rfl rfl rfl rfl rfl rfl rfl rfl rfl (Nat.le_of_ble_eq_true rfl) (by constructor <;> simp only [x_Rm] <;> omega) dX12_readOr_1 (fun z_1 => ?_)
  refine a_if_ne (pc := 4) X 9 dX12_readOr_4 rfl (fun c_4 => ?_) (fun c_4 => ?_)
  · have h := x_ifn c_4 h
    refine a_aload_n (pc := 9) X 0 dX12_readOr_9 rfl rfl ?_
    refine a_getI (pc := 10) X 0 fl_RX12_432 rfl rfl rfl rfl dX12_readOr_10 ?_
    refine a_istore_n (pc := 13) X [(1, .int (y6.2.1 0 46)), (0, .ref (ad0 0))] dX12_readOr_13 rfl (by decide) rfl ?_
    refine a_sub [1, 0] rfl ?_
    exact w_X12_readOr_14 X hr_X12_readOr hr_X12_readAnd hr_X12_readSaid hr_X12_readNot hr_X12_readBracket   x_NN _ _ h
  · have h := x_ifp c_4 h
    refine a_iconst (pc := 7) X dX12_readOr_7 q_ic_0 ?_
    have h := Option.some.inj h; subst h
    exact a_zret (pc := 8) X x_Z0 x_Z0 dX12_readOr_8
theorem dX12_readAnd_0 : decode cX12_readAnd 0 = .ok (.aload_n 0, 1) := by decide +kernel
theorem dX12_readAnd_1 : decode cX12_readAnd 1 = .ok (.invokevirtual 439, 3) := by decide +kernel
theorem dX12_readAnd_4 : decode cX12_readAnd 4 = .ok (.ifCond .ne 5, 3) := by decide +kernel
theorem dX12_readAnd_7 : decode cX12_readAnd 7 = .ok (.iconst 0, 1) := by decide +kernel
theorem dX12_readAnd_8 : decode cX12_readAnd 8 = .ok (.ireturn, 1) := by decide +kernel
theorem dX12_readAnd_9 : decode cX12_readAnd 9 = .ok (.aload_n 0, 1) := by decide +kernel
theorem dX12_readAnd_10 : decode cX12_readAnd 10 = .ok (.getfield 432, 3) := by decide +kernel
theorem dX12_readAnd_13 : decode cX12_readAnd 13 = .ok (.istore_n 1, 1) := by decide +kernel
theorem dX12_readAnd_14 : decode cX12_readAnd 14 = .ok (.aload_n 0, 1) := by decide +kernel
theorem dX12_readAnd_15 : decode cX12_readAnd 15 = .ok (.bipush 18, 2) := by decide +kernel
theorem dX12_readAnd_17 : decode cX12_readAnd 17 = .ok (.invokevirtual 180, 3) := by decide +kernel
theorem dX12_readAnd_20 : decode cX12_readAnd 20 = .ok (.ifCond .eq 31, 3) := by decide +kernel
theorem dX12_readAnd_23 : decode cX12_readAnd 23 = .ok (.aload_n 0, 1) := by decide +kernel
theorem dX12_readAnd_24 : decode cX12_readAnd 24 = .ok (.invokevirtual 82, 3) := by decide +kernel
theorem dX12_readAnd_27 : decode cX12_readAnd 27 = .ok (.aload_n 0, 1) := by decide +kernel
theorem dX12_readAnd_28 : decode cX12_readAnd 28 = .ok (.invokevirtual 439, 3) := by decide +kernel
theorem dX12_readAnd_31 : decode cX12_readAnd 31 = .ok (.ifCond .ne 5, 3) := by decide +kernel
theorem dX12_readAnd_34 : decode cX12_readAnd 34 = .ok (.iconst 0, 1) := by decide +kernel
theorem dX12_readAnd_35 : decode cX12_readAnd 35 = .ok (.ireturn, 1) := by decide +kernel
theorem dX12_readAnd_36 : decode cX12_readAnd 36 = .ok (.aload_n 0, 1) := by decide +kernel
theorem dX12_readAnd_37 : decode cX12_readAnd 37 = .ok (.iconst 2, 1) := by decide +kernel
theorem dX12_readAnd_38 : decode cX12_readAnd 38 = .ok (.iload_n 1, 1) := by decide +kernel
theorem dX12_readAnd_39 : decode cX12_readAnd 39 = .ok (.aload_n 0, 1) := by decide +kernel
theorem dX12_readAnd_40 : decode cX12_readAnd 40 = .ok (.getfield 432, 3) := by decide +kernel
theorem dX12_readAnd_43 : decode cX12_readAnd 43 = .ok (.iconst 0, 1) := by decide +kernel
theorem dX12_readAnd_44 : decode cX12_readAnd 44 = .ok (.invokevirtual 435, 3) := by decide +kernel
theorem dX12_readAnd_47 : decode cX12_readAnd 47 = .ok (.istore_n 1, 1) := by decide +kernel
theorem dX12_readAnd_48 : decode cX12_readAnd 48 = .ok (.goto (-34), 3) := by decide +kernel
theorem dX12_readAnd_51 : decode cX12_readAnd 51 = .ok (.aload_n 0, 1) := by decide +kernel
theorem dX12_readAnd_52 : decode cX12_readAnd 52 = .ok (.iload_n 1, 1) := by decide +kernel
theorem dX12_readAnd_53 : decode cX12_readAnd 53 = .ok (.putfield 432, 3) := by decide +kernel
theorem dX12_readAnd_56 : decode cX12_readAnd 56 = .ok (.iconst 1, 1) := by decide +kernel
theorem dX12_readAnd_57 : decode cX12_readAnd 57 = .ok (.ireturn, 1) := by decide +kernel
def f_X12_readAnd_14 (rc : Nat → XM → Option (Int32 × XM)) (k14 : XM → Int32 → Option (Int32 × XM)) (w0 : XM) (l1 : Int32) : Option (Int32 × XM) :=
  x_lt (f_X12_isWord w0 (18 : Int32)) (fun y1 =>
  if y1 = (0 : Int32) then
  (x_lt (x_si w0 0 46 l1) (fun m2 =>
  some ((1 : Int32), m2)))
  else (x_bo (f_X12_go w0) (fun y3 =>
  x_bo (rc 2 y3) (fun y4 =>
  if y4.1 = (0 : Int32) then
  (some ((0 : Int32), y4.2))
  else (x_bo (f_X12_saysOne y4.2 (2 : Int32) l1 (y4.2.1 0 46) (0 : Int32)) (fun y5 =>
  k14 y5.2 y5.1))))))
def f_X12_readAnd (rc : Nat → XM → Option (Int32 × XM)) (v0 : XM) : Option (Int32 × XM) :=
  x_bo (rc 2 v0) (fun y6 =>
  if y6.1 = (0 : Int32) then
  (some ((0 : Int32), y6.2))
  else (x_lp (φ := XM → Int32 → Option (Int32 × XM)) (fun _ _ => none) (f_X12_readAnd_14 rc ) x_NN y6.2 (y6.2.1 0 46)))
set_option maxRecDepth 100000 in
set_option maxHeartbeats 4000000 in
theorem w_X12_readAnd_14 {p : Program} {l : Launch} {e : Env} {s : State} {m : MethodId} {args : Array Value} {below : List Frame} {meth : Method} {c : Code} {D : va_G} {tc : Nat → ClassId} {aK aV : Nat → Nat} {A : Nat → Prop} {ad0 : Nat → Nat} {dd : Nat} {rc : Nat → XM → Option (Int32 × XM)} (X : Cx p s m args meth c cX12_readAnd 2 (some .boolean) RX12 D tc aK aV A [(shModel, ad0)]) (hr_X12_readOr : ∀ {ad0 : Nat → Nat} {v0 : XM}  {o : Int32 × XM}, rc 0 v0 = some o → CT l yX12_readOr cX12_readOr 2 (some .boolean) (5 + dd) [(shModel, ad0)] [v0] (fun aK => [.ref (ad0 0)]) (some (.int o.1)) (x_Z o.1) [o.2]) (hr_X12_readAnd : ∀ {ad0 : Nat → Nat} {v0 : XM}  {o : Int32 × XM}, rc 1 v0 = some o → CT l yX12_readAnd cX12_readAnd 2 (some .boolean) (5 + dd) [(shModel, ad0)] [v0] (fun aK => [.ref (ad0 0)]) (some (.int o.1)) (x_Z o.1) [o.2]) (hr_X12_readSaid : ∀ {ad0 : Nat → Nat} {v0 : XM}  {o : Int32 × XM}, rc 2 v0 = some o → CT l yX12_readSaid cX12_readSaid 4 (some .boolean) (5 + dd) [(shModel, ad0)] [v0] (fun aK => [.ref (ad0 0)]) (some (.int o.1)) (x_Z o.1) [o.2]) (hr_X12_readNot : ∀ {ad0 : Nat → Nat} {v0 : XM}  {o : Int32 × XM}, rc 3 v0 = some o → CT l yX12_readNot cX12_readNot 1 (some .boolean) (5 + dd) [(shModel, ad0)] [v0] (fun aK => [.ref (ad0 0)]) (some (.int o.1)) (x_Z o.1) [o.2]) (hr_X12_readBracket : ∀ {ad0 : Nat → Nat} {v0 : XM}  {o : Int32 × XM}, rc 4 v0 = some o → CT l yX12_readBracket cX12_readBracket 1 (some .boolean) (5 + dd) [(shModel, ad0)] [v0] (fun aK => [.ref (ad0 0)]) (some (.int o.1)) (x_Z o.1) [o.2])  {o : Int32 × XM}  : ∀ (n : Nat), ∀ (w0 : XM) (l1 : Int32), x_lp (φ := XM → Int32 → Option (Int32 × XM)) (fun _ _ => none) (f_X12_readAnd_14 rc ) n w0 l1 = some o → aW p l e (x_Rm (5 + dd + 1)) s m args below meth c D tc A 2 [(shModel, ad0)] (some (.int o.1)) (x_Z o.1) [o.2] 14 [(0, .ref (ad0 0)), (1, .int l1)] [] [w0] := by
  intro n
  induction n with
  | zero => intro w0 l1 h; exact absurd h (fun q => by cases q)
  | succ n ih =>
    intro w0 l1 h
    have h : f_X12_readAnd_14 rc  (x_lp (φ := XM → Int32 → Option (Int32 × XM)) (fun _ _ => none) (f_X12_readAnd_14 rc ) n) w0 l1 = some o := h
    generalize x_lp (φ := XM → Int32 → Option (Int32 × XM)) (fun _ _ => none) (f_X12_readAnd_14 rc ) n = k14 at h ih
    have hk14 := ih
    unfold f_X12_readAnd_14 at h
    refine a_aload_n (pc := 14) X 0 dX12_readAnd_14 rfl rfl ?_
    refine a_bipush (pc := 15) X dX12_readAnd_15 q_bp_18 ?_
    obtain ⟨y1, e_y1, h⟩ := x_lt_elim h
    refine a_callV (pc := 17) (st2 := [.int y1]) (vs2 := [w0]) X [(0, 0, 20)] [none] 0 0 12 [.int (18 : Int32)] [] cv_RX12_180 (c_X12_isWord (ad0 := ad0)  e_y1) rfl rfl rfl rfl rfl rfl rfl rfl rfl rfl rfl rfl rfl rfl rfl (Nat.le_of_ble_eq_true rfl) (by constructor <;> simp only [x_Rm] <;> omega) dX12_readAnd_17 (fun z_17 => ?_)
    refine a_if_eq (pc := 20) X 51 dX12_readAnd_20 rfl (fun c_20 => ?_) (fun c_20 => ?_)
    · have h := x_ifp c_20 h
      refine a_aload_n (pc := 51) X 0 dX12_readAnd_51 rfl rfl ?_
      refine a_iload_n (pc := 52) X 1 dX12_readAnd_52 rfl rfl ?_
      refine a_putI (pc := 53) X 0 fl_RX12_432 rfl rfl rfl rfl dX12_readAnd_53 ?_
      obtain ⟨m2, e_m2, h⟩ := x_lt_elim h
      refine a_nm (vs2 := [m2]) (congrArg (fun q : XM => [q]) e_m2) ?_
      refine a_iconst (pc := 56) X dX12_readAnd_56 q_ic_1 ?_
      have h := Option.some.inj h; subst h
      exact a_zret (pc := 57) X x_Z1 x_Z1 dX12_readAnd_57
    · have h := x_ifn c_20 h
      refine a_aload_n (pc := 23) X 0 dX12_readAnd_23 rfl rfl ?_
      obtain ⟨y3, e_y3, h⟩ := x_bo_elim h
      refine a_callV (pc := 24) (st2 := []) (vs2 := [y3]) X [(0, 0, 20)] [some y3] 0 0 12 [] [] cv_RX12_82 (c_X12_go (ad0 := ad0)  e_y3) rfl rfl rfl rfl rfl rfl rfl rfl rfl rfl rfl rfl rfl rfl rfl (Nat.le_of_ble_eq_true rfl) (by constructor <;> simp only [x_Rm] <;> omega) dX12_readAnd_24 (fun _ => ?_)
      refine a_aload_n (pc := 27) X 0 dX12_readAnd_27 rfl rfl ?_
      obtain ⟨y4, e_y4, h⟩ := x_bo_elim h
      refine a_callV (pc := 28) (st2 := [.int y4.1]) (vs2 := [y4.2]) X [(0, 0, 20)] [some y4.2] 0 0 12 [] [] cv_RX12_439 (hr_X12_readSaid (ad0 := ad0)  e_y4) rfl rfl rfl rfl rfl rfl rfl rfl rfl rfl rfl rfl rfl rfl rfl (Nat.le_of_ble_eq_true rfl) (by constructor <;> simp only [x_Rm] <;> omega) dX12_readAnd_28 (fun z_28 => ?_)
      refine a_if_ne (pc := 31) X 36 dX12_readAnd_31 rfl (fun c_31 => ?_) (fun c_31 => ?_)
      · have h := x_ifn c_31 h
        refine a_aload_n (pc := 36) X 0 dX12_readAnd_36 rfl rfl ?_
        refine a_iconst (pc := 37) X dX12_readAnd_37 q_ic_2 ?_
        refine a_iload_n (pc := 38) X 1 dX12_readAnd_38 rfl rfl ?_
        refine a_aload_n (pc := 39) X 0 dX12_readAnd_39 rfl rfl ?_
        refine a_getI (pc := 40) X 0 fl_RX12_432 rfl rfl rfl rfl dX12_readAnd_40 ?_
        refine a_iconst (pc := 43) X dX12_readAnd_43 q_ic_0 ?_
        obtain ⟨y5, e_y5, h⟩ := x_bo_elim h
        refine a_callV (pc := 44) (st2 := [.int y5.1]) (vs2 := [y5.2]) X [(0, 0, 20)] [some y5.2] 0 0 12 [.int (2 : Int32), .int l1, .int (y4.2.1 0 46), .int (0 : Int32)] [] cv_RX12_435 (c_X12_saysOne (ad0 := ad0)  e_y5) rfl rfl rfl rfl rfl rfl rfl rfl rfl rfl rfl rfl rfl rfl rfl (Nat.le_of_ble_eq_true rfl) (by constructor <;> simp only [x_Rm] <;> omega) dX12_readAnd_44 (fun _ => ?_)
        refine a_istore_n (pc := 47) X [(1, .int y5.1), (0, .ref (ad0 0))] dX12_readAnd_47 rfl (by decide) rfl ?_
        refine a_goto (pc := 48) X 14 dX12_readAnd_48 rfl ?_
        refine a_sub [1, 0] rfl ?_
        exact hk14 _ _ h
      · have h := x_ifp c_31 h
        refine a_iconst (pc := 34) X dX12_readAnd_34 q_ic_0 ?_
        have h := Option.some.inj h; subst h
        exact a_zret (pc := 35) X x_Z0 x_Z0 dX12_readAnd_35
set_option maxRecDepth 100000 in
set_option maxHeartbeats 4000000 in
theorem cb_X12_readAnd {l : Launch} {dd : Nat} {rc : Nat → XM → Option (Int32 × XM)} (hr_X12_readOr : ∀ {ad0 : Nat → Nat} {v0 : XM}  {o : Int32 × XM}, rc 0 v0 = some o → CT l yX12_readOr cX12_readOr 2 (some .boolean) (5 + dd) [(shModel, ad0)] [v0] (fun aK => [.ref (ad0 0)]) (some (.int o.1)) (x_Z o.1) [o.2]) (hr_X12_readAnd : ∀ {ad0 : Nat → Nat} {v0 : XM}  {o : Int32 × XM}, rc 1 v0 = some o → CT l yX12_readAnd cX12_readAnd 2 (some .boolean) (5 + dd) [(shModel, ad0)] [v0] (fun aK => [.ref (ad0 0)]) (some (.int o.1)) (x_Z o.1) [o.2]) (hr_X12_readSaid : ∀ {ad0 : Nat → Nat} {v0 : XM}  {o : Int32 × XM}, rc 2 v0 = some o → CT l yX12_readSaid cX12_readSaid 4 (some .boolean) (5 + dd) [(shModel, ad0)] [v0] (fun aK => [.ref (ad0 0)]) (some (.int o.1)) (x_Z o.1) [o.2]) (hr_X12_readNot : ∀ {ad0 : Nat → Nat} {v0 : XM}  {o : Int32 × XM}, rc 3 v0 = some o → CT l yX12_readNot cX12_readNot 1 (some .boolean) (5 + dd) [(shModel, ad0)] [v0] (fun aK => [.ref (ad0 0)]) (some (.int o.1)) (x_Z o.1) [o.2]) (hr_X12_readBracket : ∀ {ad0 : Nat → Nat} {v0 : XM}  {o : Int32 × XM}, rc 4 v0 = some o → CT l yX12_readBracket cX12_readBracket 1 (some .boolean) (5 + dd) [(shModel, ad0)] [v0] (fun aK => [.ref (ad0 0)]) (some (.int o.1)) (x_Z o.1) [o.2]) {ad0 : Nat → Nat} {v0 : XM}   {o : Int32 × XM} (h : f_X12_readAnd rc v0 = some o) : CT l yX12_readAnd cX12_readAnd 2 (some .boolean) (5 + dd + 1) [(shModel, ad0)] [v0] (fun aK => [.ref (ad0 0)]) (some (.int o.1)) (x_Z o.1) [o.2] := by
  refine CT_of (by decide) (fun _ => Nat.le_of_ble_eq_true rfl) ?_
  intro p e s m args below meth c D tc aK aV A X
  have X : Cx p s m args meth c cX12_readAnd 2 (some .boolean) RX12 D tc aK aV A [(shModel, ad0)] := X
  show aW p l e (x_Rm (5 + dd + 1)) s m args below meth c D tc A 2 [(shModel, ad0)] (some (.int o.1)) (x_Z o.1) [o.2] 0 [(0, .ref (ad0 0))] [] [v0]
  unfold f_X12_readAnd at h
  refine a_aload_n (pc := 0) X 0 dX12_readAnd_0 rfl rfl ?_
  obtain ⟨y6, e_y6, h⟩ := x_bo_elim h
  refine a_callV (pc := 1) (st2 := [.int y6.1]) (vs2 := [y6.2]) X [(0, 0, 20)] [some y6.2] 0 0 12 [] [] cv_RX12_439 (hr_X12_readSaid (ad0 := ad0)  e_y6) rfl rfl rfl rfl rfl rfl rfl rfl rfl rfl rfl rfl rfl rfl rfl (Nat.le_of_ble_eq_true rfl) (by constructor <;> simp only [x_Rm] <;> omega) dX12_readAnd_1 (fun z_1 => ?_)
  refine a_if_ne (pc := 4) X 9 dX12_readAnd_4 rfl (fun c_4 => ?_) (fun c_4 => ?_)
  · have h := x_ifn c_4 h
    refine a_aload_n (pc := 9) X 0 dX12_readAnd_9 rfl rfl ?_
    refine a_getI (pc := 10) X 0 fl_RX12_432 rfl rfl rfl rfl dX12_readAnd_10 ?_
    refine a_istore_n (pc := 13) X [(1, .int (y6.2.1 0 46)), (0, .ref (ad0 0))] dX12_readAnd_13 rfl (by decide) rfl ?_
    refine a_sub [1, 0] rfl ?_
    exact w_X12_readAnd_14 X hr_X12_readOr hr_X12_readAnd hr_X12_readSaid hr_X12_readNot hr_X12_readBracket   x_NN _ _ h
  · have h := x_ifp c_4 h
    refine a_iconst (pc := 7) X dX12_readAnd_7 q_ic_0 ?_
    have h := Option.some.inj h; subst h
    exact a_zret (pc := 8) X x_Z0 x_Z0 dX12_readAnd_8
theorem dX12_readSaid_0 : decode cX12_readSaid 0 = .ok (.aload_n 0, 1) := by decide +kernel
theorem dX12_readSaid_1 : decode cX12_readSaid 1 = .ok (.bipush 40, 2) := by decide +kernel
theorem dX12_readSaid_3 : decode cX12_readSaid 3 = .ok (.invokevirtual 86, 3) := by decide +kernel
theorem dX12_readSaid_6 : decode cX12_readSaid 6 = .ok (.istore_n 1, 1) := by decide +kernel
theorem dX12_readSaid_7 : decode cX12_readSaid 7 = .ok (.bipush 19, 2) := by decide +kernel
theorem dX12_readSaid_9 : decode cX12_readSaid 9 = .ok (.istore_n 2, 1) := by decide +kernel
theorem dX12_readSaid_10 : decode cX12_readSaid 10 = .ok (.iload_n 2, 1) := by decide +kernel
theorem dX12_readSaid_11 : decode cX12_readSaid 11 = .ok (.bipush 28, 2) := by decide +kernel
theorem dX12_readSaid_13 : decode cX12_readSaid 13 = .ok (.if_icmp .gt 17, 3) := by decide +kernel
theorem dX12_readSaid_16 : decode cX12_readSaid 16 = .ok (.aload_n 0, 1) := by decide +kernel
theorem dX12_readSaid_17 : decode cX12_readSaid 17 = .ok (.iload_n 2, 1) := by decide +kernel
theorem dX12_readSaid_18 : decode cX12_readSaid 18 = .ok (.invokevirtual 180, 3) := by decide +kernel
theorem dX12_readSaid_21 : decode cX12_readSaid 21 = .ok (.ifCond .ne 9, 3) := by decide +kernel
theorem dX12_readSaid_24 : decode cX12_readSaid 24 = .ok (.iinc 2 1, 3) := by decide +kernel
theorem dX12_readSaid_27 : decode cX12_readSaid 27 = .ok (.goto (-17), 3) := by decide +kernel
theorem dX12_readSaid_30 : decode cX12_readSaid 30 = .ok (.iload_n 1, 1) := by decide +kernel
theorem dX12_readSaid_31 : decode cX12_readSaid 31 = .ok (.ifCond .ne 15, 3) := by decide +kernel
theorem dX12_readSaid_34 : decode cX12_readSaid 34 = .ok (.iload_n 2, 1) := by decide +kernel
theorem dX12_readSaid_35 : decode cX12_readSaid 35 = .ok (.bipush 28, 2) := by decide +kernel
theorem dX12_readSaid_37 : decode cX12_readSaid 37 = .ok (.if_icmp .le 9, 3) := by decide +kernel
theorem dX12_readSaid_40 : decode cX12_readSaid 40 = .ok (.aload_n 0, 1) := by decide +kernel
theorem dX12_readSaid_41 : decode cX12_readSaid 41 = .ok (.iconst 1, 1) := by decide +kernel
theorem dX12_readSaid_42 : decode cX12_readSaid 42 = .ok (.invokevirtual 72, 3) := by decide +kernel
theorem dX12_readSaid_45 : decode cX12_readSaid 45 = .ok (.ireturn, 1) := by decide +kernel
theorem dX12_readSaid_46 : decode cX12_readSaid 46 = .ok (.aload_n 0, 1) := by decide +kernel
theorem dX12_readSaid_47 : decode cX12_readSaid 47 = .ok (.getfield 442, 3) := by decide +kernel
theorem dX12_readSaid_50 : decode cX12_readSaid 50 = .ok (.bipush 20, 2) := by decide +kernel
theorem dX12_readSaid_52 : decode cX12_readSaid 52 = .ok (.if_icmp .eq 12, 3) := by decide +kernel
theorem dX12_readSaid_55 : decode cX12_readSaid 55 = .ok (.aload_n 0, 1) := by decide +kernel
theorem dX12_readSaid_56 : decode cX12_readSaid 56 = .ok (.getfield 445, 3) := by decide +kernel
theorem dX12_readSaid_59 : decode cX12_readSaid 59 = .ok (.bipush 8, 2) := by decide +kernel
theorem dX12_readSaid_61 : decode cX12_readSaid 61 = .ok (.if_icmp .ne 9, 3) := by decide +kernel
theorem dX12_readSaid_64 : decode cX12_readSaid 64 = .ok (.aload_n 0, 1) := by decide +kernel
theorem dX12_readSaid_65 : decode cX12_readSaid 65 = .ok (.iconst 4, 1) := by decide +kernel
theorem dX12_readSaid_66 : decode cX12_readSaid 66 = .ok (.invokevirtual 72, 3) := by decide +kernel
theorem dX12_readSaid_69 : decode cX12_readSaid 69 = .ok (.ireturn, 1) := by decide +kernel
theorem dX12_readSaid_70 : decode cX12_readSaid 70 = .ok (.aload_n 0, 1) := by decide +kernel
theorem dX12_readSaid_71 : decode cX12_readSaid 71 = .ok (.dup, 1) := by decide +kernel
theorem dX12_readSaid_72 : decode cX12_readSaid 72 = .ok (.getfield 442, 3) := by decide +kernel
theorem dX12_readSaid_75 : decode cX12_readSaid 75 = .ok (.iconst 1, 1) := by decide +kernel
theorem dX12_readSaid_76 : decode cX12_readSaid 76 = .ok (.iadd, 1) := by decide +kernel
theorem dX12_readSaid_77 : decode cX12_readSaid 77 = .ok (.putfield 442, 3) := by decide +kernel
theorem dX12_readSaid_80 : decode cX12_readSaid 80 = .ok (.aload_n 0, 1) := by decide +kernel
theorem dX12_readSaid_81 : decode cX12_readSaid 81 = .ok (.dup, 1) := by decide +kernel
theorem dX12_readSaid_82 : decode cX12_readSaid 82 = .ok (.getfield 445, 3) := by decide +kernel
theorem dX12_readSaid_85 : decode cX12_readSaid 85 = .ok (.iconst 1, 1) := by decide +kernel
theorem dX12_readSaid_86 : decode cX12_readSaid 86 = .ok (.iadd, 1) := by decide +kernel
theorem dX12_readSaid_87 : decode cX12_readSaid 87 = .ok (.putfield 445, 3) := by decide +kernel
theorem dX12_readSaid_90 : decode cX12_readSaid 90 = .ok (.aload_n 0, 1) := by decide +kernel
theorem dX12_readSaid_91 : decode cX12_readSaid 91 = .ok (.invokevirtual 82, 3) := by decide +kernel
theorem dX12_readSaid_94 : decode cX12_readSaid 94 = .ok (.iconst 1, 1) := by decide +kernel
theorem dX12_readSaid_95 : decode cX12_readSaid 95 = .ok (.istore_n 3, 1) := by decide +kernel
theorem dX12_readSaid_96 : decode cX12_readSaid 96 = .ok (.iload_n 1, 1) := by decide +kernel
theorem dX12_readSaid_97 : decode cX12_readSaid 97 = .ok (.ifCond .eq 11, 3) := by decide +kernel
theorem dX12_readSaid_100 : decode cX12_readSaid 100 = .ok (.aload_n 0, 1) := by decide +kernel
theorem dX12_readSaid_101 : decode cX12_readSaid 101 = .ok (.invokevirtual 448, 3) := by decide +kernel
theorem dX12_readSaid_104 : decode cX12_readSaid 104 = .ok (.istore_n 3, 1) := by decide +kernel
theorem dX12_readSaid_105 : decode cX12_readSaid 105 = .ok (.goto 61, 3) := by decide +kernel
theorem dX12_readSaid_108 : decode cX12_readSaid 108 = .ok (.iload_n 2, 1) := by decide +kernel
theorem dX12_readSaid_109 : decode cX12_readSaid 109 = .ok (.bipush 19, 2) := by decide +kernel
theorem dX12_readSaid_111 : decode cX12_readSaid 111 = .ok (.if_icmp .ne 11, 3) := by decide +kernel
theorem dX12_readSaid_114 : decode cX12_readSaid 114 = .ok (.aload_n 0, 1) := by decide +kernel
theorem dX12_readSaid_115 : decode cX12_readSaid 115 = .ok (.invokevirtual 451, 3) := by decide +kernel
theorem dX12_readSaid_118 : decode cX12_readSaid 118 = .ok (.istore_n 3, 1) := by decide +kernel
theorem dX12_readSaid_119 : decode cX12_readSaid 119 = .ok (.goto 47, 3) := by decide +kernel
theorem dX12_readSaid_122 : decode cX12_readSaid 122 = .ok (.iload_n 2, 1) := by decide +kernel
theorem dX12_readSaid_123 : decode cX12_readSaid 123 = .ok (.bipush 23, 2) := by decide +kernel
theorem dX12_readSaid_125 : decode cX12_readSaid 125 = .ok (.if_icmp .ge 21, 3) := by decide +kernel
theorem dX12_readSaid_128 : decode cX12_readSaid 128 = .ok (.aload_n 0, 1) := by decide +kernel
theorem dX12_readSaid_129 : decode cX12_readSaid 129 = .ok (.aload_n 0, 1) := by decide +kernel
theorem dX12_readSaid_130 : decode cX12_readSaid 130 = .ok (.bipush 50, 2) := by decide +kernel
theorem dX12_readSaid_132 : decode cX12_readSaid 132 = .ok (.iload_n 2, 1) := by decide +kernel
theorem dX12_readSaid_133 : decode cX12_readSaid 133 = .ok (.iadd, 1) := by decide +kernel
theorem dX12_readSaid_134 : decode cX12_readSaid 134 = .ok (.iconst 0, 1) := by decide +kernel
theorem dX12_readSaid_135 : decode cX12_readSaid 135 = .ok (.iconst 0, 1) := by decide +kernel
theorem dX12_readSaid_136 : decode cX12_readSaid 136 = .ok (.iconst 0, 1) := by decide +kernel
theorem dX12_readSaid_137 : decode cX12_readSaid 137 = .ok (.invokevirtual 435, 3) := by decide +kernel
theorem dX12_readSaid_140 : decode cX12_readSaid 140 = .ok (.putfield 432, 3) := by decide +kernel
theorem dX12_readSaid_143 : decode cX12_readSaid 143 = .ok (.goto 23, 3) := by decide +kernel
theorem dX12_readSaid_146 : decode cX12_readSaid 146 = .ok (.iload_n 2, 1) := by decide +kernel
theorem dX12_readSaid_147 : decode cX12_readSaid 147 = .ok (.bipush 25, 2) := by decide +kernel
theorem dX12_readSaid_149 : decode cX12_readSaid 149 = .ok (.if_icmp .ge 11, 3) := by decide +kernel
theorem dX12_readSaid_152 : decode cX12_readSaid 152 = .ok (.aload_n 0, 1) := by decide +kernel
theorem dX12_readSaid_153 : decode cX12_readSaid 153 = .ok (.iload_n 2, 1) := by decide +kernel
theorem dX12_readSaid_154 : decode cX12_readSaid 154 = .ok (.invokevirtual 454, 3) := by decide +kernel
theorem dX12_readSaid_157 : decode cX12_readSaid 157 = .ok (.goto 8, 3) := by decide +kernel
theorem dX12_readSaid_160 : decode cX12_readSaid 160 = .ok (.aload_n 0, 1) := by decide +kernel
theorem dX12_readSaid_161 : decode cX12_readSaid 161 = .ok (.iload_n 2, 1) := by decide +kernel
theorem dX12_readSaid_162 : decode cX12_readSaid 162 = .ok (.invokevirtual 457, 3) := by decide +kernel
theorem dX12_readSaid_165 : decode cX12_readSaid 165 = .ok (.istore_n 3, 1) := by decide +kernel
theorem dX12_readSaid_166 : decode cX12_readSaid 166 = .ok (.aload_n 0, 1) := by decide +kernel
theorem dX12_readSaid_167 : decode cX12_readSaid 167 = .ok (.dup, 1) := by decide +kernel
theorem dX12_readSaid_168 : decode cX12_readSaid 168 = .ok (.getfield 445, 3) := by decide +kernel
theorem dX12_readSaid_171 : decode cX12_readSaid 171 = .ok (.iconst 1, 1) := by decide +kernel
theorem dX12_readSaid_172 : decode cX12_readSaid 172 = .ok (.isub, 1) := by decide +kernel
theorem dX12_readSaid_173 : decode cX12_readSaid 173 = .ok (.putfield 445, 3) := by decide +kernel
theorem dX12_readSaid_176 : decode cX12_readSaid 176 = .ok (.iload_n 3, 1) := by decide +kernel
theorem dX12_readSaid_177 : decode cX12_readSaid 177 = .ok (.ireturn, 1) := by decide +kernel
def f_X12_readSaid_64 (rc : Nat → XM → Option (Int32 × XM)) (w0 : XM) : Option (Int32 × XM) :=
  x_lt (f_X12_bad w0 (4 : Int32)) (fun y1 =>
  some (y1.1, y1.2))
def f_X12_readSaid_166 (rc : Nat → XM → Option (Int32 × XM)) (w0 : XM) (l3 : Int32) : Option (Int32 × XM) :=
  x_lt (x_si w0 0 45 ((w0.1 0 45) - (1 : Int32))) (fun m2 =>
  some (l3, m2))
def f_X12_readSaid_165 (rc : Nat → XM → Option (Int32 × XM)) (w0 : XM) (s0 : Int32) : Option (Int32 × XM) :=
  f_X12_readSaid_166 rc  w0 s0
def f_X12_readSaid_46 (rc : Nat → XM → Option (Int32 × XM)) (w0 : XM) (l1 : Int32) (l2 : Int32) : Option (Int32 × XM) :=
  if ((w0.1 0 44) : Int32) = (20 : Int32) then
  (f_X12_readSaid_64 rc  w0)
  else (if ((w0.1 0 45) : Int32) = (8 : Int32) then
  (f_X12_readSaid_64 rc  w0)
  else (x_lt (x_si w0 0 44 ((w0.1 0 44) + (1 : Int32))) (fun m3 =>
  x_lt (x_si m3 0 45 ((m3.1 0 45) + (1 : Int32))) (fun m4 =>
  x_bo (f_X12_go m4) (fun y5 =>
  if l1 = (0 : Int32) then
  (if (l2 : Int32) = (19 : Int32) then
  (x_bo (rc 3 y5) (fun y10 =>
  f_X12_readSaid_166 rc  y10.2 y10.1))
  else (if ((23 : Int32) : Int32) ≤ l2 then
  (if ((25 : Int32) : Int32) ≤ l2 then
  (x_bo (f_X12_readCompare y5 l2) (fun y6 =>
  f_X12_readSaid_165 rc  y6.2 y6.1))
  else (x_bo (f_X12_readOf y5 l2) (fun y7 =>
  f_X12_readSaid_165 rc  y7.2 y7.1)))
  else (x_bo (f_X12_saysOne y5 ((50 : Int32) + l2) (0 : Int32) (0 : Int32) (0 : Int32)) (fun y8 =>
  x_lt (x_si y8.2 0 46 y8.1) (fun m9 =>
  f_X12_readSaid_166 rc  m9 (1 : Int32))))))
  else (x_bo (rc 4 y5) (fun y11 =>
  f_X12_readSaid_166 rc  y11.2 y11.1)))))))
def f_X12_readSaid_30 (rc : Nat → XM → Option (Int32 × XM)) (w0 : XM) (l1 : Int32) (l2 : Int32) : Option (Int32 × XM) :=
  if l1 = (0 : Int32) then
  (if (l2 : Int32) ≤ (28 : Int32) then
  (f_X12_readSaid_46 rc  w0 l1 l2)
  else (x_lt (f_X12_bad w0 (1 : Int32)) (fun y12 =>
  some (y12.1, y12.2))))
  else (f_X12_readSaid_46 rc  w0 l1 l2)
def f_X12_readSaid_10 (rc : Nat → XM → Option (Int32 × XM)) (k10 : XM → Int32 → Int32 → Option (Int32 × XM)) (w0 : XM) (l1 : Int32) (l2 : Int32) : Option (Int32 × XM) :=
  if ((28 : Int32) : Int32) < l2 then
  (f_X12_readSaid_30 rc  w0 l1 l2)
  else (x_lt (f_X12_isWord w0 l2) (fun y13 =>
  if y13 = (0 : Int32) then
  (k10 w0 l1 (l2 + 1))
  else (f_X12_readSaid_30 rc  w0 l1 l2)))
def f_X12_readSaid (rc : Nat → XM → Option (Int32 × XM)) (v0 : XM) : Option (Int32 × XM) :=
  x_lt (f_X12_isSign v0 (40 : Int32)) (fun y14 =>
  x_lp (φ := XM → Int32 → Int32 → Option (Int32 × XM)) (fun _ _ _ => none) (f_X12_readSaid_10 rc ) x_NN v0 y14 (19 : Int32))
set_option maxRecDepth 100000 in
set_option maxHeartbeats 4000000 in
theorem w_X12_readSaid_64 {p : Program} {l : Launch} {e : Env} {s : State} {m : MethodId} {args : Array Value} {below : List Frame} {meth : Method} {c : Code} {D : va_G} {tc : Nat → ClassId} {aK aV : Nat → Nat} {A : Nat → Prop} {ad0 : Nat → Nat} {dd : Nat} {rc : Nat → XM → Option (Int32 × XM)} (X : Cx p s m args meth c cX12_readSaid 4 (some .boolean) RX12 D tc aK aV A [(shModel, ad0)]) (hr_X12_readOr : ∀ {ad0 : Nat → Nat} {v0 : XM}  {o : Int32 × XM}, rc 0 v0 = some o → CT l yX12_readOr cX12_readOr 2 (some .boolean) (5 + dd) [(shModel, ad0)] [v0] (fun aK => [.ref (ad0 0)]) (some (.int o.1)) (x_Z o.1) [o.2]) (hr_X12_readAnd : ∀ {ad0 : Nat → Nat} {v0 : XM}  {o : Int32 × XM}, rc 1 v0 = some o → CT l yX12_readAnd cX12_readAnd 2 (some .boolean) (5 + dd) [(shModel, ad0)] [v0] (fun aK => [.ref (ad0 0)]) (some (.int o.1)) (x_Z o.1) [o.2]) (hr_X12_readSaid : ∀ {ad0 : Nat → Nat} {v0 : XM}  {o : Int32 × XM}, rc 2 v0 = some o → CT l yX12_readSaid cX12_readSaid 4 (some .boolean) (5 + dd) [(shModel, ad0)] [v0] (fun aK => [.ref (ad0 0)]) (some (.int o.1)) (x_Z o.1) [o.2]) (hr_X12_readNot : ∀ {ad0 : Nat → Nat} {v0 : XM}  {o : Int32 × XM}, rc 3 v0 = some o → CT l yX12_readNot cX12_readNot 1 (some .boolean) (5 + dd) [(shModel, ad0)] [v0] (fun aK => [.ref (ad0 0)]) (some (.int o.1)) (x_Z o.1) [o.2]) (hr_X12_readBracket : ∀ {ad0 : Nat → Nat} {v0 : XM}  {o : Int32 × XM}, rc 4 v0 = some o → CT l yX12_readBracket cX12_readBracket 1 (some .boolean) (5 + dd) [(shModel, ad0)] [v0] (fun aK => [.ref (ad0 0)]) (some (.int o.1)) (x_Z o.1) [o.2])  {o : Int32 × XM}  {w0 : XM}  (h : f_X12_readSaid_64 rc  w0 = some o) : aW p l e (x_Rm (5 + dd + 1)) s m args below meth c D tc A 4 [(shModel, ad0)] (some (.int o.1)) (x_Z o.1) [o.2] 64 [(0, .ref (ad0 0))] [] [w0] := by
  unfold f_X12_readSaid_64 at h
  refine a_aload_n (pc := 64) X 0 dX12_readSaid_64 rfl rfl ?_
  refine a_iconst (pc := 65) X dX12_readSaid_65 q_ic_4 ?_
  obtain ⟨y1, e_y1, h⟩ := x_lt_elim h
  refine a_callV (pc := 66) (st2 := [.int y1.1]) (vs2 := [y1.2]) X [(0, 0, 20)] [some y1.2] 0 0 12 [.int (4 : Int32)] [] cv_RX12_72 (c_X12_bad (ad0 := ad0)  e_y1) rfl rfl rfl rfl rfl rfl rfl rfl rfl rfl rfl rfl rfl rfl rfl (Nat.le_of_ble_eq_true rfl) (by constructor <;> simp only [x_Rm] <;> omega) dX12_readSaid_66 (fun z_66 => ?_)
  have h := Option.some.inj h; subst h
  exact a_zret (pc := 69) X z_66 z_66 dX12_readSaid_69
set_option maxRecDepth 100000 in
set_option maxHeartbeats 4000000 in
theorem w_X12_readSaid_166 {p : Program} {l : Launch} {e : Env} {s : State} {m : MethodId} {args : Array Value} {below : List Frame} {meth : Method} {c : Code} {D : va_G} {tc : Nat → ClassId} {aK aV : Nat → Nat} {A : Nat → Prop} {ad0 : Nat → Nat} {dd : Nat} {rc : Nat → XM → Option (Int32 × XM)} (X : Cx p s m args meth c cX12_readSaid 4 (some .boolean) RX12 D tc aK aV A [(shModel, ad0)]) (hr_X12_readOr : ∀ {ad0 : Nat → Nat} {v0 : XM}  {o : Int32 × XM}, rc 0 v0 = some o → CT l yX12_readOr cX12_readOr 2 (some .boolean) (5 + dd) [(shModel, ad0)] [v0] (fun aK => [.ref (ad0 0)]) (some (.int o.1)) (x_Z o.1) [o.2]) (hr_X12_readAnd : ∀ {ad0 : Nat → Nat} {v0 : XM}  {o : Int32 × XM}, rc 1 v0 = some o → CT l yX12_readAnd cX12_readAnd 2 (some .boolean) (5 + dd) [(shModel, ad0)] [v0] (fun aK => [.ref (ad0 0)]) (some (.int o.1)) (x_Z o.1) [o.2]) (hr_X12_readSaid : ∀ {ad0 : Nat → Nat} {v0 : XM}  {o : Int32 × XM}, rc 2 v0 = some o → CT l yX12_readSaid cX12_readSaid 4 (some .boolean) (5 + dd) [(shModel, ad0)] [v0] (fun aK => [.ref (ad0 0)]) (some (.int o.1)) (x_Z o.1) [o.2]) (hr_X12_readNot : ∀ {ad0 : Nat → Nat} {v0 : XM}  {o : Int32 × XM}, rc 3 v0 = some o → CT l yX12_readNot cX12_readNot 1 (some .boolean) (5 + dd) [(shModel, ad0)] [v0] (fun aK => [.ref (ad0 0)]) (some (.int o.1)) (x_Z o.1) [o.2]) (hr_X12_readBracket : ∀ {ad0 : Nat → Nat} {v0 : XM}  {o : Int32 × XM}, rc 4 v0 = some o → CT l yX12_readBracket cX12_readBracket 1 (some .boolean) (5 + dd) [(shModel, ad0)] [v0] (fun aK => [.ref (ad0 0)]) (some (.int o.1)) (x_Z o.1) [o.2])  {o : Int32 × XM}  {w0 : XM} {l3 : Int32} (hzl3 : x_Z l3) (h : f_X12_readSaid_166 rc  w0 l3 = some o) : aW p l e (x_Rm (5 + dd + 1)) s m args below meth c D tc A 4 [(shModel, ad0)] (some (.int o.1)) (x_Z o.1) [o.2] 166 [(0, .ref (ad0 0)), (3, .int l3)] [] [w0] := by
  unfold f_X12_readSaid_166 at h
  refine a_aload_n (pc := 166) X 0 dX12_readSaid_166 rfl rfl ?_
  refine a_dup (pc := 167) X dX12_readSaid_167 rfl ?_
  refine a_getI (pc := 168) X 0 fl_RX12_445 rfl rfl rfl rfl dX12_readSaid_168 ?_
  refine a_iconst (pc := 171) X dX12_readSaid_171 q_ic_1 ?_
  refine a_isub (pc := 172) X dX12_readSaid_172 ?_
  refine a_putI (pc := 173) X 0 fl_RX12_445 rfl rfl rfl rfl dX12_readSaid_173 ?_
  obtain ⟨m2, e_m2, h⟩ := x_lt_elim h
  refine a_nm (vs2 := [m2]) (congrArg (fun q : XM => [q]) e_m2) ?_
  refine a_iload_n (pc := 176) X 1 dX12_readSaid_176 rfl rfl ?_
  have h := Option.some.inj h; subst h
  exact a_zret (pc := 177) X hzl3 hzl3 dX12_readSaid_177
set_option maxRecDepth 100000 in
set_option maxHeartbeats 4000000 in
theorem w_X12_readSaid_165 {p : Program} {l : Launch} {e : Env} {s : State} {m : MethodId} {args : Array Value} {below : List Frame} {meth : Method} {c : Code} {D : va_G} {tc : Nat → ClassId} {aK aV : Nat → Nat} {A : Nat → Prop} {ad0 : Nat → Nat} {dd : Nat} {rc : Nat → XM → Option (Int32 × XM)} (X : Cx p s m args meth c cX12_readSaid 4 (some .boolean) RX12 D tc aK aV A [(shModel, ad0)]) (hr_X12_readOr : ∀ {ad0 : Nat → Nat} {v0 : XM}  {o : Int32 × XM}, rc 0 v0 = some o → CT l yX12_readOr cX12_readOr 2 (some .boolean) (5 + dd) [(shModel, ad0)] [v0] (fun aK => [.ref (ad0 0)]) (some (.int o.1)) (x_Z o.1) [o.2]) (hr_X12_readAnd : ∀ {ad0 : Nat → Nat} {v0 : XM}  {o : Int32 × XM}, rc 1 v0 = some o → CT l yX12_readAnd cX12_readAnd 2 (some .boolean) (5 + dd) [(shModel, ad0)] [v0] (fun aK => [.ref (ad0 0)]) (some (.int o.1)) (x_Z o.1) [o.2]) (hr_X12_readSaid : ∀ {ad0 : Nat → Nat} {v0 : XM}  {o : Int32 × XM}, rc 2 v0 = some o → CT l yX12_readSaid cX12_readSaid 4 (some .boolean) (5 + dd) [(shModel, ad0)] [v0] (fun aK => [.ref (ad0 0)]) (some (.int o.1)) (x_Z o.1) [o.2]) (hr_X12_readNot : ∀ {ad0 : Nat → Nat} {v0 : XM}  {o : Int32 × XM}, rc 3 v0 = some o → CT l yX12_readNot cX12_readNot 1 (some .boolean) (5 + dd) [(shModel, ad0)] [v0] (fun aK => [.ref (ad0 0)]) (some (.int o.1)) (x_Z o.1) [o.2]) (hr_X12_readBracket : ∀ {ad0 : Nat → Nat} {v0 : XM}  {o : Int32 × XM}, rc 4 v0 = some o → CT l yX12_readBracket cX12_readBracket 1 (some .boolean) (5 + dd) [(shModel, ad0)] [v0] (fun aK => [.ref (ad0 0)]) (some (.int o.1)) (x_Z o.1) [o.2])  {o : Int32 × XM}  {w0 : XM} {s0 : Int32} (hzs0 : x_Z s0) (h : f_X12_readSaid_165 rc  w0 s0 = some o) : aW p l e (x_Rm (5 + dd + 1)) s m args below meth c D tc A 4 [(shModel, ad0)] (some (.int o.1)) (x_Z o.1) [o.2] 165 [(0, .ref (ad0 0))] [.int s0] [w0] := by
  unfold f_X12_readSaid_165 at h
  refine a_istore_n (pc := 165) X [(3, .int s0), (0, .ref (ad0 0))] dX12_readSaid_165 rfl (by decide) rfl ?_
  refine a_sub [1, 0] rfl ?_
  exact w_X12_readSaid_166 X hr_X12_readOr hr_X12_readAnd hr_X12_readSaid hr_X12_readNot hr_X12_readBracket   hzs0 h
set_option maxRecDepth 100000 in
set_option maxHeartbeats 4000000 in
theorem w_X12_readSaid_46 {p : Program} {l : Launch} {e : Env} {s : State} {m : MethodId} {args : Array Value} {below : List Frame} {meth : Method} {c : Code} {D : va_G} {tc : Nat → ClassId} {aK aV : Nat → Nat} {A : Nat → Prop} {ad0 : Nat → Nat} {dd : Nat} {rc : Nat → XM → Option (Int32 × XM)} (X : Cx p s m args meth c cX12_readSaid 4 (some .boolean) RX12 D tc aK aV A [(shModel, ad0)]) (hr_X12_readOr : ∀ {ad0 : Nat → Nat} {v0 : XM}  {o : Int32 × XM}, rc 0 v0 = some o → CT l yX12_readOr cX12_readOr 2 (some .boolean) (5 + dd) [(shModel, ad0)] [v0] (fun aK => [.ref (ad0 0)]) (some (.int o.1)) (x_Z o.1) [o.2]) (hr_X12_readAnd : ∀ {ad0 : Nat → Nat} {v0 : XM}  {o : Int32 × XM}, rc 1 v0 = some o → CT l yX12_readAnd cX12_readAnd 2 (some .boolean) (5 + dd) [(shModel, ad0)] [v0] (fun aK => [.ref (ad0 0)]) (some (.int o.1)) (x_Z o.1) [o.2]) (hr_X12_readSaid : ∀ {ad0 : Nat → Nat} {v0 : XM}  {o : Int32 × XM}, rc 2 v0 = some o → CT l yX12_readSaid cX12_readSaid 4 (some .boolean) (5 + dd) [(shModel, ad0)] [v0] (fun aK => [.ref (ad0 0)]) (some (.int o.1)) (x_Z o.1) [o.2]) (hr_X12_readNot : ∀ {ad0 : Nat → Nat} {v0 : XM}  {o : Int32 × XM}, rc 3 v0 = some o → CT l yX12_readNot cX12_readNot 1 (some .boolean) (5 + dd) [(shModel, ad0)] [v0] (fun aK => [.ref (ad0 0)]) (some (.int o.1)) (x_Z o.1) [o.2]) (hr_X12_readBracket : ∀ {ad0 : Nat → Nat} {v0 : XM}  {o : Int32 × XM}, rc 4 v0 = some o → CT l yX12_readBracket cX12_readBracket 1 (some .boolean) (5 + dd) [(shModel, ad0)] [v0] (fun aK => [.ref (ad0 0)]) (some (.int o.1)) (x_Z o.1) [o.2])  {o : Int32 × XM}  {w0 : XM} {l1 : Int32} {l2 : Int32}  (h : f_X12_readSaid_46 rc  w0 l1 l2 = some o) : aW p l e (x_Rm (5 + dd + 1)) s m args below meth c D tc A 4 [(shModel, ad0)] (some (.int o.1)) (x_Z o.1) [o.2] 46 [(0, .ref (ad0 0)), (1, .int l1), (2, .int l2)] [] [w0] := by
  unfold f_X12_readSaid_46 at h
  refine a_aload_n (pc := 46) X 0 dX12_readSaid_46 rfl rfl ?_
  refine a_getI (pc := 47) X 0 fl_RX12_442 rfl rfl rfl rfl dX12_readSaid_47 ?_
  refine a_bipush (pc := 50) X dX12_readSaid_50 q_bp_20 ?_
  refine a_icmp_eq (pc := 52) X 64 dX12_readSaid_52 rfl (fun c_52 => ?_) (fun c_52 => ?_)
  · have h := x_ifp c_52 h
    refine a_sub [0] rfl ?_
    exact w_X12_readSaid_64 X hr_X12_readOr hr_X12_readAnd hr_X12_readSaid hr_X12_readNot hr_X12_readBracket    h
  · have h := x_ifn c_52 h
    refine a_aload_n (pc := 55) X 0 dX12_readSaid_55 rfl rfl ?_
    refine a_getI (pc := 56) X 0 fl_RX12_445 rfl rfl rfl rfl dX12_readSaid_56 ?_
    refine a_bipush (pc := 59) X dX12_readSaid_59 q_bp_8 ?_
    refine a_icmp_ne (pc := 61) X 70 dX12_readSaid_61 rfl (fun c_61 => ?_) (fun c_61 => ?_)
    · have h := x_ifn c_61 h
      refine a_aload_n (pc := 70) X 0 dX12_readSaid_70 rfl rfl ?_
      refine a_dup (pc := 71) X dX12_readSaid_71 rfl ?_
      refine a_getI (pc := 72) X 0 fl_RX12_442 rfl rfl rfl rfl dX12_readSaid_72 ?_
      refine a_iconst (pc := 75) X dX12_readSaid_75 q_ic_1 ?_
      refine a_iadd (pc := 76) X dX12_readSaid_76 ?_
      refine a_putI (pc := 77) X 0 fl_RX12_442 rfl rfl rfl rfl dX12_readSaid_77 ?_
      obtain ⟨m3, e_m3, h⟩ := x_lt_elim h
      refine a_nm (vs2 := [m3]) (congrArg (fun q : XM => [q]) e_m3) ?_
      refine a_aload_n (pc := 80) X 0 dX12_readSaid_80 rfl rfl ?_
      refine a_dup (pc := 81) X dX12_readSaid_81 rfl ?_
      refine a_getI (pc := 82) X 0 fl_RX12_445 rfl rfl rfl rfl dX12_readSaid_82 ?_
      refine a_iconst (pc := 85) X dX12_readSaid_85 q_ic_1 ?_
      refine a_iadd (pc := 86) X dX12_readSaid_86 ?_
      refine a_putI (pc := 87) X 0 fl_RX12_445 rfl rfl rfl rfl dX12_readSaid_87 ?_
      obtain ⟨m4, e_m4, h⟩ := x_lt_elim h
      refine a_nm (vs2 := [m4]) (congrArg (fun q : XM => [q]) e_m4) ?_
      refine a_aload_n (pc := 90) X 0 dX12_readSaid_90 rfl rfl ?_
      obtain ⟨y5, e_y5, h⟩ := x_bo_elim h
      refine a_callV (pc := 91) (st2 := []) (vs2 := [y5]) X [(0, 0, 20)] [some y5] 0 0 12 [] [] cv_RX12_82 (c_X12_go (ad0 := ad0)  e_y5) rfl rfl rfl rfl rfl rfl rfl rfl rfl rfl rfl rfl rfl rfl rfl (Nat.le_of_ble_eq_true rfl) (by constructor <;> simp only [x_Rm] <;> omega) dX12_readSaid_91 (fun _ => ?_)
      refine a_iconst (pc := 94) X dX12_readSaid_94 q_ic_1 ?_
      refine a_istore_n (pc := 95) X [(3, .int (1 : Int32)), (0, .ref (ad0 0)), (1, .int l1), (2, .int l2)] dX12_readSaid_95 rfl (by decide) rfl ?_
      refine a_iload_n (pc := 96) X 2 dX12_readSaid_96 rfl rfl ?_
      refine a_if_eq (pc := 97) X 108 dX12_readSaid_97 rfl (fun c_97 => ?_) (fun c_97 => ?_)
      · have h := x_ifp c_97 h
        refine a_iload_n (pc := 108) X 3 dX12_readSaid_108 rfl rfl ?_
        refine a_bipush (pc := 109) X dX12_readSaid_109 q_bp_19 ?_
        refine a_icmp_ne (pc := 111) X 122 dX12_readSaid_111 rfl (fun c_111 => ?_) (fun c_111 => ?_)
        · have h := x_ifn c_111 h
          refine a_iload_n (pc := 122) X 3 dX12_readSaid_122 rfl rfl ?_
          refine a_bipush (pc := 123) X dX12_readSaid_123 q_bp_23 ?_
          refine a_icmp_ge (pc := 125) X 146 dX12_readSaid_125 rfl (fun c_125 => ?_) (fun c_125 => ?_)
          · have h := x_ifp c_125 h
            refine a_iload_n (pc := 146) X 3 dX12_readSaid_146 rfl rfl ?_
            refine a_bipush (pc := 147) X dX12_readSaid_147 q_bp_25 ?_
            refine a_icmp_ge (pc := 149) X 160 dX12_readSaid_149 rfl (fun c_149 => ?_) (fun c_149 => ?_)
            · have h := x_ifp c_149 h
              refine a_aload_n (pc := 160) X 1 dX12_readSaid_160 rfl rfl ?_
              refine a_iload_n (pc := 161) X 3 dX12_readSaid_161 rfl rfl ?_
              obtain ⟨y6, e_y6, h⟩ := x_bo_elim h
              refine a_callV (pc := 162) (st2 := [.int y6.1]) (vs2 := [y6.2]) X [(0, 0, 20)] [some y6.2] 0 0 12 [.int l2] [] cv_RX12_457 (c_X12_readCompare (ad0 := ad0)  e_y6) rfl rfl rfl rfl rfl rfl rfl rfl rfl rfl rfl rfl rfl rfl rfl (Nat.le_of_ble_eq_true rfl) (by constructor <;> simp only [x_Rm] <;> omega) dX12_readSaid_162 (fun z_162 => ?_)
              refine a_sub [1] rfl ?_
              exact w_X12_readSaid_165 X hr_X12_readOr hr_X12_readAnd hr_X12_readSaid hr_X12_readNot hr_X12_readBracket   z_162 h
            · have h := x_ifn c_149 h
              refine a_aload_n (pc := 152) X 1 dX12_readSaid_152 rfl rfl ?_
              refine a_iload_n (pc := 153) X 3 dX12_readSaid_153 rfl rfl ?_
              obtain ⟨y7, e_y7, h⟩ := x_bo_elim h
              refine a_callV (pc := 154) (st2 := [.int y7.1]) (vs2 := [y7.2]) X [(0, 0, 20)] [some y7.2] 0 0 12 [.int l2] [] cv_RX12_454 (c_X12_readOf (ad0 := ad0)  e_y7) rfl rfl rfl rfl rfl rfl rfl rfl rfl rfl rfl rfl rfl rfl rfl (Nat.le_of_ble_eq_true rfl) (by constructor <;> simp only [x_Rm] <;> omega) dX12_readSaid_154 (fun z_154 => ?_)
              refine a_goto (pc := 157) X 165 dX12_readSaid_157 rfl ?_
              refine a_sub [1] rfl ?_
              exact w_X12_readSaid_165 X hr_X12_readOr hr_X12_readAnd hr_X12_readSaid hr_X12_readNot hr_X12_readBracket   z_154 h
          · have h := x_ifn c_125 h
            refine a_aload_n (pc := 128) X 1 dX12_readSaid_128 rfl rfl ?_
            refine a_aload_n (pc := 129) X 1 dX12_readSaid_129 rfl rfl ?_
            refine a_bipush (pc := 130) X dX12_readSaid_130 q_bp_50 ?_
            refine a_iload_n (pc := 132) X 3 dX12_readSaid_132 rfl rfl ?_
            refine a_iadd (pc := 133) X dX12_readSaid_133 ?_
            refine a_iconst (pc := 134) X dX12_readSaid_134 q_ic_0 ?_
            refine a_iconst (pc := 135) X dX12_readSaid_135 q_ic_0 ?_
            refine a_iconst (pc := 136) X dX12_readSaid_136 q_ic_0 ?_
            obtain ⟨y8, e_y8, h⟩ := x_bo_elim h
            refine a_callV (pc := 137) (st2 := [.int y8.1, .ref (ad0 0)]) (vs2 := [y8.2]) X [(0, 0, 20)] [some y8.2] 0 0 12 [.int ((50 : Int32) + l2), .int (0 : Int32), .int (0 : Int32), .int (0 : Int32)] [.ref (ad0 0)] cv_RX12_435 (c_X12_saysOne (ad0 := ad0)  e_y8) rfl rfl rfl rfl rfl rfl rfl rfl rfl rfl rfl rfl rfl rfl rfl (Nat.le_of_ble_eq_true rfl) (by constructor <;> simp only [x_Rm] <;> omega) dX12_readSaid_137 (fun _ => ?_)
            refine a_putI (pc := 140) X 0 fl_RX12_432 rfl rfl rfl rfl dX12_readSaid_140 ?_
            obtain ⟨m9, e_m9, h⟩ := x_lt_elim h
            refine a_nm (vs2 := [m9]) (congrArg (fun q : XM => [q]) e_m9) ?_
            refine a_goto (pc := 143) X 166 dX12_readSaid_143 rfl ?_
            refine a_sub [1, 0] rfl ?_
            exact w_X12_readSaid_166 X hr_X12_readOr hr_X12_readAnd hr_X12_readSaid hr_X12_readNot hr_X12_readBracket   x_Z1 h
        · have h := x_ifp c_111 h
          refine a_aload_n (pc := 114) X 1 dX12_readSaid_114 rfl rfl ?_
          obtain ⟨y10, e_y10, h⟩ := x_bo_elim h
          refine a_callV (pc := 115) (st2 := [.int y10.1]) (vs2 := [y10.2]) X [(0, 0, 20)] [some y10.2] 0 0 12 [] [] cv_RX12_451 (hr_X12_readNot (ad0 := ad0)  e_y10) rfl rfl rfl rfl rfl rfl rfl rfl rfl rfl rfl rfl rfl rfl rfl (Nat.le_of_ble_eq_true rfl) (by constructor <;> simp only [x_Rm] <;> omega) dX12_readSaid_115 (fun z_115 => ?_)
          refine a_istore_n (pc := 118) X [(3, .int y10.1), (0, .ref (ad0 0)), (1, .int l1), (2, .int l2)] dX12_readSaid_118 rfl (by decide) rfl ?_
          refine a_goto (pc := 119) X 166 dX12_readSaid_119 rfl ?_
          refine a_sub [1, 0] rfl ?_
          exact w_X12_readSaid_166 X hr_X12_readOr hr_X12_readAnd hr_X12_readSaid hr_X12_readNot hr_X12_readBracket   z_115 h
      · have h := x_ifn c_97 h
        refine a_aload_n (pc := 100) X 1 dX12_readSaid_100 rfl rfl ?_
        obtain ⟨y11, e_y11, h⟩ := x_bo_elim h
        refine a_callV (pc := 101) (st2 := [.int y11.1]) (vs2 := [y11.2]) X [(0, 0, 20)] [some y11.2] 0 0 12 [] [] cv_RX12_448 (hr_X12_readBracket (ad0 := ad0)  e_y11) rfl rfl rfl rfl rfl rfl rfl rfl rfl rfl rfl rfl rfl rfl rfl (Nat.le_of_ble_eq_true rfl) (by constructor <;> simp only [x_Rm] <;> omega) dX12_readSaid_101 (fun z_101 => ?_)
        refine a_istore_n (pc := 104) X [(3, .int y11.1), (0, .ref (ad0 0)), (1, .int l1), (2, .int l2)] dX12_readSaid_104 rfl (by decide) rfl ?_
        refine a_goto (pc := 105) X 166 dX12_readSaid_105 rfl ?_
        refine a_sub [1, 0] rfl ?_
        exact w_X12_readSaid_166 X hr_X12_readOr hr_X12_readAnd hr_X12_readSaid hr_X12_readNot hr_X12_readBracket   z_101 h
    · have h := x_ifp c_61 h
      refine a_sub [0] rfl ?_
      exact w_X12_readSaid_64 X hr_X12_readOr hr_X12_readAnd hr_X12_readSaid hr_X12_readNot hr_X12_readBracket    h
set_option maxRecDepth 100000 in
set_option maxHeartbeats 4000000 in
theorem w_X12_readSaid_30 {p : Program} {l : Launch} {e : Env} {s : State} {m : MethodId} {args : Array Value} {below : List Frame} {meth : Method} {c : Code} {D : va_G} {tc : Nat → ClassId} {aK aV : Nat → Nat} {A : Nat → Prop} {ad0 : Nat → Nat} {dd : Nat} {rc : Nat → XM → Option (Int32 × XM)} (X : Cx p s m args meth c cX12_readSaid 4 (some .boolean) RX12 D tc aK aV A [(shModel, ad0)]) (hr_X12_readOr : ∀ {ad0 : Nat → Nat} {v0 : XM}  {o : Int32 × XM}, rc 0 v0 = some o → CT l yX12_readOr cX12_readOr 2 (some .boolean) (5 + dd) [(shModel, ad0)] [v0] (fun aK => [.ref (ad0 0)]) (some (.int o.1)) (x_Z o.1) [o.2]) (hr_X12_readAnd : ∀ {ad0 : Nat → Nat} {v0 : XM}  {o : Int32 × XM}, rc 1 v0 = some o → CT l yX12_readAnd cX12_readAnd 2 (some .boolean) (5 + dd) [(shModel, ad0)] [v0] (fun aK => [.ref (ad0 0)]) (some (.int o.1)) (x_Z o.1) [o.2]) (hr_X12_readSaid : ∀ {ad0 : Nat → Nat} {v0 : XM}  {o : Int32 × XM}, rc 2 v0 = some o → CT l yX12_readSaid cX12_readSaid 4 (some .boolean) (5 + dd) [(shModel, ad0)] [v0] (fun aK => [.ref (ad0 0)]) (some (.int o.1)) (x_Z o.1) [o.2]) (hr_X12_readNot : ∀ {ad0 : Nat → Nat} {v0 : XM}  {o : Int32 × XM}, rc 3 v0 = some o → CT l yX12_readNot cX12_readNot 1 (some .boolean) (5 + dd) [(shModel, ad0)] [v0] (fun aK => [.ref (ad0 0)]) (some (.int o.1)) (x_Z o.1) [o.2]) (hr_X12_readBracket : ∀ {ad0 : Nat → Nat} {v0 : XM}  {o : Int32 × XM}, rc 4 v0 = some o → CT l yX12_readBracket cX12_readBracket 1 (some .boolean) (5 + dd) [(shModel, ad0)] [v0] (fun aK => [.ref (ad0 0)]) (some (.int o.1)) (x_Z o.1) [o.2])  {o : Int32 × XM}  {w0 : XM} {l1 : Int32} {l2 : Int32}  (h : f_X12_readSaid_30 rc  w0 l1 l2 = some o) : aW p l e (x_Rm (5 + dd + 1)) s m args below meth c D tc A 4 [(shModel, ad0)] (some (.int o.1)) (x_Z o.1) [o.2] 30 [(0, .ref (ad0 0)), (1, .int l1), (2, .int l2)] [] [w0] := by
  unfold f_X12_readSaid_30 at h
  refine a_iload_n (pc := 30) X 1 dX12_readSaid_30 rfl rfl ?_
  refine a_if_ne (pc := 31) X 46 dX12_readSaid_31 rfl (fun c_31 => ?_) (fun c_31 => ?_)
  · have h := x_ifn c_31 h
    exact w_X12_readSaid_46 X hr_X12_readOr hr_X12_readAnd hr_X12_readSaid hr_X12_readNot hr_X12_readBracket    h
  · have h := x_ifp c_31 h
    refine a_iload_n (pc := 34) X 2 dX12_readSaid_34 rfl rfl ?_
    refine a_bipush (pc := 35) X dX12_readSaid_35 q_bp_28 ?_
    refine a_icmp_le (pc := 37) X 46 dX12_readSaid_37 rfl (fun c_37 => ?_) (fun c_37 => ?_)
    · have h := x_ifp c_37 h
      exact w_X12_readSaid_46 X hr_X12_readOr hr_X12_readAnd hr_X12_readSaid hr_X12_readNot hr_X12_readBracket    h
    · have h := x_ifn c_37 h
      refine a_aload_n (pc := 40) X 0 dX12_readSaid_40 rfl rfl ?_
      refine a_iconst (pc := 41) X dX12_readSaid_41 q_ic_1 ?_
      obtain ⟨y12, e_y12, h⟩ := x_lt_elim h
      refine a_callV (pc := 42) (st2 := [.int y12.1]) (vs2 := [y12.2]) X [(0, 0, 20)] [some y12.2] 0 0 12 [.int (1 : Int32)] [] cv_RX12_72 (c_X12_bad (ad0 := ad0)  e_y12) rfl rfl rfl rfl rfl rfl rfl rfl rfl rfl rfl rfl rfl rfl rfl (Nat.le_of_ble_eq_true rfl) (by constructor <;> simp only [x_Rm] <;> omega) dX12_readSaid_42 (fun z_42 => ?_)
      have h := Option.some.inj h; subst h
      exact a_zret (pc := 45) X z_42 z_42 dX12_readSaid_45
set_option maxRecDepth 100000 in
set_option maxHeartbeats 4000000 in
theorem w_X12_readSaid_10 {p : Program} {l : Launch} {e : Env} {s : State} {m : MethodId} {args : Array Value} {below : List Frame} {meth : Method} {c : Code} {D : va_G} {tc : Nat → ClassId} {aK aV : Nat → Nat} {A : Nat → Prop} {ad0 : Nat → Nat} {dd : Nat} {rc : Nat → XM → Option (Int32 × XM)} (X : Cx p s m args meth c cX12_readSaid 4 (some .boolean) RX12 D tc aK aV A [(shModel, ad0)]) (hr_X12_readOr : ∀ {ad0 : Nat → Nat} {v0 : XM}  {o : Int32 × XM}, rc 0 v0 = some o → CT l yX12_readOr cX12_readOr 2 (some .boolean) (5 + dd) [(shModel, ad0)] [v0] (fun aK => [.ref (ad0 0)]) (some (.int o.1)) (x_Z o.1) [o.2]) (hr_X12_readAnd : ∀ {ad0 : Nat → Nat} {v0 : XM}  {o : Int32 × XM}, rc 1 v0 = some o → CT l yX12_readAnd cX12_readAnd 2 (some .boolean) (5 + dd) [(shModel, ad0)] [v0] (fun aK => [.ref (ad0 0)]) (some (.int o.1)) (x_Z o.1) [o.2]) (hr_X12_readSaid : ∀ {ad0 : Nat → Nat} {v0 : XM}  {o : Int32 × XM}, rc 2 v0 = some o → CT l yX12_readSaid cX12_readSaid 4 (some .boolean) (5 + dd) [(shModel, ad0)] [v0] (fun aK => [.ref (ad0 0)]) (some (.int o.1)) (x_Z o.1) [o.2]) (hr_X12_readNot : ∀ {ad0 : Nat → Nat} {v0 : XM}  {o : Int32 × XM}, rc 3 v0 = some o → CT l yX12_readNot cX12_readNot 1 (some .boolean) (5 + dd) [(shModel, ad0)] [v0] (fun aK => [.ref (ad0 0)]) (some (.int o.1)) (x_Z o.1) [o.2]) (hr_X12_readBracket : ∀ {ad0 : Nat → Nat} {v0 : XM}  {o : Int32 × XM}, rc 4 v0 = some o → CT l yX12_readBracket cX12_readBracket 1 (some .boolean) (5 + dd) [(shModel, ad0)] [v0] (fun aK => [.ref (ad0 0)]) (some (.int o.1)) (x_Z o.1) [o.2])  {o : Int32 × XM}  : ∀ (n : Nat), ∀ (w0 : XM) (l1 : Int32) (l2 : Int32), x_lp (φ := XM → Int32 → Int32 → Option (Int32 × XM)) (fun _ _ _ => none) (f_X12_readSaid_10 rc ) n w0 l1 l2 = some o → aW p l e (x_Rm (5 + dd + 1)) s m args below meth c D tc A 4 [(shModel, ad0)] (some (.int o.1)) (x_Z o.1) [o.2] 10 [(0, .ref (ad0 0)), (1, .int l1), (2, .int l2)] [] [w0] := by
  intro n
  induction n with
  | zero => intro w0 l1 l2 h; exact absurd h (fun q => by cases q)
  | succ n ih =>
    intro w0 l1 l2 h
    have h : f_X12_readSaid_10 rc  (x_lp (φ := XM → Int32 → Int32 → Option (Int32 × XM)) (fun _ _ _ => none) (f_X12_readSaid_10 rc ) n) w0 l1 l2 = some o := h
    generalize x_lp (φ := XM → Int32 → Int32 → Option (Int32 × XM)) (fun _ _ _ => none) (f_X12_readSaid_10 rc ) n = k10 at h ih
    have hk10 := ih
    unfold f_X12_readSaid_10 at h
    refine a_iload_n (pc := 10) X 2 dX12_readSaid_10 rfl rfl ?_
    refine a_bipush (pc := 11) X dX12_readSaid_11 q_bp_28 ?_
    refine a_icmp_gt (pc := 13) X 30 dX12_readSaid_13 rfl (fun c_13 => ?_) (fun c_13 => ?_)
    · have h := x_ifp c_13 h
      exact w_X12_readSaid_30 X hr_X12_readOr hr_X12_readAnd hr_X12_readSaid hr_X12_readNot hr_X12_readBracket    h
    · have h := x_ifn c_13 h
      refine a_aload_n (pc := 16) X 0 dX12_readSaid_16 rfl rfl ?_
      refine a_iload_n (pc := 17) X 2 dX12_readSaid_17 rfl rfl ?_
      obtain ⟨y13, e_y13, h⟩ := x_lt_elim h
      refine a_callV (pc := 18) (st2 := [.int y13]) (vs2 := [w0]) X [(0, 0, 20)] [none] 0 0 12 [.int l2] [] cv_RX12_180 (c_X12_isWord (ad0 := ad0)  e_y13) rfl rfl rfl rfl rfl rfl rfl rfl rfl rfl rfl rfl rfl rfl rfl (Nat.le_of_ble_eq_true rfl) (by constructor <;> simp only [x_Rm] <;> omega) dX12_readSaid_18 (fun z_18 => ?_)
      refine a_if_ne (pc := 21) X 30 dX12_readSaid_21 rfl (fun c_21 => ?_) (fun c_21 => ?_)
      · have h := x_ifn c_21 h
        exact w_X12_readSaid_30 X hr_X12_readOr hr_X12_readAnd hr_X12_readSaid hr_X12_readNot hr_X12_readBracket    h
      · have h := x_ifp c_21 h
        refine a_iinc (pc := 24) X 2 [(2, .int (l2 + 1)), (0, .ref (ad0 0)), (1, .int l1)] dX12_readSaid_24 rfl (congrArg (HAdd.hAdd l2) q_ic_1) (by decide) rfl ?_
        refine a_goto (pc := 27) X 10 dX12_readSaid_27 rfl ?_
        refine a_sub [1, 2, 0] rfl ?_
        exact hk10 _ _ _ h
set_option maxRecDepth 100000 in
set_option maxHeartbeats 4000000 in
theorem cb_X12_readSaid {l : Launch} {dd : Nat} {rc : Nat → XM → Option (Int32 × XM)} (hr_X12_readOr : ∀ {ad0 : Nat → Nat} {v0 : XM}  {o : Int32 × XM}, rc 0 v0 = some o → CT l yX12_readOr cX12_readOr 2 (some .boolean) (5 + dd) [(shModel, ad0)] [v0] (fun aK => [.ref (ad0 0)]) (some (.int o.1)) (x_Z o.1) [o.2]) (hr_X12_readAnd : ∀ {ad0 : Nat → Nat} {v0 : XM}  {o : Int32 × XM}, rc 1 v0 = some o → CT l yX12_readAnd cX12_readAnd 2 (some .boolean) (5 + dd) [(shModel, ad0)] [v0] (fun aK => [.ref (ad0 0)]) (some (.int o.1)) (x_Z o.1) [o.2]) (hr_X12_readSaid : ∀ {ad0 : Nat → Nat} {v0 : XM}  {o : Int32 × XM}, rc 2 v0 = some o → CT l yX12_readSaid cX12_readSaid 4 (some .boolean) (5 + dd) [(shModel, ad0)] [v0] (fun aK => [.ref (ad0 0)]) (some (.int o.1)) (x_Z o.1) [o.2]) (hr_X12_readNot : ∀ {ad0 : Nat → Nat} {v0 : XM}  {o : Int32 × XM}, rc 3 v0 = some o → CT l yX12_readNot cX12_readNot 1 (some .boolean) (5 + dd) [(shModel, ad0)] [v0] (fun aK => [.ref (ad0 0)]) (some (.int o.1)) (x_Z o.1) [o.2]) (hr_X12_readBracket : ∀ {ad0 : Nat → Nat} {v0 : XM}  {o : Int32 × XM}, rc 4 v0 = some o → CT l yX12_readBracket cX12_readBracket 1 (some .boolean) (5 + dd) [(shModel, ad0)] [v0] (fun aK => [.ref (ad0 0)]) (some (.int o.1)) (x_Z o.1) [o.2]) {ad0 : Nat → Nat} {v0 : XM}   {o : Int32 × XM} (h : f_X12_readSaid rc v0 = some o) : CT l yX12_readSaid cX12_readSaid 4 (some .boolean) (5 + dd + 1) [(shModel, ad0)] [v0] (fun aK => [.ref (ad0 0)]) (some (.int o.1)) (x_Z o.1) [o.2] := by
  refine CT_of (by decide) (fun _ => Nat.le_of_ble_eq_true rfl) ?_
  intro p e s m args below meth c D tc aK aV A X
  have X : Cx p s m args meth c cX12_readSaid 4 (some .boolean) RX12 D tc aK aV A [(shModel, ad0)] := X
  show aW p l e (x_Rm (5 + dd + 1)) s m args below meth c D tc A 4 [(shModel, ad0)] (some (.int o.1)) (x_Z o.1) [o.2] 0 [(0, .ref (ad0 0))] [] [v0]
  unfold f_X12_readSaid at h
  refine a_aload_n (pc := 0) X 0 dX12_readSaid_0 rfl rfl ?_
  refine a_bipush (pc := 1) X dX12_readSaid_1 q_bp_40 ?_
  obtain ⟨y14, e_y14, h⟩ := x_lt_elim h
  refine a_callV (pc := 3) (st2 := [.int y14]) (vs2 := [v0]) X [(0, 0, 20)] [none] 0 0 12 [.int (40 : Int32)] [] cv_RX12_86 (c_X12_isSign (ad0 := ad0)  e_y14) rfl rfl rfl rfl rfl rfl rfl rfl rfl rfl rfl rfl rfl rfl rfl (Nat.le_of_ble_eq_true rfl) (by constructor <;> simp only [x_Rm] <;> omega) dX12_readSaid_3 (fun z_3 => ?_)
  refine a_istore_n (pc := 6) X [(1, .int y14), (0, .ref (ad0 0))] dX12_readSaid_6 rfl (by decide) rfl ?_
  refine a_bipush (pc := 7) X dX12_readSaid_7 q_bp_19 ?_
  refine a_istore_n (pc := 9) X [(2, .int (19 : Int32)), (1, .int y14), (0, .ref (ad0 0))] dX12_readSaid_9 rfl (by decide) rfl ?_
  refine a_sub [2, 1, 0] rfl ?_
  exact w_X12_readSaid_10 X hr_X12_readOr hr_X12_readAnd hr_X12_readSaid hr_X12_readNot hr_X12_readBracket   x_NN _ _ _ h
theorem dX12_readNot_0 : decode cX12_readNot 0 = .ok (.aload_n 0, 1) := by decide +kernel
theorem dX12_readNot_1 : decode cX12_readNot 1 = .ok (.invokevirtual 439, 3) := by decide +kernel
theorem dX12_readNot_4 : decode cX12_readNot 4 = .ok (.ifCond .ne 5, 3) := by decide +kernel
theorem dX12_readNot_7 : decode cX12_readNot 7 = .ok (.iconst 0, 1) := by decide +kernel
theorem dX12_readNot_8 : decode cX12_readNot 8 = .ok (.ireturn, 1) := by decide +kernel
theorem dX12_readNot_9 : decode cX12_readNot 9 = .ok (.aload_n 0, 1) := by decide +kernel
theorem dX12_readNot_10 : decode cX12_readNot 10 = .ok (.aload_n 0, 1) := by decide +kernel
theorem dX12_readNot_11 : decode cX12_readNot 11 = .ok (.iconst 1, 1) := by decide +kernel
theorem dX12_readNot_12 : decode cX12_readNot 12 = .ok (.aload_n 0, 1) := by decide +kernel
theorem dX12_readNot_13 : decode cX12_readNot 13 = .ok (.getfield 432, 3) := by decide +kernel
theorem dX12_readNot_16 : decode cX12_readNot 16 = .ok (.iconst 0, 1) := by decide +kernel
theorem dX12_readNot_17 : decode cX12_readNot 17 = .ok (.iconst 0, 1) := by decide +kernel
theorem dX12_readNot_18 : decode cX12_readNot 18 = .ok (.invokevirtual 435, 3) := by decide +kernel
theorem dX12_readNot_21 : decode cX12_readNot 21 = .ok (.putfield 432, 3) := by decide +kernel
theorem dX12_readNot_24 : decode cX12_readNot 24 = .ok (.iconst 1, 1) := by decide +kernel
theorem dX12_readNot_25 : decode cX12_readNot 25 = .ok (.ireturn, 1) := by decide +kernel
def f_X12_readNot (rc : Nat → XM → Option (Int32 × XM)) (v0 : XM) : Option (Int32 × XM) :=
  x_bo (rc 2 v0) (fun y1 =>
  if y1.1 = (0 : Int32) then
  (some ((0 : Int32), y1.2))
  else (x_bo (f_X12_saysOne y1.2 (1 : Int32) (y1.2.1 0 46) (0 : Int32) (0 : Int32)) (fun y2 =>
  x_lt (x_si y2.2 0 46 y2.1) (fun m3 =>
  some ((1 : Int32), m3)))))
set_option maxRecDepth 100000 in
set_option maxHeartbeats 4000000 in
theorem cb_X12_readNot {l : Launch} {dd : Nat} {rc : Nat → XM → Option (Int32 × XM)} (hr_X12_readOr : ∀ {ad0 : Nat → Nat} {v0 : XM}  {o : Int32 × XM}, rc 0 v0 = some o → CT l yX12_readOr cX12_readOr 2 (some .boolean) (5 + dd) [(shModel, ad0)] [v0] (fun aK => [.ref (ad0 0)]) (some (.int o.1)) (x_Z o.1) [o.2]) (hr_X12_readAnd : ∀ {ad0 : Nat → Nat} {v0 : XM}  {o : Int32 × XM}, rc 1 v0 = some o → CT l yX12_readAnd cX12_readAnd 2 (some .boolean) (5 + dd) [(shModel, ad0)] [v0] (fun aK => [.ref (ad0 0)]) (some (.int o.1)) (x_Z o.1) [o.2]) (hr_X12_readSaid : ∀ {ad0 : Nat → Nat} {v0 : XM}  {o : Int32 × XM}, rc 2 v0 = some o → CT l yX12_readSaid cX12_readSaid 4 (some .boolean) (5 + dd) [(shModel, ad0)] [v0] (fun aK => [.ref (ad0 0)]) (some (.int o.1)) (x_Z o.1) [o.2]) (hr_X12_readNot : ∀ {ad0 : Nat → Nat} {v0 : XM}  {o : Int32 × XM}, rc 3 v0 = some o → CT l yX12_readNot cX12_readNot 1 (some .boolean) (5 + dd) [(shModel, ad0)] [v0] (fun aK => [.ref (ad0 0)]) (some (.int o.1)) (x_Z o.1) [o.2]) (hr_X12_readBracket : ∀ {ad0 : Nat → Nat} {v0 : XM}  {o : Int32 × XM}, rc 4 v0 = some o → CT l yX12_readBracket cX12_readBracket 1 (some .boolean) (5 + dd) [(shModel, ad0)] [v0] (fun aK => [.ref (ad0 0)]) (some (.int o.1)) (x_Z o.1) [o.2]) {ad0 : Nat → Nat} {v0 : XM}   {o : Int32 × XM} (h : f_X12_readNot rc v0 = some o) : CT l yX12_readNot cX12_readNot 1 (some .boolean) (5 + dd + 1) [(shModel, ad0)] [v0] (fun aK => [.ref (ad0 0)]) (some (.int o.1)) (x_Z o.1) [o.2] := by
  refine CT_of (by decide) (fun _ => Nat.le_of_ble_eq_true rfl) ?_
  intro p e s m args below meth c D tc aK aV A X
  have X : Cx p s m args meth c cX12_readNot 1 (some .boolean) RX12 D tc aK aV A [(shModel, ad0)] := X
  show aW p l e (x_Rm (5 + dd + 1)) s m args below meth c D tc A 1 [(shModel, ad0)] (some (.int o.1)) (x_Z o.1) [o.2] 0 [(0, .ref (ad0 0))] [] [v0]
  unfold f_X12_readNot at h
  refine a_aload_n (pc := 0) X 0 dX12_readNot_0 rfl rfl ?_
  obtain ⟨y1, e_y1, h⟩ := x_bo_elim h
  refine a_callV (pc := 1) (st2 := [.int y1.1]) (vs2 := [y1.2]) X [(0, 0, 20)] [some y1.2] 0 0 12 [] [] cv_RX12_439 (hr_X12_readSaid (ad0 := ad0)  e_y1) rfl rfl rfl rfl rfl rfl rfl rfl rfl rfl rfl rfl rfl rfl rfl (Nat.le_of_ble_eq_true rfl) (by constructor <;> simp only [x_Rm] <;> omega) dX12_readNot_1 (fun z_1 => ?_)
  refine a_if_ne (pc := 4) X 9 dX12_readNot_4 rfl (fun c_4 => ?_) (fun c_4 => ?_)
  · have h := x_ifn c_4 h
    refine a_aload_n (pc := 9) X 0 dX12_readNot_9 rfl rfl ?_
    refine a_aload_n (pc := 10) X 0 dX12_readNot_10 rfl rfl ?_
    refine a_iconst (pc := 11) X dX12_readNot_11 q_ic_1 ?_
    refine a_aload_n (pc := 12) X 0 dX12_readNot_12 rfl rfl ?_
    refine a_getI (pc := 13) X 0 fl_RX12_432 rfl rfl rfl rfl dX12_readNot_13 ?_
    refine a_iconst (pc := 16) X dX12_readNot_16 q_ic_0 ?_
    refine a_iconst (pc := 17) X dX12_readNot_17 q_ic_0 ?_
    obtain ⟨y2, e_y2, h⟩ := x_bo_elim h
    refine a_callV (pc := 18) (st2 := [.int y2.1, .ref (ad0 0)]) (vs2 := [y2.2]) X [(0, 0, 20)] [some y2.2] 0 0 12 [.int (1 : Int32), .int (y1.2.1 0 46), .int (0 : Int32), .int (0 : Int32)] [.ref (ad0 0)] cv_RX12_435 (c_X12_saysOne (ad0 := ad0)  e_y2) rfl rfl rfl rfl rfl rfl rfl rfl rfl rfl rfl rfl rfl rfl rfl (Nat.le_of_ble_eq_true rfl) (by constructor <;> simp only [x_Rm] <;> omega) dX12_readNot_18 (fun _ => ?_)
    refine a_putI (pc := 21) X 0 fl_RX12_432 rfl rfl rfl rfl dX12_readNot_21 ?_
    obtain ⟨m3, e_m3, h⟩ := x_lt_elim h
    refine a_nm (vs2 := [m3]) (congrArg (fun q : XM => [q]) e_m3) ?_
    refine a_iconst (pc := 24) X dX12_readNot_24 q_ic_1 ?_
    have h := Option.some.inj h; subst h
    exact a_zret (pc := 25) X x_Z1 x_Z1 dX12_readNot_25
  · have h := x_ifp c_4 h
    refine a_iconst (pc := 7) X dX12_readNot_7 q_ic_0 ?_
    have h := Option.some.inj h; subst h
    exact a_zret (pc := 8) X x_Z0 x_Z0 dX12_readNot_8
theorem dX12_readBracket_0 : decode cX12_readBracket 0 = .ok (.aload_n 0, 1) := by decide +kernel
theorem dX12_readBracket_1 : decode cX12_readBracket 1 = .ok (.invokevirtual 460, 3) := by decide +kernel
theorem dX12_readBracket_4 : decode cX12_readBracket 4 = .ok (.ifCond .ne 5, 3) := by decide +kernel
theorem dX12_readBracket_7 : decode cX12_readBracket 7 = .ok (.iconst 0, 1) := by decide +kernel
theorem dX12_readBracket_8 : decode cX12_readBracket 8 = .ok (.ireturn, 1) := by decide +kernel
theorem dX12_readBracket_9 : decode cX12_readBracket 9 = .ok (.aload_n 0, 1) := by decide +kernel
theorem dX12_readBracket_10 : decode cX12_readBracket 10 = .ok (.bipush 41, 2) := by decide +kernel
theorem dX12_readBracket_12 : decode cX12_readBracket 12 = .ok (.invokevirtual 86, 3) := by decide +kernel
theorem dX12_readBracket_15 : decode cX12_readBracket 15 = .ok (.ifCond .ne 9, 3) := by decide +kernel
theorem dX12_readBracket_18 : decode cX12_readBracket 18 = .ok (.aload_n 0, 1) := by decide +kernel
theorem dX12_readBracket_19 : decode cX12_readBracket 19 = .ok (.iconst 1, 1) := by decide +kernel
theorem dX12_readBracket_20 : decode cX12_readBracket 20 = .ok (.invokevirtual 72, 3) := by decide +kernel
theorem dX12_readBracket_23 : decode cX12_readBracket 23 = .ok (.ireturn, 1) := by decide +kernel
theorem dX12_readBracket_24 : decode cX12_readBracket 24 = .ok (.aload_n 0, 1) := by decide +kernel
theorem dX12_readBracket_25 : decode cX12_readBracket 25 = .ok (.invokevirtual 82, 3) := by decide +kernel
theorem dX12_readBracket_28 : decode cX12_readBracket 28 = .ok (.iconst 1, 1) := by decide +kernel
theorem dX12_readBracket_29 : decode cX12_readBracket 29 = .ok (.ireturn, 1) := by decide +kernel
def f_X12_readBracket (rc : Nat → XM → Option (Int32 × XM)) (v0 : XM) : Option (Int32 × XM) :=
  x_bo (rc 0 v0) (fun y1 =>
  if y1.1 = (0 : Int32) then
  (some ((0 : Int32), y1.2))
  else (x_lt (f_X12_isSign y1.2 (41 : Int32)) (fun y2 =>
  if y2 = (0 : Int32) then
  (x_lt (f_X12_bad y1.2 (1 : Int32)) (fun y4 =>
  some (y4.1, y4.2)))
  else (x_bo (f_X12_go y1.2) (fun y3 =>
  some ((1 : Int32), y3))))))
set_option maxRecDepth 100000 in
set_option maxHeartbeats 4000000 in
theorem cb_X12_readBracket {l : Launch} {dd : Nat} {rc : Nat → XM → Option (Int32 × XM)} (hr_X12_readOr : ∀ {ad0 : Nat → Nat} {v0 : XM}  {o : Int32 × XM}, rc 0 v0 = some o → CT l yX12_readOr cX12_readOr 2 (some .boolean) (5 + dd) [(shModel, ad0)] [v0] (fun aK => [.ref (ad0 0)]) (some (.int o.1)) (x_Z o.1) [o.2]) (hr_X12_readAnd : ∀ {ad0 : Nat → Nat} {v0 : XM}  {o : Int32 × XM}, rc 1 v0 = some o → CT l yX12_readAnd cX12_readAnd 2 (some .boolean) (5 + dd) [(shModel, ad0)] [v0] (fun aK => [.ref (ad0 0)]) (some (.int o.1)) (x_Z o.1) [o.2]) (hr_X12_readSaid : ∀ {ad0 : Nat → Nat} {v0 : XM}  {o : Int32 × XM}, rc 2 v0 = some o → CT l yX12_readSaid cX12_readSaid 4 (some .boolean) (5 + dd) [(shModel, ad0)] [v0] (fun aK => [.ref (ad0 0)]) (some (.int o.1)) (x_Z o.1) [o.2]) (hr_X12_readNot : ∀ {ad0 : Nat → Nat} {v0 : XM}  {o : Int32 × XM}, rc 3 v0 = some o → CT l yX12_readNot cX12_readNot 1 (some .boolean) (5 + dd) [(shModel, ad0)] [v0] (fun aK => [.ref (ad0 0)]) (some (.int o.1)) (x_Z o.1) [o.2]) (hr_X12_readBracket : ∀ {ad0 : Nat → Nat} {v0 : XM}  {o : Int32 × XM}, rc 4 v0 = some o → CT l yX12_readBracket cX12_readBracket 1 (some .boolean) (5 + dd) [(shModel, ad0)] [v0] (fun aK => [.ref (ad0 0)]) (some (.int o.1)) (x_Z o.1) [o.2]) {ad0 : Nat → Nat} {v0 : XM}   {o : Int32 × XM} (h : f_X12_readBracket rc v0 = some o) : CT l yX12_readBracket cX12_readBracket 1 (some .boolean) (5 + dd + 1) [(shModel, ad0)] [v0] (fun aK => [.ref (ad0 0)]) (some (.int o.1)) (x_Z o.1) [o.2] := by
  refine CT_of (by decide) (fun _ => Nat.le_of_ble_eq_true rfl) ?_
  intro p e s m args below meth c D tc aK aV A X
  have X : Cx p s m args meth c cX12_readBracket 1 (some .boolean) RX12 D tc aK aV A [(shModel, ad0)] := X
  show aW p l e (x_Rm (5 + dd + 1)) s m args below meth c D tc A 1 [(shModel, ad0)] (some (.int o.1)) (x_Z o.1) [o.2] 0 [(0, .ref (ad0 0))] [] [v0]
  unfold f_X12_readBracket at h
  refine a_aload_n (pc := 0) X 0 dX12_readBracket_0 rfl rfl ?_
  obtain ⟨y1, e_y1, h⟩ := x_bo_elim h
  refine a_callV (pc := 1) (st2 := [.int y1.1]) (vs2 := [y1.2]) X [(0, 0, 20)] [some y1.2] 0 0 12 [] [] cv_RX12_460 (hr_X12_readOr (ad0 := ad0)  e_y1) rfl rfl rfl rfl rfl rfl rfl rfl rfl rfl rfl rfl rfl rfl rfl (Nat.le_of_ble_eq_true rfl) (by constructor <;> simp only [x_Rm] <;> omega) dX12_readBracket_1 (fun z_1 => ?_)
  refine a_if_ne (pc := 4) X 9 dX12_readBracket_4 rfl (fun c_4 => ?_) (fun c_4 => ?_)
  · have h := x_ifn c_4 h
    refine a_aload_n (pc := 9) X 0 dX12_readBracket_9 rfl rfl ?_
    refine a_bipush (pc := 10) X dX12_readBracket_10 q_bp_41 ?_
    obtain ⟨y2, e_y2, h⟩ := x_lt_elim h
    refine a_callV (pc := 12) (st2 := [.int y2]) (vs2 := [y1.2]) X [(0, 0, 20)] [none] 0 0 12 [.int (41 : Int32)] [] cv_RX12_86 (c_X12_isSign (ad0 := ad0)  e_y2) rfl rfl rfl rfl rfl rfl rfl rfl rfl rfl rfl rfl rfl rfl rfl (Nat.le_of_ble_eq_true rfl) (by constructor <;> simp only [x_Rm] <;> omega) dX12_readBracket_12 (fun z_12 => ?_)
    refine a_if_ne (pc := 15) X 24 dX12_readBracket_15 rfl (fun c_15 => ?_) (fun c_15 => ?_)
    · have h := x_ifn c_15 h
      refine a_aload_n (pc := 24) X 0 dX12_readBracket_24 rfl rfl ?_
      obtain ⟨y3, e_y3, h⟩ := x_bo_elim h
      refine a_callV (pc := 25) (st2 := []) (vs2 := [y3]) X [(0, 0, 20)] [some y3] 0 0 12 [] [] cv_RX12_82 (c_X12_go (ad0 := ad0)  e_y3) rfl rfl rfl rfl rfl rfl rfl rfl rfl rfl rfl rfl rfl rfl rfl (Nat.le_of_ble_eq_true rfl) (by constructor <;> simp only [x_Rm] <;> omega) dX12_readBracket_25 (fun _ => ?_)
      refine a_iconst (pc := 28) X dX12_readBracket_28 q_ic_1 ?_
      have h := Option.some.inj h; subst h
      exact a_zret (pc := 29) X x_Z1 x_Z1 dX12_readBracket_29
    · have h := x_ifp c_15 h
      refine a_aload_n (pc := 18) X 0 dX12_readBracket_18 rfl rfl ?_
      refine a_iconst (pc := 19) X dX12_readBracket_19 q_ic_1 ?_
      obtain ⟨y4, e_y4, h⟩ := x_lt_elim h
      refine a_callV (pc := 20) (st2 := [.int y4.1]) (vs2 := [y4.2]) X [(0, 0, 20)] [some y4.2] 0 0 12 [.int (1 : Int32)] [] cv_RX12_72 (c_X12_bad (ad0 := ad0)  e_y4) rfl rfl rfl rfl rfl rfl rfl rfl rfl rfl rfl rfl rfl rfl rfl (Nat.le_of_ble_eq_true rfl) (by constructor <;> simp only [x_Rm] <;> omega) dX12_readBracket_20 (fun z_20 => ?_)
      have h := Option.some.inj h; subst h
      exact a_zret (pc := 23) X z_20 z_20 dX12_readBracket_23
  · have h := x_ifp c_4 h
    refine a_iconst (pc := 7) X dX12_readBracket_7 q_ic_0 ?_
    have h := Option.some.inj h; subst h
    exact a_zret (pc := 8) X x_Z0 x_Z0 dX12_readBracket_8
def g_read : Nat → Nat → XM → Option (Int32 × XM)
  | 0 => fun _ _ => none
  | d + 1 => fun t => match t with
    | 0 => f_X12_readOr (g_read d)
    | 1 => f_X12_readAnd (g_read d)
    | 2 => f_X12_readSaid (g_read d)
    | 3 => f_X12_readNot (g_read d)
    | _ => f_X12_readBracket (g_read d)
theorem cg_read (l : Launch) : ∀ d : Nat, (∀ {ad0 : Nat → Nat} {v0 : XM}  {o : Int32 × XM}, g_read d 0 v0 = some o → CT l yX12_readOr cX12_readOr 2 (some .boolean) (5 + d) [(shModel, ad0)] [v0] (fun aK => [.ref (ad0 0)]) (some (.int o.1)) (x_Z o.1) [o.2]) ∧ (∀ {ad0 : Nat → Nat} {v0 : XM}  {o : Int32 × XM}, g_read d 1 v0 = some o → CT l yX12_readAnd cX12_readAnd 2 (some .boolean) (5 + d) [(shModel, ad0)] [v0] (fun aK => [.ref (ad0 0)]) (some (.int o.1)) (x_Z o.1) [o.2]) ∧ (∀ {ad0 : Nat → Nat} {v0 : XM}  {o : Int32 × XM}, g_read d 2 v0 = some o → CT l yX12_readSaid cX12_readSaid 4 (some .boolean) (5 + d) [(shModel, ad0)] [v0] (fun aK => [.ref (ad0 0)]) (some (.int o.1)) (x_Z o.1) [o.2]) ∧ (∀ {ad0 : Nat → Nat} {v0 : XM}  {o : Int32 × XM}, g_read d 3 v0 = some o → CT l yX12_readNot cX12_readNot 1 (some .boolean) (5 + d) [(shModel, ad0)] [v0] (fun aK => [.ref (ad0 0)]) (some (.int o.1)) (x_Z o.1) [o.2]) ∧ (∀ {ad0 : Nat → Nat} {v0 : XM}  {o : Int32 × XM}, g_read d 4 v0 = some o → CT l yX12_readBracket cX12_readBracket 1 (some .boolean) (5 + d) [(shModel, ad0)] [v0] (fun aK => [.ref (ad0 0)]) (some (.int o.1)) (x_Z o.1) [o.2]) := by
  intro d
  induction d with
  | zero => exact ⟨(fun h => by cases h), (fun h => by cases h), (fun h => by cases h), (fun h => by cases h), (fun h => by cases h)⟩
  | succ d ih =>
    obtain ⟨hr0, hr1, hr2, hr3, hr4⟩ := ih
    exact ⟨fun h => cb_X12_readOr hr0 hr1 hr2 hr3 hr4 h, fun h => cb_X12_readAnd hr0 hr1 hr2 hr3 hr4 h, fun h => cb_X12_readSaid hr0 hr1 hr2 hr3 hr4 h, fun h => cb_X12_readNot hr0 hr1 hr2 hr3 hr4 h, fun h => cb_X12_readBracket hr0 hr1 hr2 hr3 hr4 h⟩
def F_X12_readOr (v0 : XM) : Option (Int32 × XM) := g_read 200 0 v0
theorem c_X12_readOr {l : Launch} {ad0 : Nat → Nat} {v0 : XM}  {o : Int32 × XM} (h : F_X12_readOr v0 = some o) : CT l yX12_readOr cX12_readOr 2 (some .boolean) 205 [(shModel, ad0)] [v0] (fun aK => [.ref (ad0 0)]) (some (.int o.1)) (x_Z o.1) [o.2] := (cg_read l 200).1 h
def F_X12_readAnd (v0 : XM) : Option (Int32 × XM) := g_read 200 1 v0
theorem c_X12_readAnd {l : Launch} {ad0 : Nat → Nat} {v0 : XM}  {o : Int32 × XM} (h : F_X12_readAnd v0 = some o) : CT l yX12_readAnd cX12_readAnd 2 (some .boolean) 205 [(shModel, ad0)] [v0] (fun aK => [.ref (ad0 0)]) (some (.int o.1)) (x_Z o.1) [o.2] := (cg_read l 200).2.1 h
def F_X12_readSaid (v0 : XM) : Option (Int32 × XM) := g_read 200 2 v0
theorem c_X12_readSaid {l : Launch} {ad0 : Nat → Nat} {v0 : XM}  {o : Int32 × XM} (h : F_X12_readSaid v0 = some o) : CT l yX12_readSaid cX12_readSaid 4 (some .boolean) 205 [(shModel, ad0)] [v0] (fun aK => [.ref (ad0 0)]) (some (.int o.1)) (x_Z o.1) [o.2] := (cg_read l 200).2.2.1 h
def F_X12_readNot (v0 : XM) : Option (Int32 × XM) := g_read 200 3 v0
theorem c_X12_readNot {l : Launch} {ad0 : Nat → Nat} {v0 : XM}  {o : Int32 × XM} (h : F_X12_readNot v0 = some o) : CT l yX12_readNot cX12_readNot 1 (some .boolean) 205 [(shModel, ad0)] [v0] (fun aK => [.ref (ad0 0)]) (some (.int o.1)) (x_Z o.1) [o.2] := (cg_read l 200).2.2.2.1 h
def F_X12_readBracket (v0 : XM) : Option (Int32 × XM) := g_read 200 4 v0
theorem c_X12_readBracket {l : Launch} {ad0 : Nat → Nat} {v0 : XM}  {o : Int32 × XM} (h : F_X12_readBracket v0 = some o) : CT l yX12_readBracket cX12_readBracket 1 (some .boolean) 205 [(shModel, ad0)] [v0] (fun aK => [.ref (ad0 0)]) (some (.int o.1)) (x_Z o.1) [o.2] := (cg_read l 200).2.2.2.2 h
theorem dX12_sentence_0 : decode cX12_sentence 0 = .ok (.aload_n 0, 1) := by decide +kernel
theorem dX12_sentence_1 : decode cX12_sentence 1 = .ok (.sipush 200, 3) := by decide +kernel
theorem dX12_sentence_4 : decode cX12_sentence 4 = .ok (.invokevirtual 225, 3) := by decide +kernel
theorem dX12_sentence_7 : decode cX12_sentence 7 = .ok (.aload_n 0, 1) := by decide +kernel
theorem dX12_sentence_8 : decode cX12_sentence 8 = .ok (.iconst 0, 1) := by decide +kernel
theorem dX12_sentence_9 : decode cX12_sentence 9 = .ok (.putfield 426, 3) := by decide +kernel
theorem dX12_sentence_12 : decode cX12_sentence 12 = .ok (.aload_n 0, 1) := by decide +kernel
theorem dX12_sentence_13 : decode cX12_sentence 13 = .ok (.iconst 0, 1) := by decide +kernel
theorem dX12_sentence_14 : decode cX12_sentence 14 = .ok (.putfield 442, 3) := by decide +kernel
theorem dX12_sentence_17 : decode cX12_sentence 17 = .ok (.aload_n 0, 1) := by decide +kernel
theorem dX12_sentence_18 : decode cX12_sentence 18 = .ok (.iconst 0, 1) := by decide +kernel
theorem dX12_sentence_19 : decode cX12_sentence 19 = .ok (.putfield 445, 3) := by decide +kernel
theorem dX12_sentence_22 : decode cX12_sentence 22 = .ok (.aload_n 0, 1) := by decide +kernel
theorem dX12_sentence_23 : decode cX12_sentence 23 = .ok (.invokevirtual 460, 3) := by decide +kernel
theorem dX12_sentence_26 : decode cX12_sentence 26 = .ok (.ifCond .ne 10, 3) := by decide +kernel
theorem dX12_sentence_29 : decode cX12_sentence 29 = .ok (.iconst (-1), 1) := by decide +kernel
theorem dX12_sentence_30 : decode cX12_sentence 30 = .ok (.aload_n 0, 1) := by decide +kernel
theorem dX12_sentence_31 : decode cX12_sentence 31 = .ok (.getfield 69, 3) := by decide +kernel
theorem dX12_sentence_34 : decode cX12_sentence 34 = .ok (.isub, 1) := by decide +kernel
theorem dX12_sentence_35 : decode cX12_sentence 35 = .ok (.ireturn, 1) := by decide +kernel
theorem dX12_sentence_36 : decode cX12_sentence 36 = .ok (.aload_n 0, 1) := by decide +kernel
theorem dX12_sentence_37 : decode cX12_sentence 37 = .ok (.getfield 30, 3) := by decide +kernel
theorem dX12_sentence_40 : decode cX12_sentence 40 = .ok (.ifCond .eq 16, 3) := by decide +kernel
theorem dX12_sentence_43 : decode cX12_sentence 43 = .ok (.aload_n 0, 1) := by decide +kernel
theorem dX12_sentence_44 : decode cX12_sentence 44 = .ok (.iconst 1, 1) := by decide +kernel
theorem dX12_sentence_45 : decode cX12_sentence 45 = .ok (.invokevirtual 72, 3) := by decide +kernel
theorem dX12_sentence_48 : decode cX12_sentence 48 = .ok (.pop, 1) := by decide +kernel
theorem dX12_sentence_49 : decode cX12_sentence 49 = .ok (.iconst (-1), 1) := by decide +kernel
theorem dX12_sentence_50 : decode cX12_sentence 50 = .ok (.aload_n 0, 1) := by decide +kernel
theorem dX12_sentence_51 : decode cX12_sentence 51 = .ok (.getfield 69, 3) := by decide +kernel
theorem dX12_sentence_54 : decode cX12_sentence 54 = .ok (.isub, 1) := by decide +kernel
theorem dX12_sentence_55 : decode cX12_sentence 55 = .ok (.ireturn, 1) := by decide +kernel
theorem dX12_sentence_56 : decode cX12_sentence 56 = .ok (.aload_n 0, 1) := by decide +kernel
theorem dX12_sentence_57 : decode cX12_sentence 57 = .ok (.getfield 98, 3) := by decide +kernel
theorem dX12_sentence_60 : decode cX12_sentence 60 = .ok (.bipush 111, 2) := by decide +kernel
theorem dX12_sentence_62 : decode cX12_sentence 62 = .ok (.iconst 1, 1) := by decide +kernel
theorem dX12_sentence_63 : decode cX12_sentence 63 = .ok (.iastore, 1) := by decide +kernel
theorem dX12_sentence_64 : decode cX12_sentence 64 = .ok (.aload_n 0, 1) := by decide +kernel
theorem dX12_sentence_65 : decode cX12_sentence 65 = .ok (.getfield 98, 3) := by decide +kernel
theorem dX12_sentence_68 : decode cX12_sentence 68 = .ok (.bipush 112, 2) := by decide +kernel
theorem dX12_sentence_70 : decode cX12_sentence 70 = .ok (.aload_n 0, 1) := by decide +kernel
theorem dX12_sentence_71 : decode cX12_sentence 71 = .ok (.getfield 432, 3) := by decide +kernel
theorem dX12_sentence_74 : decode cX12_sentence 74 = .ok (.iastore, 1) := by decide +kernel
theorem dX12_sentence_75 : decode cX12_sentence 75 = .ok (.iconst 0, 1) := by decide +kernel
theorem dX12_sentence_76 : decode cX12_sentence 76 = .ok (.istore_n 1, 1) := by decide +kernel
theorem dX12_sentence_77 : decode cX12_sentence 77 = .ok (.iload_n 1, 1) := by decide +kernel
theorem dX12_sentence_78 : decode cX12_sentence 78 = .ok (.sipush 240, 3) := by decide +kernel
theorem dX12_sentence_81 : decode cX12_sentence 81 = .ok (.if_icmp .ge 24, 3) := by decide +kernel
theorem dX12_sentence_84 : decode cX12_sentence 84 = .ok (.aload_n 0, 1) := by decide +kernel
theorem dX12_sentence_85 : decode cX12_sentence 85 = .ok (.getfield 98, 3) := by decide +kernel
theorem dX12_sentence_88 : decode cX12_sentence 88 = .ok (.bipush 113, 2) := by decide +kernel
theorem dX12_sentence_90 : decode cX12_sentence 90 = .ok (.iload_n 1, 1) := by decide +kernel
theorem dX12_sentence_91 : decode cX12_sentence 91 = .ok (.iadd, 1) := by decide +kernel
theorem dX12_sentence_92 : decode cX12_sentence 92 = .ok (.aload_n 0, 1) := by decide +kernel
theorem dX12_sentence_93 : decode cX12_sentence 93 = .ok (.getfield 160, 3) := by decide +kernel
theorem dX12_sentence_96 : decode cX12_sentence 96 = .ok (.iload_n 1, 1) := by decide +kernel
theorem dX12_sentence_97 : decode cX12_sentence 97 = .ok (.iaload, 1) := by decide +kernel
theorem dX12_sentence_98 : decode cX12_sentence 98 = .ok (.iastore, 1) := by decide +kernel
theorem dX12_sentence_99 : decode cX12_sentence 99 = .ok (.iinc 1 1, 3) := by decide +kernel
theorem dX12_sentence_102 : decode cX12_sentence 102 = .ok (.goto (-25), 3) := by decide +kernel
theorem dX12_sentence_105 : decode cX12_sentence 105 = .ok (.aload_n 0, 1) := by decide +kernel
theorem dX12_sentence_106 : decode cX12_sentence 106 = .ok (.getfield 442, 3) := by decide +kernel
theorem dX12_sentence_109 : decode cX12_sentence 109 = .ok (.ireturn, 1) := by decide +kernel
def f_X12_sentence_77 (k77 : XM → Int32 → Option (Int32 × XM)) (w0 : XM) (l1 : Int32) : Option (Int32 × XM) :=
  if ((240 : Int32) : Int32) ≤ l1 then
  (some (w0.1 0 44, w0))
  else (x_ck l1 240 (
  x_ck ((113 : Int32) + l1) 353 (
  x_lt (x_pa w0 2 ((113 : Int32) + l1) (x_ga w0 19 l1)) (fun m1 =>
  k77 m1 (l1 + 1)))))
def f_X12_sentence (v0 : XM) : Option (Int32 × XM) :=
  x_bo (f_X12_begin v0 (200 : Int32)) (fun y2 =>
  x_lt (x_si y2 0 43 (0 : Int32)) (fun m3 =>
  x_lt (x_si m3 0 44 (0 : Int32)) (fun m4 =>
  x_lt (x_si m4 0 45 (0 : Int32)) (fun m5 =>
  x_bo (F_X12_readOr m5) (fun y6 =>
  if y6.1 = (0 : Int32) then
  (some ((-1 : Int32) - (y6.2.1 0 11), y6.2))
  else (if (y6.2.1 0 7) = (0 : Int32) then
  (x_lt (x_pa y6.2 2 (111 : Int32) (1 : Int32)) (fun m7 =>
  x_lt (x_pa m7 2 (112 : Int32) (m7.1 0 46)) (fun m8 =>
  x_lp (φ := XM → Int32 → Option (Int32 × XM)) (fun _ _ => none) (f_X12_sentence_77  ) x_NN m8 (0 : Int32))))
  else (x_lt (f_X12_bad y6.2 (1 : Int32)) (fun y9 =>
  some ((-1 : Int32) - (y9.2.1 0 11), y9.2)))))))))
set_option maxRecDepth 100000 in
set_option maxHeartbeats 4000000 in
theorem w_X12_sentence_77 {p : Program} {l : Launch} {e : Env} {s : State} {m : MethodId} {args : Array Value} {below : List Frame} {meth : Method} {c : Code} {D : va_G} {tc : Nat → ClassId} {aK aV : Nat → Nat} {A : Nat → Prop} {ad0 : Nat → Nat}  (X : Cx p s m args meth c cX12_sentence 2 (some .int) RX12 D tc aK aV A [(shModel, ad0)])  {o : Int32 × XM}  : ∀ (n : Nat), ∀ (w0 : XM) (l1 : Int32), x_lp (φ := XM → Int32 → Option (Int32 × XM)) (fun _ _ => none) (f_X12_sentence_77  ) n w0 l1 = some o → aW p l e (x_Rm 206) s m args below meth c D tc A 2 [(shModel, ad0)] (some (.int o.1)) True [o.2] 77 [(0, .ref (ad0 0)), (1, .int l1)] [] [w0] := by
  intro n
  induction n with
  | zero => intro w0 l1 h; exact absurd h (fun q => by cases q)
  | succ n ih =>
    intro w0 l1 h
    have h : f_X12_sentence_77   (x_lp (φ := XM → Int32 → Option (Int32 × XM)) (fun _ _ => none) (f_X12_sentence_77  ) n) w0 l1 = some o := h
    generalize x_lp (φ := XM → Int32 → Option (Int32 × XM)) (fun _ _ => none) (f_X12_sentence_77  ) n = k77 at h ih
    have hk77 := ih
    unfold f_X12_sentence_77 at h
    refine a_iload_n (pc := 77) X 1 dX12_sentence_77 rfl rfl ?_
    refine a_sipush (pc := 78) X dX12_sentence_78 q_sp_240 ?_
    refine a_icmp_ge (pc := 81) X 105 dX12_sentence_81 rfl (fun c_81 => ?_) (fun c_81 => ?_)
    · have h := x_ifp c_81 h
      refine a_aload_n (pc := 105) X 0 dX12_sentence_105 rfl rfl ?_
      refine a_getI (pc := 106) X 0 fl_RX12_442 rfl rfl rfl rfl dX12_sentence_106 ?_
      have h := Option.some.inj h; subst h
      exact a_iret (pc := 109) X trivial dX12_sentence_109
    · have h := x_ifn c_81 h
      refine a_aload_n (pc := 84) X 0 dX12_sentence_84 rfl rfl ?_
      refine a_getR (pc := 85) X 0 2 2 fl_RX12_98 rfl rfl rfl rfl rfl dX12_sentence_85 ?_
      refine a_bipush (pc := 88) X dX12_sentence_88 q_bp_113 ?_
      refine a_iload_n (pc := 90) X 1 dX12_sentence_90 rfl rfl ?_
      refine a_iadd (pc := 91) X dX12_sentence_91 ?_
      refine a_aload_n (pc := 92) X 0 dX12_sentence_92 rfl rfl ?_
      refine a_getR (pc := 93) X 0 19 19 fl_RX12_160 rfl rfl rfl rfl rfl dX12_sentence_93 ?_
      refine a_iload_n (pc := 96) X 1 dX12_sentence_96 rfl rfl ?_
      obtain ⟨c_97, h⟩ := x_ck_elim h
      refine a_iald (pc := 97) X 0 rfl rfl rfl c_97 dX12_sentence_97 ?_
      obtain ⟨c_98, h⟩ := x_ck_elim h
      refine a_iast (pc := 98) X 0 rfl rfl rfl c_98 dX12_sentence_98 ?_
      obtain ⟨m1, e_m1, h⟩ := x_lt_elim h
      refine a_nm (vs2 := [m1]) (congrArg (fun q : XM => [q]) e_m1) ?_
      refine a_iinc (pc := 99) X 1 [(1, .int (l1 + 1)), (0, .ref (ad0 0))] dX12_sentence_99 rfl (congrArg (HAdd.hAdd l1) q_ic_1) (by decide) rfl ?_
      refine a_goto (pc := 102) X 77 dX12_sentence_102 rfl ?_
      refine a_sub [1, 0] rfl ?_
      exact hk77 _ _ h
set_option maxRecDepth 100000 in
set_option maxHeartbeats 4000000 in
theorem c_X12_sentence {l : Launch}  {ad0 : Nat → Nat} {v0 : XM}   {o : Int32 × XM} (h : f_X12_sentence v0 = some o) : CT l yX12_sentence cX12_sentence 2 (some .int) 206 [(shModel, ad0)] [v0] (fun aK => [.ref (ad0 0)]) (some (.int o.1)) True [o.2] := by
  refine CT_of (by decide) (fun _ => Nat.le_of_ble_eq_true rfl) ?_
  intro p e s m args below meth c D tc aK aV A X
  have X : Cx p s m args meth c cX12_sentence 2 (some .int) RX12 D tc aK aV A [(shModel, ad0)] := X
  show aW p l e (x_Rm 206) s m args below meth c D tc A 2 [(shModel, ad0)] (some (.int o.1)) True [o.2] 0 [(0, .ref (ad0 0))] [] [v0]
  unfold f_X12_sentence at h
  refine a_aload_n (pc := 0) X 0 dX12_sentence_0 rfl rfl ?_
  refine a_sipush (pc := 1) X dX12_sentence_1 q_sp_200 ?_
  obtain ⟨y2, e_y2, h⟩ := x_bo_elim h
  refine a_callV (pc := 4) (st2 := []) (vs2 := [y2]) X [(0, 0, 20)] [some y2] 0 0 12 [.int (200 : Int32)] [] cv_RX12_225 (c_X12_begin (ad0 := ad0)  e_y2) rfl rfl rfl rfl rfl rfl rfl rfl rfl rfl rfl rfl rfl rfl rfl (Nat.le_of_ble_eq_true rfl) ⟨Nat.le_of_ble_eq_true rfl, Nat.le_of_ble_eq_true rfl⟩ dX12_sentence_4 (fun _ => ?_)
  refine a_aload_n (pc := 7) X 0 dX12_sentence_7 rfl rfl ?_
  refine a_iconst (pc := 8) X dX12_sentence_8 q_ic_0 ?_
  refine a_putI (pc := 9) X 0 fl_RX12_426 rfl rfl rfl rfl dX12_sentence_9 ?_
  obtain ⟨m3, e_m3, h⟩ := x_lt_elim h
  refine a_nm (vs2 := [m3]) (congrArg (fun q : XM => [q]) e_m3) ?_
  refine a_aload_n (pc := 12) X 0 dX12_sentence_12 rfl rfl ?_
  refine a_iconst (pc := 13) X dX12_sentence_13 q_ic_0 ?_
  refine a_putI (pc := 14) X 0 fl_RX12_442 rfl rfl rfl rfl dX12_sentence_14 ?_
  obtain ⟨m4, e_m4, h⟩ := x_lt_elim h
  refine a_nm (vs2 := [m4]) (congrArg (fun q : XM => [q]) e_m4) ?_
  refine a_aload_n (pc := 17) X 0 dX12_sentence_17 rfl rfl ?_
  refine a_iconst (pc := 18) X dX12_sentence_18 q_ic_0 ?_
  refine a_putI (pc := 19) X 0 fl_RX12_445 rfl rfl rfl rfl dX12_sentence_19 ?_
  obtain ⟨m5, e_m5, h⟩ := x_lt_elim h
  refine a_nm (vs2 := [m5]) (congrArg (fun q : XM => [q]) e_m5) ?_
  refine a_aload_n (pc := 22) X 0 dX12_sentence_22 rfl rfl ?_
  obtain ⟨y6, e_y6, h⟩ := x_bo_elim h
  refine a_callV (pc := 23) (st2 := [.int y6.1]) (vs2 := [y6.2]) X [(0, 0, 20)] [some y6.2] 0 0 12 [] [] cv_RX12_460 (c_X12_readOr (ad0 := ad0)  e_y6) rfl rfl rfl rfl rfl rfl rfl rfl rfl rfl rfl rfl rfl rfl rfl (Nat.le_of_ble_eq_true rfl) ⟨Nat.le_of_ble_eq_true rfl, Nat.le_of_ble_eq_true rfl⟩ dX12_sentence_23 (fun z_23 => ?_)
  refine a_if_ne (pc := 26) X 36 dX12_sentence_26 rfl (fun c_26 => ?_) (fun c_26 => ?_)
  · have h := x_ifn c_26 h
    refine a_aload_n (pc := 36) X 0 dX12_sentence_36 rfl rfl ?_
    refine a_getI (pc := 37) X 0 fl_RX12_30 rfl rfl rfl rfl dX12_sentence_37 ?_
    refine a_if_eq (pc := 40) X 56 dX12_sentence_40 rfl (fun c_40 => ?_) (fun c_40 => ?_)
    · have h := x_ifp c_40 h
      refine a_aload_n (pc := 56) X 0 dX12_sentence_56 rfl rfl ?_
      refine a_getR (pc := 57) X 0 2 2 fl_RX12_98 rfl rfl rfl rfl rfl dX12_sentence_57 ?_
      refine a_bipush (pc := 60) X dX12_sentence_60 q_bp_111 ?_
      refine a_iconst (pc := 62) X dX12_sentence_62 q_ic_1 ?_
      refine a_iast (pc := 63) X 0 rfl rfl rfl (x_inl (by decide)) dX12_sentence_63 ?_
      obtain ⟨m7, e_m7, h⟩ := x_lt_elim h
      refine a_nm (vs2 := [m7]) (congrArg (fun q : XM => [q]) e_m7) ?_
      refine a_aload_n (pc := 64) X 0 dX12_sentence_64 rfl rfl ?_
      refine a_getR (pc := 65) X 0 2 2 fl_RX12_98 rfl rfl rfl rfl rfl dX12_sentence_65 ?_
      refine a_bipush (pc := 68) X dX12_sentence_68 q_bp_112 ?_
      refine a_aload_n (pc := 70) X 0 dX12_sentence_70 rfl rfl ?_
      refine a_getI (pc := 71) X 0 fl_RX12_432 rfl rfl rfl rfl dX12_sentence_71 ?_
      refine a_iast (pc := 74) X 0 rfl rfl rfl (x_inl (by decide)) dX12_sentence_74 ?_
      obtain ⟨m8, e_m8, h⟩ := x_lt_elim h
      refine a_nm (vs2 := [m8]) (congrArg (fun q : XM => [q]) e_m8) ?_
      refine a_iconst (pc := 75) X dX12_sentence_75 q_ic_0 ?_
      refine a_istore_n (pc := 76) X [(1, .int (0 : Int32)), (0, .ref (ad0 0))] dX12_sentence_76 rfl (by decide) rfl ?_
      refine a_sub [1, 0] rfl ?_
      exact w_X12_sentence_77 X    x_NN _ _ h
    · have h := x_ifn c_40 h
      refine a_aload_n (pc := 43) X 0 dX12_sentence_43 rfl rfl ?_
      refine a_iconst (pc := 44) X dX12_sentence_44 q_ic_1 ?_
      obtain ⟨y9, e_y9, h⟩ := x_lt_elim h
      refine a_callV (pc := 45) (st2 := [.int y9.1]) (vs2 := [y9.2]) X [(0, 0, 20)] [some y9.2] 0 0 12 [.int (1 : Int32)] [] cv_RX12_72 (c_X12_bad (ad0 := ad0)  e_y9) rfl rfl rfl rfl rfl rfl rfl rfl rfl rfl rfl rfl rfl rfl rfl (Nat.le_of_ble_eq_true rfl) ⟨Nat.le_of_ble_eq_true rfl, Nat.le_of_ble_eq_true rfl⟩ dX12_sentence_45 (fun z_45 => ?_)
      refine a_pop (pc := 48) X dX12_sentence_48 rfl ?_
      refine a_iconst (pc := 49) X dX12_sentence_49 q_ic_m1 ?_
      refine a_aload_n (pc := 50) X 0 dX12_sentence_50 rfl rfl ?_
      refine a_getI (pc := 51) X 0 fl_RX12_69 rfl rfl rfl rfl dX12_sentence_51 ?_
      refine a_isub (pc := 54) X dX12_sentence_54 ?_
      have h := Option.some.inj h; subst h
      exact a_iret (pc := 55) X trivial dX12_sentence_55
  · have h := x_ifp c_26 h
    refine a_iconst (pc := 29) X dX12_sentence_29 q_ic_m1 ?_
    refine a_aload_n (pc := 30) X 0 dX12_sentence_30 rfl rfl ?_
    refine a_getI (pc := 31) X 0 fl_RX12_69 rfl rfl rfl rfl dX12_sentence_31 ?_
    refine a_isub (pc := 34) X dX12_sentence_34 ?_
    have h := Option.some.inj h; subst h
    exact a_iret (pc := 35) X trivial dX12_sentence_35
theorem dX12_holds_0 : decode cX12_holds 0 = .ok (.bipush 113, 2) := by decide +kernel
theorem dX12_holds_2 : decode cX12_holds 2 = .ok (.iconst 4, 1) := by decide +kernel
theorem dX12_holds_3 : decode cX12_holds 3 = .ok (.iload_n 1, 1) := by decide +kernel
theorem dX12_holds_4 : decode cX12_holds 4 = .ok (.imul, 1) := by decide +kernel
theorem dX12_holds_5 : decode cX12_holds 5 = .ok (.iadd, 1) := by decide +kernel
theorem dX12_holds_6 : decode cX12_holds 6 = .ok (.istore_n 3, 1) := by decide +kernel
theorem dX12_holds_7 : decode cX12_holds 7 = .ok (.aload_n 0, 1) := by decide +kernel
theorem dX12_holds_8 : decode cX12_holds 8 = .ok (.getfield 98, 3) := by decide +kernel
theorem dX12_holds_11 : decode cX12_holds 11 = .ok (.iload_n 3, 1) := by decide +kernel
theorem dX12_holds_12 : decode cX12_holds 12 = .ok (.iconst 1, 1) := by decide +kernel
theorem dX12_holds_13 : decode cX12_holds 13 = .ok (.iadd, 1) := by decide +kernel
theorem dX12_holds_14 : decode cX12_holds 14 = .ok (.iaload, 1) := by decide +kernel
theorem dX12_holds_15 : decode cX12_holds 15 = .ok (.istore 4, 2) := by decide +kernel
theorem dX12_holds_17 : decode cX12_holds 17 = .ok (.aload_n 0, 1) := by decide +kernel
theorem dX12_holds_18 : decode cX12_holds 18 = .ok (.getfield 98, 3) := by decide +kernel
theorem dX12_holds_21 : decode cX12_holds 21 = .ok (.iload_n 3, 1) := by decide +kernel
theorem dX12_holds_22 : decode cX12_holds 22 = .ok (.iconst 2, 1) := by decide +kernel
theorem dX12_holds_23 : decode cX12_holds 23 = .ok (.iadd, 1) := by decide +kernel
theorem dX12_holds_24 : decode cX12_holds 24 = .ok (.iaload, 1) := by decide +kernel
theorem dX12_holds_25 : decode cX12_holds 25 = .ok (.istore 5, 2) := by decide +kernel
theorem dX12_holds_27 : decode cX12_holds 27 = .ok (.aload_n 0, 1) := by decide +kernel
theorem dX12_holds_28 : decode cX12_holds 28 = .ok (.getfield 98, 3) := by decide +kernel
theorem dX12_holds_31 : decode cX12_holds 31 = .ok (.iload_n 3, 1) := by decide +kernel
theorem dX12_holds_32 : decode cX12_holds 32 = .ok (.iaload, 1) := by decide +kernel
theorem dX12_holds_33 : decode cX12_holds 33 = .ok (.lookupswitch 233 #[(1, 75), (2, 91), (3, 117), (70, 143), (71, 149), (72, 184), (73, 190), (74, 218)], 75) := by decide +kernel
theorem dX12_holds_108 : decode cX12_holds 108 = .ok (.aload_n 0, 1) := by decide +kernel
theorem dX12_holds_109 : decode cX12_holds 109 = .ok (.iload 4, 2) := by decide +kernel
theorem dX12_holds_111 : decode cX12_holds 111 = .ok (.iload_n 2, 1) := by decide +kernel
theorem dX12_holds_112 : decode cX12_holds 112 = .ok (.invokevirtual 463, 3) := by decide +kernel
theorem dX12_holds_115 : decode cX12_holds 115 = .ok (.ifCond .ne 7, 3) := by decide +kernel
theorem dX12_holds_118 : decode cX12_holds 118 = .ok (.iconst 1, 1) := by decide +kernel
theorem dX12_holds_119 : decode cX12_holds 119 = .ok (.goto 4, 3) := by decide +kernel
theorem dX12_holds_122 : decode cX12_holds 122 = .ok (.iconst 0, 1) := by decide +kernel
theorem dX12_holds_123 : decode cX12_holds 123 = .ok (.ireturn, 1) := by decide +kernel
theorem dX12_holds_124 : decode cX12_holds 124 = .ok (.aload_n 0, 1) := by decide +kernel
theorem dX12_holds_125 : decode cX12_holds 125 = .ok (.iload 4, 2) := by decide +kernel
theorem dX12_holds_127 : decode cX12_holds 127 = .ok (.iload_n 2, 1) := by decide +kernel
theorem dX12_holds_128 : decode cX12_holds 128 = .ok (.invokevirtual 463, 3) := by decide +kernel
theorem dX12_holds_131 : decode cX12_holds 131 = .ok (.ifCond .eq 17, 3) := by decide +kernel
theorem dX12_holds_134 : decode cX12_holds 134 = .ok (.aload_n 0, 1) := by decide +kernel
theorem dX12_holds_135 : decode cX12_holds 135 = .ok (.iload 5, 2) := by decide +kernel
theorem dX12_holds_137 : decode cX12_holds 137 = .ok (.iload_n 2, 1) := by decide +kernel
theorem dX12_holds_138 : decode cX12_holds 138 = .ok (.invokevirtual 463, 3) := by decide +kernel
theorem dX12_holds_141 : decode cX12_holds 141 = .ok (.ifCond .eq 7, 3) := by decide +kernel
theorem dX12_holds_144 : decode cX12_holds 144 = .ok (.iconst 1, 1) := by decide +kernel
theorem dX12_holds_145 : decode cX12_holds 145 = .ok (.goto 4, 3) := by decide +kernel
theorem dX12_holds_148 : decode cX12_holds 148 = .ok (.iconst 0, 1) := by decide +kernel
theorem dX12_holds_149 : decode cX12_holds 149 = .ok (.ireturn, 1) := by decide +kernel
theorem dX12_holds_150 : decode cX12_holds 150 = .ok (.aload_n 0, 1) := by decide +kernel
theorem dX12_holds_151 : decode cX12_holds 151 = .ok (.iload 4, 2) := by decide +kernel
theorem dX12_holds_153 : decode cX12_holds 153 = .ok (.iload_n 2, 1) := by decide +kernel
theorem dX12_holds_154 : decode cX12_holds 154 = .ok (.invokevirtual 463, 3) := by decide +kernel
theorem dX12_holds_157 : decode cX12_holds 157 = .ok (.ifCond .ne 13, 3) := by decide +kernel
theorem dX12_holds_160 : decode cX12_holds 160 = .ok (.aload_n 0, 1) := by decide +kernel
theorem dX12_holds_161 : decode cX12_holds 161 = .ok (.iload 5, 2) := by decide +kernel
theorem dX12_holds_163 : decode cX12_holds 163 = .ok (.iload_n 2, 1) := by decide +kernel
theorem dX12_holds_164 : decode cX12_holds 164 = .ok (.invokevirtual 463, 3) := by decide +kernel
theorem dX12_holds_167 : decode cX12_holds 167 = .ok (.ifCond .eq 7, 3) := by decide +kernel
theorem dX12_holds_170 : decode cX12_holds 170 = .ok (.iconst 1, 1) := by decide +kernel
theorem dX12_holds_171 : decode cX12_holds 171 = .ok (.goto 4, 3) := by decide +kernel
theorem dX12_holds_174 : decode cX12_holds 174 = .ok (.iconst 0, 1) := by decide +kernel
theorem dX12_holds_175 : decode cX12_holds 175 = .ok (.ireturn, 1) := by decide +kernel
theorem dX12_holds_176 : decode cX12_holds 176 = .ok (.aload_n 0, 1) := by decide +kernel
theorem dX12_holds_177 : decode cX12_holds 177 = .ok (.iload_n 2, 1) := by decide +kernel
theorem dX12_holds_178 : decode cX12_holds 178 = .ok (.invokevirtual 240, 3) := by decide +kernel
theorem dX12_holds_181 : decode cX12_holds 181 = .ok (.ireturn, 1) := by decide +kernel
theorem dX12_holds_182 : decode cX12_holds 182 = .ok (.aload_n 0, 1) := by decide +kernel
theorem dX12_holds_183 : decode cX12_holds 183 = .ok (.iload_n 2, 1) := by decide +kernel
theorem dX12_holds_184 : decode cX12_holds 184 = .ok (.invokevirtual 240, 3) := by decide +kernel
theorem dX12_holds_187 : decode cX12_holds 187 = .ok (.ifCond .ne 28, 3) := by decide +kernel
theorem dX12_holds_190 : decode cX12_holds 190 = .ok (.aload_n 0, 1) := by decide +kernel
theorem dX12_holds_191 : decode cX12_holds 191 = .ok (.getfield 98, 3) := by decide +kernel
theorem dX12_holds_194 : decode cX12_holds 194 = .ok (.iconst 5, 1) := by decide +kernel
theorem dX12_holds_195 : decode cX12_holds 195 = .ok (.iaload, 1) := by decide +kernel
theorem dX12_holds_196 : decode cX12_holds 196 = .ok (.aload_n 0, 1) := by decide +kernel
theorem dX12_holds_197 : decode cX12_holds 197 = .ok (.getfield 98, 3) := by decide +kernel
theorem dX12_holds_200 : decode cX12_holds 200 = .ok (.bipush 74, 2) := by decide +kernel
theorem dX12_holds_202 : decode cX12_holds 202 = .ok (.iload_n 2, 1) := by decide +kernel
theorem dX12_holds_203 : decode cX12_holds 203 = .ok (.iadd, 1) := by decide +kernel
theorem dX12_holds_204 : decode cX12_holds 204 = .ok (.iaload, 1) := by decide +kernel
theorem dX12_holds_205 : decode cX12_holds 205 = .ok (.invokestatic 243, 3) := by decide +kernel
theorem dX12_holds_208 : decode cX12_holds 208 = .ok (.ifCond .eq 7, 3) := by decide +kernel
theorem dX12_holds_211 : decode cX12_holds 211 = .ok (.iconst 1, 1) := by decide +kernel
theorem dX12_holds_212 : decode cX12_holds 212 = .ok (.goto 4, 3) := by decide +kernel
theorem dX12_holds_215 : decode cX12_holds 215 = .ok (.iconst 0, 1) := by decide +kernel
theorem dX12_holds_216 : decode cX12_holds 216 = .ok (.ireturn, 1) := by decide +kernel
theorem dX12_holds_217 : decode cX12_holds 217 = .ok (.aload_n 0, 1) := by decide +kernel
theorem dX12_holds_218 : decode cX12_holds 218 = .ok (.iload_n 2, 1) := by decide +kernel
theorem dX12_holds_219 : decode cX12_holds 219 = .ok (.invokevirtual 277, 3) := by decide +kernel
theorem dX12_holds_222 : decode cX12_holds 222 = .ok (.ireturn, 1) := by decide +kernel
theorem dX12_holds_223 : decode cX12_holds 223 = .ok (.aload_n 0, 1) := by decide +kernel
theorem dX12_holds_224 : decode cX12_holds 224 = .ok (.iload_n 2, 1) := by decide +kernel
theorem dX12_holds_225 : decode cX12_holds 225 = .ok (.invokevirtual 240, 3) := by decide +kernel
theorem dX12_holds_228 : decode cX12_holds 228 = .ok (.ifCond .ne 21, 3) := by decide +kernel
theorem dX12_holds_231 : decode cX12_holds 231 = .ok (.aload_n 0, 1) := by decide +kernel
theorem dX12_holds_232 : decode cX12_holds 232 = .ok (.getfield 98, 3) := by decide +kernel
theorem dX12_holds_235 : decode cX12_holds 235 = .ok (.bipush 74, 2) := by decide +kernel
theorem dX12_holds_237 : decode cX12_holds 237 = .ok (.iload_n 2, 1) := by decide +kernel
theorem dX12_holds_238 : decode cX12_holds 238 = .ok (.iadd, 1) := by decide +kernel
theorem dX12_holds_239 : decode cX12_holds 239 = .ok (.iaload, 1) := by decide +kernel
theorem dX12_holds_240 : decode cX12_holds 240 = .ok (.iload 4, 2) := by decide +kernel
theorem dX12_holds_242 : decode cX12_holds 242 = .ok (.if_icmp .ne 7, 3) := by decide +kernel
theorem dX12_holds_245 : decode cX12_holds 245 = .ok (.iconst 1, 1) := by decide +kernel
theorem dX12_holds_246 : decode cX12_holds 246 = .ok (.goto 4, 3) := by decide +kernel
theorem dX12_holds_249 : decode cX12_holds 249 = .ok (.iconst 0, 1) := by decide +kernel
theorem dX12_holds_250 : decode cX12_holds 250 = .ok (.ireturn, 1) := by decide +kernel
theorem dX12_holds_251 : decode cX12_holds 251 = .ok (.aload_n 0, 1) := by decide +kernel
theorem dX12_holds_252 : decode cX12_holds 252 = .ok (.getfield 98, 3) := by decide +kernel
theorem dX12_holds_255 : decode cX12_holds 255 = .ok (.bipush 94, 2) := by decide +kernel
theorem dX12_holds_257 : decode cX12_holds 257 = .ok (.iload_n 2, 1) := by decide +kernel
theorem dX12_holds_258 : decode cX12_holds 258 = .ok (.iadd, 1) := by decide +kernel
theorem dX12_holds_259 : decode cX12_holds 259 = .ok (.iaload, 1) := by decide +kernel
theorem dX12_holds_260 : decode cX12_holds 260 = .ok (.iload 4, 2) := by decide +kernel
theorem dX12_holds_262 : decode cX12_holds 262 = .ok (.invokestatic 243, 3) := by decide +kernel
theorem dX12_holds_265 : decode cX12_holds 265 = .ok (.ireturn, 1) := by decide +kernel
theorem dX12_holds_266 : decode cX12_holds 266 = .ok (.aload_n 0, 1) := by decide +kernel
theorem dX12_holds_267 : decode cX12_holds 267 = .ok (.getfield 98, 3) := by decide +kernel
theorem dX12_holds_270 : decode cX12_holds 270 = .ok (.iload_n 3, 1) := by decide +kernel
theorem dX12_holds_271 : decode cX12_holds 271 = .ok (.iaload, 1) := by decide +kernel
theorem dX12_holds_272 : decode cX12_holds 272 = .ok (.bipush 50, 2) := by decide +kernel
theorem dX12_holds_274 : decode cX12_holds 274 = .ok (.isub, 1) := by decide +kernel
theorem dX12_holds_275 : decode cX12_holds 275 = .ok (.istore 6, 2) := by decide +kernel
theorem dX12_holds_277 : decode cX12_holds 277 = .ok (.iload 6, 2) := by decide +kernel
theorem dX12_holds_279 : decode cX12_holds 279 = .ok (.bipush 25, 2) := by decide +kernel
theorem dX12_holds_281 : decode cX12_holds 281 = .ok (.if_icmp .ne 15, 3) := by decide +kernel
theorem dX12_holds_284 : decode cX12_holds 284 = .ok (.aload_n 0, 1) := by decide +kernel
theorem dX12_holds_285 : decode cX12_holds 285 = .ok (.getfield 98, 3) := by decide +kernel
theorem dX12_holds_288 : decode cX12_holds 288 = .ok (.bipush 84, 2) := by decide +kernel
theorem dX12_holds_290 : decode cX12_holds 290 = .ok (.iload_n 2, 1) := by decide +kernel
theorem dX12_holds_291 : decode cX12_holds 291 = .ok (.iadd, 1) := by decide +kernel
theorem dX12_holds_292 : decode cX12_holds 292 = .ok (.iaload, 1) := by decide +kernel
theorem dX12_holds_293 : decode cX12_holds 293 = .ok (.goto 42, 3) := by decide +kernel
theorem dX12_holds_296 : decode cX12_holds 296 = .ok (.iload 6, 2) := by decide +kernel
theorem dX12_holds_298 : decode cX12_holds 298 = .ok (.bipush 26, 2) := by decide +kernel
theorem dX12_holds_300 : decode cX12_holds 300 = .ok (.if_icmp .ne 15, 3) := by decide +kernel
theorem dX12_holds_303 : decode cX12_holds 303 = .ok (.aload_n 0, 1) := by decide +kernel
theorem dX12_holds_304 : decode cX12_holds 304 = .ok (.getfield 98, 3) := by decide +kernel
theorem dX12_holds_307 : decode cX12_holds 307 = .ok (.bipush 89, 2) := by decide +kernel
theorem dX12_holds_309 : decode cX12_holds 309 = .ok (.iload_n 2, 1) := by decide +kernel
theorem dX12_holds_310 : decode cX12_holds 310 = .ok (.iadd, 1) := by decide +kernel
theorem dX12_holds_311 : decode cX12_holds 311 = .ok (.iaload, 1) := by decide +kernel
theorem dX12_holds_312 : decode cX12_holds 312 = .ok (.goto 23, 3) := by decide +kernel
theorem dX12_holds_315 : decode cX12_holds 315 = .ok (.iload 6, 2) := by decide +kernel
theorem dX12_holds_317 : decode cX12_holds 317 = .ok (.bipush 27, 2) := by decide +kernel
theorem dX12_holds_319 : decode cX12_holds 319 = .ok (.if_icmp .ne 15, 3) := by decide +kernel
theorem dX12_holds_322 : decode cX12_holds 322 = .ok (.aload_n 0, 1) := by decide +kernel
theorem dX12_holds_323 : decode cX12_holds 323 = .ok (.getfield 98, 3) := by decide +kernel
theorem dX12_holds_326 : decode cX12_holds 326 = .ok (.bipush 65, 2) := by decide +kernel
theorem dX12_holds_328 : decode cX12_holds 328 = .ok (.iload_n 2, 1) := by decide +kernel
theorem dX12_holds_329 : decode cX12_holds 329 = .ok (.iadd, 1) := by decide +kernel
theorem dX12_holds_330 : decode cX12_holds 330 = .ok (.iaload, 1) := by decide +kernel
theorem dX12_holds_331 : decode cX12_holds 331 = .ok (.goto 4, 3) := by decide +kernel
theorem dX12_holds_334 : decode cX12_holds 334 = .ok (.iload_n 2, 1) := by decide +kernel
theorem dX12_holds_335 : decode cX12_holds 335 = .ok (.istore 7, 2) := by decide +kernel
theorem dX12_holds_337 : decode cX12_holds 337 = .ok (.aload_n 0, 1) := by decide +kernel
theorem dX12_holds_338 : decode cX12_holds 338 = .ok (.getfield 98, 3) := by decide +kernel
theorem dX12_holds_341 : decode cX12_holds 341 = .ok (.iload_n 3, 1) := by decide +kernel
theorem dX12_holds_342 : decode cX12_holds 342 = .ok (.iconst 3, 1) := by decide +kernel
theorem dX12_holds_343 : decode cX12_holds 343 = .ok (.iadd, 1) := by decide +kernel
theorem dX12_holds_344 : decode cX12_holds 344 = .ok (.iaload, 1) := by decide +kernel
theorem dX12_holds_345 : decode cX12_holds 345 = .ok (.bipush 60, 2) := by decide +kernel
theorem dX12_holds_347 : decode cX12_holds 347 = .ok (.if_icmp .ne 18, 3) := by decide +kernel
theorem dX12_holds_350 : decode cX12_holds 350 = .ok (.iload 7, 2) := by decide +kernel
theorem dX12_holds_352 : decode cX12_holds 352 = .ok (.iload 5, 2) := by decide +kernel
theorem dX12_holds_354 : decode cX12_holds 354 = .ok (.if_icmp .ge 7, 3) := by decide +kernel
theorem dX12_holds_357 : decode cX12_holds 357 = .ok (.iconst 1, 1) := by decide +kernel
theorem dX12_holds_358 : decode cX12_holds 358 = .ok (.goto 47, 3) := by decide +kernel
theorem dX12_holds_361 : decode cX12_holds 361 = .ok (.iconst 0, 1) := by decide +kernel
theorem dX12_holds_362 : decode cX12_holds 362 = .ok (.goto 43, 3) := by decide +kernel
theorem dX12_holds_365 : decode cX12_holds 365 = .ok (.aload_n 0, 1) := by decide +kernel
theorem dX12_holds_366 : decode cX12_holds 366 = .ok (.getfield 98, 3) := by decide +kernel
theorem dX12_holds_369 : decode cX12_holds 369 = .ok (.iload_n 3, 1) := by decide +kernel
theorem dX12_holds_370 : decode cX12_holds 370 = .ok (.iconst 3, 1) := by decide +kernel
theorem dX12_holds_371 : decode cX12_holds 371 = .ok (.iadd, 1) := by decide +kernel
theorem dX12_holds_372 : decode cX12_holds 372 = .ok (.iaload, 1) := by decide +kernel
theorem dX12_holds_373 : decode cX12_holds 373 = .ok (.bipush 61, 2) := by decide +kernel
theorem dX12_holds_375 : decode cX12_holds 375 = .ok (.if_icmp .ne 18, 3) := by decide +kernel
theorem dX12_holds_378 : decode cX12_holds 378 = .ok (.iload 7, 2) := by decide +kernel
theorem dX12_holds_380 : decode cX12_holds 380 = .ok (.iload 5, 2) := by decide +kernel
theorem dX12_holds_382 : decode cX12_holds 382 = .ok (.if_icmp .ne 7, 3) := by decide +kernel
theorem dX12_holds_385 : decode cX12_holds 385 = .ok (.iconst 1, 1) := by decide +kernel
theorem dX12_holds_386 : decode cX12_holds 386 = .ok (.goto 19, 3) := by decide +kernel
theorem dX12_holds_389 : decode cX12_holds 389 = .ok (.iconst 0, 1) := by decide +kernel
theorem dX12_holds_390 : decode cX12_holds 390 = .ok (.goto 15, 3) := by decide +kernel
theorem dX12_holds_393 : decode cX12_holds 393 = .ok (.iload 7, 2) := by decide +kernel
theorem dX12_holds_395 : decode cX12_holds 395 = .ok (.iload 5, 2) := by decide +kernel
theorem dX12_holds_397 : decode cX12_holds 397 = .ok (.if_icmp .le 7, 3) := by decide +kernel
theorem dX12_holds_400 : decode cX12_holds 400 = .ok (.iconst 1, 1) := by decide +kernel
theorem dX12_holds_401 : decode cX12_holds 401 = .ok (.goto 4, 3) := by decide +kernel
theorem dX12_holds_404 : decode cX12_holds 404 = .ok (.iconst 0, 1) := by decide +kernel
theorem dX12_holds_405 : decode cX12_holds 405 = .ok (.ireturn, 1) := by decide +kernel
def f_X12_holds_335 (rc : XM → Int32 → Int32 → Option (Int32 × XM)) (w0 : XM) (l3 : Int32) (l5 : Int32) (s0 : Int32) : Option (Int32 × XM) :=
  x_ck (l3 + (3 : Int32)) 353 (
  if ((x_ga w0 2 (l3 + (3 : Int32))) : Int32) = (60 : Int32) then
  (if (l5 : Int32) ≤ s0 then
  (some ((0 : Int32), w0))
  else (some ((1 : Int32), w0)))
  else (x_ck (l3 + (3 : Int32)) 353 (
  if ((x_ga w0 2 (l3 + (3 : Int32))) : Int32) = (61 : Int32) then
  (if (s0 : Int32) = l5 then
  (some ((1 : Int32), w0))
  else (some ((0 : Int32), w0)))
  else (if (s0 : Int32) ≤ l5 then
  (some ((0 : Int32), w0))
  else (some ((1 : Int32), w0))))))
def f_X12_holds (rc : XM → Int32 → Int32 → Option (Int32 × XM)) (v0 : XM) (x0 : Int32) (x1 : Int32) : Option (Int32 × XM) :=
  x_lt ((113 : Int32) + ((4 : Int32) * x0)) (fun y1 =>
  x_ck (y1 + (1 : Int32)) 353 (
  x_lt (x_ga v0 2 (y1 + (1 : Int32))) (fun y2 =>
  x_ck (y1 + (2 : Int32)) 353 (
  x_lt (x_ga v0 2 (y1 + (2 : Int32))) (fun y3 =>
  x_ck y1 353 (
  if (x_ga v0 2 y1) = (1 : Int32) then
  (x_bo (rc v0 y2 x1) (fun y5 =>
  if y5.1 = (0 : Int32) then
  (some ((1 : Int32), y5.2))
  else (some ((0 : Int32), y5.2))))
  else (if (x_ga v0 2 y1) = (2 : Int32) then
  (x_bo (rc v0 y2 x1) (fun y6 =>
  if y6.1 = (0 : Int32) then
  (some ((0 : Int32), y6.2))
  else (x_bo (rc y6.2 y3 x1) (fun y7 =>
  if y7.1 = (0 : Int32) then
  (some ((0 : Int32), y7.2))
  else (some ((1 : Int32), y7.2))))))
  else (if (x_ga v0 2 y1) = (3 : Int32) then
  (x_bo (rc v0 y2 x1) (fun y8 =>
  if y8.1 = (0 : Int32) then
  (x_bo (rc y8.2 y3 x1) (fun y9 =>
  if y9.1 = (0 : Int32) then
  (some ((0 : Int32), y9.2))
  else (some ((1 : Int32), y9.2))))
  else (some ((1 : Int32), y8.2))))
  else (if (x_ga v0 2 y1) = (70 : Int32) then
  (x_bo (f_X12_isGoing v0 x1) (fun y10 =>
  some (y10, v0)))
  else (if (x_ga v0 2 y1) = (71 : Int32) then
  (x_bo (f_X12_isGoing v0 x1) (fun y11 =>
  if y11 = (0 : Int32) then
  (x_ck ((74 : Int32) + x1) 353 (
  x_lt (f_X12_has (x_ga v0 2 (5 : Int32)) (x_ga v0 2 ((74 : Int32) + x1))) (fun y12 =>
  if y12 = (0 : Int32) then
  (some ((0 : Int32), v0))
  else (some ((1 : Int32), v0)))))
  else (some ((0 : Int32), v0))))
  else (if (x_ga v0 2 y1) = (72 : Int32) then
  (x_bo (f_X12_isLost v0 x1) (fun y13 =>
  some (y13.1, y13.2)))
  else (if (x_ga v0 2 y1) = (73 : Int32) then
  (x_bo (f_X12_isGoing v0 x1) (fun y14 =>
  if y14 = (0 : Int32) then
  (x_ck ((74 : Int32) + x1) 353 (
  if ((x_ga v0 2 ((74 : Int32) + x1)) : Int32) = y2 then
  (some ((1 : Int32), v0))
  else (some ((0 : Int32), v0))))
  else (some ((0 : Int32), v0))))
  else (if (x_ga v0 2 y1) = (74 : Int32) then
  (x_ck ((94 : Int32) + x1) 353 (
  x_lt (f_X12_has (x_ga v0 2 ((94 : Int32) + x1)) y2) (fun y15 =>
  some (y15, v0))))
  else (x_ck y1 353 (
  x_lt ((x_ga v0 2 y1) - (50 : Int32)) (fun y16 =>
  if (y16 : Int32) = (25 : Int32) then
  (x_ck ((84 : Int32) + x1) 353 (
  f_X12_holds_335 rc  v0 y1 y3 (x_ga v0 2 ((84 : Int32) + x1))))
  else (if (y16 : Int32) = (26 : Int32) then
  (x_ck ((89 : Int32) + x1) 353 (
  f_X12_holds_335 rc  v0 y1 y3 (x_ga v0 2 ((89 : Int32) + x1))))
  else (if (y16 : Int32) = (27 : Int32) then
  (x_ck ((65 : Int32) + x1) 353 (
  f_X12_holds_335 rc  v0 y1 y3 (x_ga v0 2 ((65 : Int32) + x1))))
  else (f_X12_holds_335 rc  v0 y1 y3 x1)))))))))))))))))))
set_option maxRecDepth 100000 in
set_option maxHeartbeats 4000000 in
theorem w_X12_holds_335 {p : Program} {l : Launch} {e : Env} {s : State} {m : MethodId} {args : Array Value} {below : List Frame} {meth : Method} {c : Code} {D : va_G} {tc : Nat → ClassId} {aK aV : Nat → Nat} {A : Nat → Prop} {ad0 : Nat → Nat} {dd : Nat} {rc : XM → Int32 → Int32 → Option (Int32 × XM)} (X : Cx p s m args meth c cX12_holds 8 (some .boolean) RX12 D tc aK aV A [(shModel, ad0)]) (hr_X12_holds : ∀ {ad0 : Nat → Nat} {v0 : XM} {x0 : Int32} {x1 : Int32} {o : Int32 × XM}, rc v0 x0 x1 = some o → CT l yX12_holds cX12_holds 8 (some .boolean) (8 + dd) [(shModel, ad0)] [v0] (fun aK => [.ref (ad0 0), .int x0, .int x1]) (some (.int o.1)) (x_Z o.1) [o.2])  {o : Int32 × XM}  {w0 : XM} {l3 : Int32} {l5 : Int32} {s0 : Int32}  (h : f_X12_holds_335 rc  w0 l3 l5 s0 = some o) : aW p l e (x_Rm (8 + dd + 1)) s m args below meth c D tc A 8 [(shModel, ad0)] (some (.int o.1)) (x_Z o.1) [o.2] 335 [(0, .ref (ad0 0)), (3, .int l3), (5, .int l5)] [.int s0] [w0] := by
  unfold f_X12_holds_335 at h
  refine a_istore (pc := 335) X [(7, .int s0), (0, .ref (ad0 0)), (3, .int l3), (5, .int l5)] dX12_holds_335 (by decide) rfl ?_
  refine a_aload_n (pc := 337) X 1 dX12_holds_337 rfl rfl ?_
  refine a_getR (pc := 338) X 0 2 2 fl_RX12_98 rfl rfl rfl rfl rfl dX12_holds_338 ?_
  refine a_iload_n (pc := 341) X 2 dX12_holds_341 rfl rfl ?_
  refine a_iconst (pc := 342) X dX12_holds_342 q_ic_3 ?_
  refine a_iadd (pc := 343) X dX12_holds_343 ?_
  obtain ⟨c_344, h⟩ := x_ck_elim h
  refine a_iald (pc := 344) X 0 rfl rfl rfl c_344 dX12_holds_344 ?_
  refine a_bipush (pc := 345) X dX12_holds_345 q_bp_60 ?_
  refine a_icmp_ne (pc := 347) X 365 dX12_holds_347 rfl (fun c_347 => ?_) (fun c_347 => ?_)
  · have h := x_ifn c_347 h
    refine a_aload_n (pc := 365) X 1 dX12_holds_365 rfl rfl ?_
    refine a_getR (pc := 366) X 0 2 2 fl_RX12_98 rfl rfl rfl rfl rfl dX12_holds_366 ?_
    refine a_iload_n (pc := 369) X 2 dX12_holds_369 rfl rfl ?_
    refine a_iconst (pc := 370) X dX12_holds_370 q_ic_3 ?_
    refine a_iadd (pc := 371) X dX12_holds_371 ?_
    obtain ⟨c_372, h⟩ := x_ck_elim h
    refine a_iald (pc := 372) X 0 rfl rfl rfl c_372 dX12_holds_372 ?_
    refine a_bipush (pc := 373) X dX12_holds_373 q_bp_61 ?_
    refine a_icmp_ne (pc := 375) X 393 dX12_holds_375 rfl (fun c_375 => ?_) (fun c_375 => ?_)
    · have h := x_ifn c_375 h
      refine a_iload (pc := 393) X 0 dX12_holds_393 rfl ?_
      refine a_iload (pc := 395) X 3 dX12_holds_395 rfl ?_
      refine a_icmp_le (pc := 397) X 404 dX12_holds_397 rfl (fun c_397 => ?_) (fun c_397 => ?_)
      · have h := x_ifp c_397 h
        refine a_iconst (pc := 404) X dX12_holds_404 q_ic_0 ?_
        have h := Option.some.inj h; subst h
        exact a_zret (pc := 405) X x_Z0 x_Z0 dX12_holds_405
      · have h := x_ifn c_397 h
        refine a_iconst (pc := 400) X dX12_holds_400 q_ic_1 ?_
        refine a_goto (pc := 401) X 405 dX12_holds_401 rfl ?_
        have h := Option.some.inj h; subst h
        exact a_zret (pc := 405) X x_Z1 x_Z1 dX12_holds_405
    · have h := x_ifp c_375 h
      refine a_iload (pc := 378) X 0 dX12_holds_378 rfl ?_
      refine a_iload (pc := 380) X 3 dX12_holds_380 rfl ?_
      refine a_icmp_ne (pc := 382) X 389 dX12_holds_382 rfl (fun c_382 => ?_) (fun c_382 => ?_)
      · have h := x_ifn c_382 h
        refine a_iconst (pc := 389) X dX12_holds_389 q_ic_0 ?_
        refine a_goto (pc := 390) X 405 dX12_holds_390 rfl ?_
        have h := Option.some.inj h; subst h
        exact a_zret (pc := 405) X x_Z0 x_Z0 dX12_holds_405
      · have h := x_ifp c_382 h
        refine a_iconst (pc := 385) X dX12_holds_385 q_ic_1 ?_
        refine a_goto (pc := 386) X 405 dX12_holds_386 rfl ?_
        have h := Option.some.inj h; subst h
        exact a_zret (pc := 405) X x_Z1 x_Z1 dX12_holds_405
  · have h := x_ifp c_347 h
    refine a_iload (pc := 350) X 0 dX12_holds_350 rfl ?_
    refine a_iload (pc := 352) X 3 dX12_holds_352 rfl ?_
    refine a_icmp_ge (pc := 354) X 361 dX12_holds_354 rfl (fun c_354 => ?_) (fun c_354 => ?_)
    · have h := x_ifp c_354 h
      refine a_iconst (pc := 361) X dX12_holds_361 q_ic_0 ?_
      refine a_goto (pc := 362) X 405 dX12_holds_362 rfl ?_
      have h := Option.some.inj h; subst h
      exact a_zret (pc := 405) X x_Z0 x_Z0 dX12_holds_405
    · have h := x_ifn c_354 h
      refine a_iconst (pc := 357) X dX12_holds_357 q_ic_1 ?_
      refine a_goto (pc := 358) X 405 dX12_holds_358 rfl ?_
      have h := Option.some.inj h; subst h
      exact a_zret (pc := 405) X x_Z1 x_Z1 dX12_holds_405
set_option maxRecDepth 100000 in
set_option maxHeartbeats 4000000 in
theorem cb_X12_holds {l : Launch} {dd : Nat} {rc : XM → Int32 → Int32 → Option (Int32 × XM)} (hr_X12_holds : ∀ {ad0 : Nat → Nat} {v0 : XM} {x0 : Int32} {x1 : Int32} {o : Int32 × XM}, rc v0 x0 x1 = some o → CT l yX12_holds cX12_holds 8 (some .boolean) (8 + dd) [(shModel, ad0)] [v0] (fun aK => [.ref (ad0 0), .int x0, .int x1]) (some (.int o.1)) (x_Z o.1) [o.2]) {ad0 : Nat → Nat} {v0 : XM} {x0 : Int32} {x1 : Int32}  {o : Int32 × XM} (h : f_X12_holds rc v0 x0 x1 = some o) : CT l yX12_holds cX12_holds 8 (some .boolean) (8 + dd + 1) [(shModel, ad0)] [v0] (fun aK => [.ref (ad0 0), .int x0, .int x1]) (some (.int o.1)) (x_Z o.1) [o.2] := by
  refine CT_of (by decide) (fun _ => Nat.le_of_ble_eq_true rfl) ?_
  intro p e s m args below meth c D tc aK aV A X
  have X : Cx p s m args meth c cX12_holds 8 (some .boolean) RX12 D tc aK aV A [(shModel, ad0)] := X
  show aW p l e (x_Rm (8 + dd + 1)) s m args below meth c D tc A 8 [(shModel, ad0)] (some (.int o.1)) (x_Z o.1) [o.2] 0 [(0, .ref (ad0 0)), (1, .int x0), (2, .int x1)] [] [v0]
  unfold f_X12_holds at h
  refine a_bipush (pc := 0) X dX12_holds_0 q_bp_113 ?_
  refine a_iconst (pc := 2) X dX12_holds_2 q_ic_4 ?_
  refine a_iload_n (pc := 3) X 1 dX12_holds_3 rfl rfl ?_
  refine a_imul (pc := 4) X dX12_holds_4 ?_
  refine a_iadd (pc := 5) X dX12_holds_5 ?_
  obtain ⟨y1, e_y1, h⟩ := x_lt_elim h
  refine a_ni e_y1 ?_
  refine a_istore_n (pc := 6) X [(3, .int y1), (0, .ref (ad0 0)), (1, .int x0), (2, .int x1)] dX12_holds_6 rfl (by decide) rfl ?_
  refine a_aload_n (pc := 7) X 1 dX12_holds_7 rfl rfl ?_
  refine a_getR (pc := 8) X 0 2 2 fl_RX12_98 rfl rfl rfl rfl rfl dX12_holds_8 ?_
  refine a_iload_n (pc := 11) X 0 dX12_holds_11 rfl rfl ?_
  refine a_iconst (pc := 12) X dX12_holds_12 q_ic_1 ?_
  refine a_iadd (pc := 13) X dX12_holds_13 ?_
  obtain ⟨c_14, h⟩ := x_ck_elim h
  refine a_iald (pc := 14) X 0 rfl rfl rfl c_14 dX12_holds_14 ?_
  obtain ⟨y2, e_y2, h⟩ := x_lt_elim h
  refine a_ni e_y2 ?_
  refine a_istore (pc := 15) X [(4, .int y2), (3, .int y1), (0, .ref (ad0 0)), (1, .int x0), (2, .int x1)] dX12_holds_15 (by decide) rfl ?_
  refine a_aload_n (pc := 17) X 2 dX12_holds_17 rfl rfl ?_
  refine a_getR (pc := 18) X 0 2 2 fl_RX12_98 rfl rfl rfl rfl rfl dX12_holds_18 ?_
  refine a_iload_n (pc := 21) X 1 dX12_holds_21 rfl rfl ?_
  refine a_iconst (pc := 22) X dX12_holds_22 q_ic_2 ?_
  refine a_iadd (pc := 23) X dX12_holds_23 ?_
  obtain ⟨c_24, h⟩ := x_ck_elim h
  refine a_iald (pc := 24) X 0 rfl rfl rfl c_24 dX12_holds_24 ?_
  obtain ⟨y3, e_y3, h⟩ := x_lt_elim h
  refine a_ni e_y3 ?_
  refine a_istore (pc := 25) X [(5, .int y3), (4, .int y2), (3, .int y1), (0, .ref (ad0 0)), (1, .int x0), (2, .int x1)] dX12_holds_25 (by decide) rfl ?_
  refine a_aload_n (pc := 27) X 3 dX12_holds_27 rfl rfl ?_
  refine a_getR (pc := 28) X 0 2 2 fl_RX12_98 rfl rfl rfl rfl rfl dX12_holds_28 ?_
  refine a_iload_n (pc := 31) X 2 dX12_holds_31 rfl rfl ?_
  obtain ⟨c_32, h⟩ := x_ck_elim h
  refine a_iald (pc := 32) X 0 rfl rfl rfl c_32 dX12_holds_32 ?_
  by_cases c_33_1 : (x_ga v0 2 y1) = (1 : Int32)
  · have h := x_ifp c_33_1 h
    refine a_lookup (pc := 33) (off := 75) X 108 dX12_holds_33 (by decide) (by rw [c_33_1]; decide) rfl ?_
    refine a_aload_n (pc := 108) X 3 dX12_holds_108 rfl rfl ?_
    refine a_iload (pc := 109) X 1 dX12_holds_109 rfl ?_
    refine a_iload_n (pc := 111) X 5 dX12_holds_111 rfl rfl ?_
    obtain ⟨y5, e_y5, h⟩ := x_bo_elim h
    refine a_callV (pc := 112) (st2 := [.int y5.1]) (vs2 := [y5.2]) X [(0, 0, 20)] [some y5.2] 0 0 12 [.int y2, .int x1] [] cv_RX12_463 (hr_X12_holds (ad0 := ad0)  e_y5) rfl rfl rfl rfl rfl rfl rfl rfl rfl rfl rfl rfl rfl rfl rfl (Nat.le_of_ble_eq_true rfl) (by constructor <;> simp only [x_Rm] <;> omega) dX12_holds_112 (fun z_112 => ?_)
    refine a_if_ne (pc := 115) X 122 dX12_holds_115 rfl (fun c_115 => ?_) (fun c_115 => ?_)
    · have h := x_ifn c_115 h
      refine a_iconst (pc := 122) X dX12_holds_122 q_ic_0 ?_
      have h := Option.some.inj h; subst h
      exact a_zret (pc := 123) X x_Z0 x_Z0 dX12_holds_123
    · have h := x_ifp c_115 h
      refine a_iconst (pc := 118) X dX12_holds_118 q_ic_1 ?_
      refine a_goto (pc := 119) X 123 dX12_holds_119 rfl ?_
      have h := Option.some.inj h; subst h
      exact a_zret (pc := 123) X x_Z1 x_Z1 dX12_holds_123
  · have h := x_ifn c_33_1 h
    by_cases c_33_2 : (x_ga v0 2 y1) = (2 : Int32)
    · have h := x_ifp c_33_2 h
      refine a_lookup (pc := 33) (off := 91) X 124 dX12_holds_33 (by decide) (by rw [c_33_2]; decide) rfl ?_
      refine a_aload_n (pc := 124) X 3 dX12_holds_124 rfl rfl ?_
      refine a_iload (pc := 125) X 1 dX12_holds_125 rfl ?_
      refine a_iload_n (pc := 127) X 5 dX12_holds_127 rfl rfl ?_
      obtain ⟨y6, e_y6, h⟩ := x_bo_elim h
      refine a_callV (pc := 128) (st2 := [.int y6.1]) (vs2 := [y6.2]) X [(0, 0, 20)] [some y6.2] 0 0 12 [.int y2, .int x1] [] cv_RX12_463 (hr_X12_holds (ad0 := ad0)  e_y6) rfl rfl rfl rfl rfl rfl rfl rfl rfl rfl rfl rfl rfl rfl rfl (Nat.le_of_ble_eq_true rfl) (by constructor <;> simp only [x_Rm] <;> omega) dX12_holds_128 (fun z_128 => ?_)
      refine a_if_eq (pc := 131) X 148 dX12_holds_131 rfl (fun c_131 => ?_) (fun c_131 => ?_)
      · have h := x_ifp c_131 h
        refine a_iconst (pc := 148) X dX12_holds_148 q_ic_0 ?_
        have h := Option.some.inj h; subst h
        exact a_zret (pc := 149) X x_Z0 x_Z0 dX12_holds_149
      · have h := x_ifn c_131 h
        refine a_aload_n (pc := 134) X 3 dX12_holds_134 rfl rfl ?_
        refine a_iload (pc := 135) X 0 dX12_holds_135 rfl ?_
        refine a_iload_n (pc := 137) X 5 dX12_holds_137 rfl rfl ?_
        obtain ⟨y7, e_y7, h⟩ := x_bo_elim h
        refine a_callV (pc := 138) (st2 := [.int y7.1]) (vs2 := [y7.2]) X [(0, 0, 20)] [some y7.2] 0 0 12 [.int y3, .int x1] [] cv_RX12_463 (hr_X12_holds (ad0 := ad0)  e_y7) rfl rfl rfl rfl rfl rfl rfl rfl rfl rfl rfl rfl rfl rfl rfl (Nat.le_of_ble_eq_true rfl) (by constructor <;> simp only [x_Rm] <;> omega) dX12_holds_138 (fun z_138 => ?_)
        refine a_if_eq (pc := 141) X 148 dX12_holds_141 rfl (fun c_141 => ?_) (fun c_141 => ?_)
        · have h := x_ifp c_141 h
          refine a_iconst (pc := 148) X dX12_holds_148 q_ic_0 ?_
          have h := Option.some.inj h; subst h
          exact a_zret (pc := 149) X x_Z0 x_Z0 dX12_holds_149
        · have h := x_ifn c_141 h
          refine a_iconst (pc := 144) X dX12_holds_144 q_ic_1 ?_
          refine a_goto (pc := 145) X 149 dX12_holds_145 rfl ?_
          have h := Option.some.inj h; subst h
          exact a_zret (pc := 149) X x_Z1 x_Z1 dX12_holds_149
    · have h := x_ifn c_33_2 h
      by_cases c_33_3 : (x_ga v0 2 y1) = (3 : Int32)
      · have h := x_ifp c_33_3 h
        refine a_lookup (pc := 33) (off := 117) X 150 dX12_holds_33 (by decide) (by rw [c_33_3]; decide) rfl ?_
        refine a_aload_n (pc := 150) X 3 dX12_holds_150 rfl rfl ?_
        refine a_iload (pc := 151) X 1 dX12_holds_151 rfl ?_
        refine a_iload_n (pc := 153) X 5 dX12_holds_153 rfl rfl ?_
        obtain ⟨y8, e_y8, h⟩ := x_bo_elim h
        refine a_callV (pc := 154) (st2 := [.int y8.1]) (vs2 := [y8.2]) X [(0, 0, 20)] [some y8.2] 0 0 12 [.int y2, .int x1] [] cv_RX12_463 (hr_X12_holds (ad0 := ad0)  e_y8) rfl rfl rfl rfl rfl rfl rfl rfl rfl rfl rfl rfl rfl rfl rfl (Nat.le_of_ble_eq_true rfl) (by constructor <;> simp only [x_Rm] <;> omega) dX12_holds_154 (fun z_154 => ?_)
        refine a_if_ne (pc := 157) X 170 dX12_holds_157 rfl (fun c_157 => ?_) (fun c_157 => ?_)
        · have h := x_ifn c_157 h
          refine a_iconst (pc := 170) X dX12_holds_170 q_ic_1 ?_
          refine a_goto (pc := 171) X 175 dX12_holds_171 rfl ?_
          have h := Option.some.inj h; subst h
          exact a_zret (pc := 175) X x_Z1 x_Z1 dX12_holds_175
        · have h := x_ifp c_157 h
          refine a_aload_n (pc := 160) X 3 dX12_holds_160 rfl rfl ?_
          refine a_iload (pc := 161) X 0 dX12_holds_161 rfl ?_
          refine a_iload_n (pc := 163) X 5 dX12_holds_163 rfl rfl ?_
          obtain ⟨y9, e_y9, h⟩ := x_bo_elim h
          refine a_callV (pc := 164) (st2 := [.int y9.1]) (vs2 := [y9.2]) X [(0, 0, 20)] [some y9.2] 0 0 12 [.int y3, .int x1] [] cv_RX12_463 (hr_X12_holds (ad0 := ad0)  e_y9) rfl rfl rfl rfl rfl rfl rfl rfl rfl rfl rfl rfl rfl rfl rfl (Nat.le_of_ble_eq_true rfl) (by constructor <;> simp only [x_Rm] <;> omega) dX12_holds_164 (fun z_164 => ?_)
          refine a_if_eq (pc := 167) X 174 dX12_holds_167 rfl (fun c_167 => ?_) (fun c_167 => ?_)
          · have h := x_ifp c_167 h
            refine a_iconst (pc := 174) X dX12_holds_174 q_ic_0 ?_
            have h := Option.some.inj h; subst h
            exact a_zret (pc := 175) X x_Z0 x_Z0 dX12_holds_175
          · have h := x_ifn c_167 h
            refine a_iconst (pc := 170) X dX12_holds_170 q_ic_1 ?_
            refine a_goto (pc := 171) X 175 dX12_holds_171 rfl ?_
            have h := Option.some.inj h; subst h
            exact a_zret (pc := 175) X x_Z1 x_Z1 dX12_holds_175
      · have h := x_ifn c_33_3 h
        by_cases c_33_70 : (x_ga v0 2 y1) = (70 : Int32)
        · have h := x_ifp c_33_70 h
          refine a_lookup (pc := 33) (off := 143) X 176 dX12_holds_33 (by decide) (by rw [c_33_70]; decide) rfl ?_
          refine a_aload_n (pc := 176) X 3 dX12_holds_176 rfl rfl ?_
          refine a_iload_n (pc := 177) X 5 dX12_holds_177 rfl rfl ?_
          obtain ⟨y10, e_y10, h⟩ := x_bo_elim h
          refine a_callV (pc := 178) (st2 := [.int y10]) (vs2 := [v0]) X [(0, 0, 20)] [none] 0 0 12 [.int x1] [] cv_RX12_240 (c_X12_isGoing (ad0 := ad0)  e_y10) rfl rfl rfl rfl rfl rfl rfl rfl rfl rfl rfl rfl rfl rfl rfl (Nat.le_of_ble_eq_true rfl) (by constructor <;> simp only [x_Rm] <;> omega) dX12_holds_178 (fun z_178 => ?_)
          have h := Option.some.inj h; subst h
          exact a_zret (pc := 181) X z_178 z_178 dX12_holds_181
        · have h := x_ifn c_33_70 h
          by_cases c_33_71 : (x_ga v0 2 y1) = (71 : Int32)
          · have h := x_ifp c_33_71 h
            refine a_lookup (pc := 33) (off := 149) X 182 dX12_holds_33 (by decide) (by rw [c_33_71]; decide) rfl ?_
            refine a_aload_n (pc := 182) X 3 dX12_holds_182 rfl rfl ?_
            refine a_iload_n (pc := 183) X 5 dX12_holds_183 rfl rfl ?_
            obtain ⟨y11, e_y11, h⟩ := x_bo_elim h
            refine a_callV (pc := 184) (st2 := [.int y11]) (vs2 := [v0]) X [(0, 0, 20)] [none] 0 0 12 [.int x1] [] cv_RX12_240 (c_X12_isGoing (ad0 := ad0)  e_y11) rfl rfl rfl rfl rfl rfl rfl rfl rfl rfl rfl rfl rfl rfl rfl (Nat.le_of_ble_eq_true rfl) (by constructor <;> simp only [x_Rm] <;> omega) dX12_holds_184 (fun z_184 => ?_)
            refine a_if_ne (pc := 187) X 215 dX12_holds_187 rfl (fun c_187 => ?_) (fun c_187 => ?_)
            · have h := x_ifn c_187 h
              refine a_iconst (pc := 215) X dX12_holds_215 q_ic_0 ?_
              have h := Option.some.inj h; subst h
              exact a_zret (pc := 216) X x_Z0 x_Z0 dX12_holds_216
            · have h := x_ifp c_187 h
              refine a_aload_n (pc := 190) X 3 dX12_holds_190 rfl rfl ?_
              refine a_getR (pc := 191) X 0 2 2 fl_RX12_98 rfl rfl rfl rfl rfl dX12_holds_191 ?_
              refine a_iconst (pc := 194) X dX12_holds_194 q_ic_5 ?_
              refine a_iald (pc := 195) X 0 rfl rfl rfl (x_inl (by decide)) dX12_holds_195 ?_
              refine a_aload_n (pc := 196) X 3 dX12_holds_196 rfl rfl ?_
              refine a_getR (pc := 197) X 0 2 2 fl_RX12_98 rfl rfl rfl rfl rfl dX12_holds_197 ?_
              refine a_bipush (pc := 200) X dX12_holds_200 q_bp_74 ?_
              refine a_iload_n (pc := 202) X 5 dX12_holds_202 rfl rfl ?_
              refine a_iadd (pc := 203) X dX12_holds_203 ?_
              obtain ⟨c_204, h⟩ := x_ck_elim h
              refine a_iald (pc := 204) X 0 rfl rfl rfl c_204 dX12_holds_204 ?_
              obtain ⟨y12, e_y12, h⟩ := x_lt_elim h
              refine a_callS (pc := 205) (st2 := [.int y12]) (vs2 := [v0]) X [] [] [.int (x_ga v0 2 (5 : Int32)), .int (x_ga v0 2 ((74 : Int32) + x1))] [] cv_RX12_243 (c_X12_has   e_y12) rfl rfl rfl rfl rfl rfl rfl rfl rfl rfl rfl (Nat.le_of_ble_eq_true rfl) (by constructor <;> simp only [x_Rm] <;> omega) dX12_holds_205 (fun z_205 => ?_)
              refine a_if_eq (pc := 208) X 215 dX12_holds_208 rfl (fun c_208 => ?_) (fun c_208 => ?_)
              · have h := x_ifp c_208 h
                refine a_iconst (pc := 215) X dX12_holds_215 q_ic_0 ?_
                have h := Option.some.inj h; subst h
                exact a_zret (pc := 216) X x_Z0 x_Z0 dX12_holds_216
              · have h := x_ifn c_208 h
                refine a_iconst (pc := 211) X dX12_holds_211 q_ic_1 ?_
                refine a_goto (pc := 212) X 216 dX12_holds_212 rfl ?_
                have h := Option.some.inj h; subst h
                exact a_zret (pc := 216) X x_Z1 x_Z1 dX12_holds_216
          · have h := x_ifn c_33_71 h
            by_cases c_33_72 : (x_ga v0 2 y1) = (72 : Int32)
            · have h := x_ifp c_33_72 h
              refine a_lookup (pc := 33) (off := 184) X 217 dX12_holds_33 (by decide) (by rw [c_33_72]; decide) rfl ?_
              refine a_aload_n (pc := 217) X 3 dX12_holds_217 rfl rfl ?_
              refine a_iload_n (pc := 218) X 5 dX12_holds_218 rfl rfl ?_
              obtain ⟨y13, e_y13, h⟩ := x_bo_elim h
              refine a_callV (pc := 219) (st2 := [.int y13.1]) (vs2 := [y13.2]) X [(0, 0, 20)] [some y13.2] 0 0 12 [.int x1] [] cv_RX12_277 (c_X12_isLost (ad0 := ad0)  e_y13) rfl rfl rfl rfl rfl rfl rfl rfl rfl rfl rfl rfl rfl rfl rfl (Nat.le_of_ble_eq_true rfl) (by constructor <;> simp only [x_Rm] <;> omega) dX12_holds_219 (fun z_219 => ?_)
              have h := Option.some.inj h; subst h
              exact a_zret (pc := 222) X z_219 z_219 dX12_holds_222
            · have h := x_ifn c_33_72 h
              by_cases c_33_73 : (x_ga v0 2 y1) = (73 : Int32)
              · have h := x_ifp c_33_73 h
                refine a_lookup (pc := 33) (off := 190) X 223 dX12_holds_33 (by decide) (by rw [c_33_73]; decide) rfl ?_
                refine a_aload_n (pc := 223) X 3 dX12_holds_223 rfl rfl ?_
                refine a_iload_n (pc := 224) X 5 dX12_holds_224 rfl rfl ?_
                obtain ⟨y14, e_y14, h⟩ := x_bo_elim h
                refine a_callV (pc := 225) (st2 := [.int y14]) (vs2 := [v0]) X [(0, 0, 20)] [none] 0 0 12 [.int x1] [] cv_RX12_240 (c_X12_isGoing (ad0 := ad0)  e_y14) rfl rfl rfl rfl rfl rfl rfl rfl rfl rfl rfl rfl rfl rfl rfl (Nat.le_of_ble_eq_true rfl) (by constructor <;> simp only [x_Rm] <;> omega) dX12_holds_225 (fun z_225 => ?_)
                refine a_if_ne (pc := 228) X 249 dX12_holds_228 rfl (fun c_228 => ?_) (fun c_228 => ?_)
                · have h := x_ifn c_228 h
                  refine a_iconst (pc := 249) X dX12_holds_249 q_ic_0 ?_
                  have h := Option.some.inj h; subst h
                  exact a_zret (pc := 250) X x_Z0 x_Z0 dX12_holds_250
                · have h := x_ifp c_228 h
                  refine a_aload_n (pc := 231) X 3 dX12_holds_231 rfl rfl ?_
                  refine a_getR (pc := 232) X 0 2 2 fl_RX12_98 rfl rfl rfl rfl rfl dX12_holds_232 ?_
                  refine a_bipush (pc := 235) X dX12_holds_235 q_bp_74 ?_
                  refine a_iload_n (pc := 237) X 5 dX12_holds_237 rfl rfl ?_
                  refine a_iadd (pc := 238) X dX12_holds_238 ?_
                  obtain ⟨c_239, h⟩ := x_ck_elim h
                  refine a_iald (pc := 239) X 0 rfl rfl rfl c_239 dX12_holds_239 ?_
                  refine a_iload (pc := 240) X 1 dX12_holds_240 rfl ?_
                  refine a_icmp_ne (pc := 242) X 249 dX12_holds_242 rfl (fun c_242 => ?_) (fun c_242 => ?_)
                  · have h := x_ifn c_242 h
                    refine a_iconst (pc := 249) X dX12_holds_249 q_ic_0 ?_
                    have h := Option.some.inj h; subst h
                    exact a_zret (pc := 250) X x_Z0 x_Z0 dX12_holds_250
                  · have h := x_ifp c_242 h
                    refine a_iconst (pc := 245) X dX12_holds_245 q_ic_1 ?_
                    refine a_goto (pc := 246) X 250 dX12_holds_246 rfl ?_
                    have h := Option.some.inj h; subst h
                    exact a_zret (pc := 250) X x_Z1 x_Z1 dX12_holds_250
              · have h := x_ifn c_33_73 h
                by_cases c_33_74 : (x_ga v0 2 y1) = (74 : Int32)
                · have h := x_ifp c_33_74 h
                  refine a_lookup (pc := 33) (off := 218) X 251 dX12_holds_33 (by decide) (by rw [c_33_74]; decide) rfl ?_
                  refine a_aload_n (pc := 251) X 3 dX12_holds_251 rfl rfl ?_
                  refine a_getR (pc := 252) X 0 2 2 fl_RX12_98 rfl rfl rfl rfl rfl dX12_holds_252 ?_
                  refine a_bipush (pc := 255) X dX12_holds_255 q_bp_94 ?_
                  refine a_iload_n (pc := 257) X 5 dX12_holds_257 rfl rfl ?_
                  refine a_iadd (pc := 258) X dX12_holds_258 ?_
                  obtain ⟨c_259, h⟩ := x_ck_elim h
                  refine a_iald (pc := 259) X 0 rfl rfl rfl c_259 dX12_holds_259 ?_
                  refine a_iload (pc := 260) X 1 dX12_holds_260 rfl ?_
                  obtain ⟨y15, e_y15, h⟩ := x_lt_elim h
                  refine a_callS (pc := 262) (st2 := [.int y15]) (vs2 := [v0]) X [] [] [.int (x_ga v0 2 ((94 : Int32) + x1)), .int y2] [] cv_RX12_243 (c_X12_has   e_y15) rfl rfl rfl rfl rfl rfl rfl rfl rfl rfl rfl (Nat.le_of_ble_eq_true rfl) (by constructor <;> simp only [x_Rm] <;> omega) dX12_holds_262 (fun z_262 => ?_)
                  have h := Option.some.inj h; subst h
                  exact a_zret (pc := 265) X z_262 z_262 dX12_holds_265
                · have h := x_ifn c_33_74 h
                  refine a_lookup (pc := 33) (off := 233) X 266 dX12_holds_33 (by decide) (by have q0 : ((x_ga v0 2 y1) : Int32).toInt ≠ 1 := x_ne c_33_1; have q1 : ((x_ga v0 2 y1) : Int32).toInt ≠ 2 := x_ne c_33_2; have q2 : ((x_ga v0 2 y1) : Int32).toInt ≠ 3 := x_ne c_33_3; have q3 : ((x_ga v0 2 y1) : Int32).toInt ≠ 70 := x_ne c_33_70; have q4 : ((x_ga v0 2 y1) : Int32).toInt ≠ 71 := x_ne c_33_71; have q5 : ((x_ga v0 2 y1) : Int32).toInt ≠ 72 := x_ne c_33_72; have q6 : ((x_ga v0 2 y1) : Int32).toInt ≠ 73 := x_ne c_33_73; have q7 : ((x_ga v0 2 y1) : Int32).toInt ≠ 74 := x_ne c_33_74; simp [Op.lookupswitch.offset, q0, Ne.symm q0, q1, Ne.symm q1, q2, Ne.symm q2, q3, Ne.symm q3, q4, Ne.symm q4, q5, Ne.symm q5, q6, Ne.symm q6, q7, Ne.symm q7]) rfl ?_
                  refine a_aload_n (pc := 266) X 3 dX12_holds_266 rfl rfl ?_
                  refine a_getR (pc := 267) X 0 2 2 fl_RX12_98 rfl rfl rfl rfl rfl dX12_holds_267 ?_
                  refine a_iload_n (pc := 270) X 2 dX12_holds_270 rfl rfl ?_
                  obtain ⟨c_271, h⟩ := x_ck_elim h
                  refine a_iald (pc := 271) X 0 rfl rfl rfl c_271 dX12_holds_271 ?_
                  refine a_bipush (pc := 272) X dX12_holds_272 q_bp_50 ?_
                  refine a_isub (pc := 274) X dX12_holds_274 ?_
                  obtain ⟨y16, e_y16, h⟩ := x_lt_elim h
                  refine a_ni e_y16 ?_
                  refine a_istore (pc := 275) X [(6, .int y16), (5, .int y3), (4, .int y2), (3, .int y1), (0, .ref (ad0 0)), (1, .int x0), (2, .int x1)] dX12_holds_275 (by decide) rfl ?_
                  refine a_iload (pc := 277) X 0 dX12_holds_277 rfl ?_
                  refine a_bipush (pc := 279) X dX12_holds_279 q_bp_25 ?_
                  refine a_icmp_ne (pc := 281) X 296 dX12_holds_281 rfl (fun c_281 => ?_) (fun c_281 => ?_)
                  · have h := x_ifn c_281 h
                    refine a_iload (pc := 296) X 0 dX12_holds_296 rfl ?_
                    refine a_bipush (pc := 298) X dX12_holds_298 q_bp_26 ?_
                    refine a_icmp_ne (pc := 300) X 315 dX12_holds_300 rfl (fun c_300 => ?_) (fun c_300 => ?_)
                    · have h := x_ifn c_300 h
                      refine a_iload (pc := 315) X 0 dX12_holds_315 rfl ?_
                      refine a_bipush (pc := 317) X dX12_holds_317 q_bp_27 ?_
                      refine a_icmp_ne (pc := 319) X 334 dX12_holds_319 rfl (fun c_319 => ?_) (fun c_319 => ?_)
                      · have h := x_ifn c_319 h
                        refine a_iload_n (pc := 334) X 6 dX12_holds_334 rfl rfl ?_
                        refine a_sub [4, 3, 1] rfl ?_
                        exact w_X12_holds_335 X hr_X12_holds    h
                      · have h := x_ifp c_319 h
                        refine a_aload_n (pc := 322) X 4 dX12_holds_322 rfl rfl ?_
                        refine a_getR (pc := 323) X 0 2 2 fl_RX12_98 rfl rfl rfl rfl rfl dX12_holds_323 ?_
                        refine a_bipush (pc := 326) X dX12_holds_326 q_bp_65 ?_
                        refine a_iload_n (pc := 328) X 6 dX12_holds_328 rfl rfl ?_
                        refine a_iadd (pc := 329) X dX12_holds_329 ?_
                        obtain ⟨c_330, h⟩ := x_ck_elim h
                        refine a_iald (pc := 330) X 0 rfl rfl rfl c_330 dX12_holds_330 ?_
                        refine a_goto (pc := 331) X 335 dX12_holds_331 rfl ?_
                        refine a_sub [4, 3, 1] rfl ?_
                        exact w_X12_holds_335 X hr_X12_holds    h
                    · have h := x_ifp c_300 h
                      refine a_aload_n (pc := 303) X 4 dX12_holds_303 rfl rfl ?_
                      refine a_getR (pc := 304) X 0 2 2 fl_RX12_98 rfl rfl rfl rfl rfl dX12_holds_304 ?_
                      refine a_bipush (pc := 307) X dX12_holds_307 q_bp_89 ?_
                      refine a_iload_n (pc := 309) X 6 dX12_holds_309 rfl rfl ?_
                      refine a_iadd (pc := 310) X dX12_holds_310 ?_
                      obtain ⟨c_311, h⟩ := x_ck_elim h
                      refine a_iald (pc := 311) X 0 rfl rfl rfl c_311 dX12_holds_311 ?_
                      refine a_goto (pc := 312) X 335 dX12_holds_312 rfl ?_
                      refine a_sub [4, 3, 1] rfl ?_
                      exact w_X12_holds_335 X hr_X12_holds    h
                  · have h := x_ifp c_281 h
                    refine a_aload_n (pc := 284) X 4 dX12_holds_284 rfl rfl ?_
                    refine a_getR (pc := 285) X 0 2 2 fl_RX12_98 rfl rfl rfl rfl rfl dX12_holds_285 ?_
                    refine a_bipush (pc := 288) X dX12_holds_288 q_bp_84 ?_
                    refine a_iload_n (pc := 290) X 6 dX12_holds_290 rfl rfl ?_
                    refine a_iadd (pc := 291) X dX12_holds_291 ?_
                    obtain ⟨c_292, h⟩ := x_ck_elim h
                    refine a_iald (pc := 292) X 0 rfl rfl rfl c_292 dX12_holds_292 ?_
                    refine a_goto (pc := 293) X 335 dX12_holds_293 rfl ?_
                    refine a_sub [4, 3, 1] rfl ?_
                    exact w_X12_holds_335 X hr_X12_holds    h
def g_holds : Nat → XM → Int32 → Int32 → Option (Int32 × XM)
  | 0 => fun _ _ _ => none
  | d + 1 => f_X12_holds (g_holds d)
theorem cg_holds (l : Launch) : ∀ d : Nat, (∀ {ad0 : Nat → Nat} {v0 : XM} {x0 : Int32} {x1 : Int32} {o : Int32 × XM}, g_holds d v0 x0 x1 = some o → CT l yX12_holds cX12_holds 8 (some .boolean) (8 + d) [(shModel, ad0)] [v0] (fun aK => [.ref (ad0 0), .int x0, .int x1]) (some (.int o.1)) (x_Z o.1) [o.2]) := by
  intro d
  induction d with
  | zero => exact (fun h => by cases h)
  | succ d ih =>
    skip
    exact fun h => cb_X12_holds ih h
def F_X12_holds (v0 : XM) (x0 : Int32) (x1 : Int32) : Option (Int32 × XM) := g_holds 100 v0 x0 x1
theorem c_X12_holds {l : Launch} {ad0 : Nat → Nat} {v0 : XM} {x0 : Int32} {x1 : Int32} {o : Int32 × XM} (h : F_X12_holds v0 x0 x1 = some o) : CT l yX12_holds cX12_holds 8 (some .boolean) 108 [(shModel, ad0)] [v0] (fun aK => [.ref (ad0 0), .int x0, .int x1]) (some (.int o.1)) (x_Z o.1) [o.2] := (cg_holds l 100) h
theorem dX12_said_0 : decode cX12_said 0 = .ok (.aload_n 0, 1) := by decide +kernel
theorem dX12_said_1 : decode cX12_said 1 = .ok (.iconst 0, 1) := by decide +kernel
theorem dX12_said_2 : decode cX12_said 2 = .ok (.putfield 1, 3) := by decide +kernel
theorem dX12_said_5 : decode cX12_said 5 = .ok (.aload_n 0, 1) := by decide +kernel
theorem dX12_said_6 : decode cX12_said 6 = .ok (.getfield 98, 3) := by decide +kernel
theorem dX12_said_9 : decode cX12_said 9 = .ok (.bipush 111, 2) := by decide +kernel
theorem dX12_said_11 : decode cX12_said 11 = .ok (.iaload, 1) := by decide +kernel
theorem dX12_said_12 : decode cX12_said 12 = .ok (.ifCond .ne 5, 3) := by decide +kernel
theorem dX12_said_15 : decode cX12_said 15 = .ok (.iconst (-1), 1) := by decide +kernel
theorem dX12_said_16 : decode cX12_said 16 = .ok (.ireturn, 1) := by decide +kernel
theorem dX12_said_17 : decode cX12_said 17 = .ok (.iconst 0, 1) := by decide +kernel
theorem dX12_said_18 : decode cX12_said 18 = .ok (.istore_n 2, 1) := by decide +kernel
theorem dX12_said_19 : decode cX12_said 19 = .ok (.iconst 0, 1) := by decide +kernel
theorem dX12_said_20 : decode cX12_said 20 = .ok (.istore_n 3, 1) := by decide +kernel
theorem dX12_said_21 : decode cX12_said 21 = .ok (.iload_n 3, 1) := by decide +kernel
theorem dX12_said_22 : decode cX12_said 22 = .ok (.aload_n 0, 1) := by decide +kernel
theorem dX12_said_23 : decode cX12_said 23 = .ok (.getfield 98, 3) := by decide +kernel
theorem dX12_said_26 : decode cX12_said 26 = .ok (.iconst 3, 1) := by decide +kernel
theorem dX12_said_27 : decode cX12_said 27 = .ok (.iaload, 1) := by decide +kernel
theorem dX12_said_28 : decode cX12_said 28 = .ok (.if_icmp .ge 37, 3) := by decide +kernel
theorem dX12_said_31 : decode cX12_said 31 = .ok (.aload_n 0, 1) := by decide +kernel
theorem dX12_said_32 : decode cX12_said 32 = .ok (.aload_n 0, 1) := by decide +kernel
theorem dX12_said_33 : decode cX12_said 33 = .ok (.getfield 98, 3) := by decide +kernel
theorem dX12_said_36 : decode cX12_said 36 = .ok (.bipush 112, 2) := by decide +kernel
theorem dX12_said_38 : decode cX12_said 38 = .ok (.iaload, 1) := by decide +kernel
theorem dX12_said_39 : decode cX12_said 39 = .ok (.iload_n 3, 1) := by decide +kernel
theorem dX12_said_40 : decode cX12_said 40 = .ok (.invokevirtual 463, 3) := by decide +kernel
theorem dX12_said_43 : decode cX12_said 43 = .ok (.ifCond .ne 6, 3) := by decide +kernel
theorem dX12_said_46 : decode cX12_said 46 = .ok (.goto 13, 3) := by decide +kernel
theorem dX12_said_49 : decode cX12_said 49 = .ok (.iload_n 2, 1) := by decide +kernel
theorem dX12_said_50 : decode cX12_said 50 = .ok (.iload_n 1, 1) := by decide +kernel
theorem dX12_said_51 : decode cX12_said 51 = .ok (.if_icmp .ne 5, 3) := by decide +kernel
theorem dX12_said_54 : decode cX12_said 54 = .ok (.iload_n 3, 1) := by decide +kernel
theorem dX12_said_55 : decode cX12_said 55 = .ok (.ireturn, 1) := by decide +kernel
theorem dX12_said_56 : decode cX12_said 56 = .ok (.iinc 2 1, 3) := by decide +kernel
theorem dX12_said_59 : decode cX12_said 59 = .ok (.iinc 3 1, 3) := by decide +kernel
theorem dX12_said_62 : decode cX12_said 62 = .ok (.goto (-41), 3) := by decide +kernel
theorem dX12_said_65 : decode cX12_said 65 = .ok (.iload_n 1, 1) := by decide +kernel
theorem dX12_said_66 : decode cX12_said 66 = .ok (.iconst (-1), 1) := by decide +kernel
theorem dX12_said_67 : decode cX12_said 67 = .ok (.if_icmp .ne 7, 3) := by decide +kernel
theorem dX12_said_70 : decode cX12_said 70 = .ok (.iload_n 2, 1) := by decide +kernel
theorem dX12_said_71 : decode cX12_said 71 = .ok (.goto 4, 3) := by decide +kernel
theorem dX12_said_74 : decode cX12_said 74 = .ok (.iconst (-1), 1) := by decide +kernel
theorem dX12_said_75 : decode cX12_said 75 = .ok (.ireturn, 1) := by decide +kernel
def f_X12_said_59 (k21 : XM → Int32 → Int32 → Int32 → Option (Int32 × XM)) (w0 : XM) (l1 : Int32) (l2 : Int32) (l3 : Int32) : Option (Int32 × XM) :=
  k21 w0 l1 l2 (l3 + 1)
def f_X12_said_21 (k21 : XM → Int32 → Int32 → Int32 → Option (Int32 × XM)) (w0 : XM) (l1 : Int32) (l2 : Int32) (l3 : Int32) : Option (Int32 × XM) :=
  if ((x_ga w0 2 (3 : Int32)) : Int32) ≤ l3 then
  (if (l1 : Int32) = (-1 : Int32) then
  (some (l2, w0))
  else (some ((-1 : Int32), w0)))
  else (x_bo (F_X12_holds w0 (x_ga w0 2 (112 : Int32)) l3) (fun y1 =>
  if y1.1 = (0 : Int32) then
  (f_X12_said_59  k21 y1.2 l1 l2 l3)
  else (if (l2 : Int32) = l1 then
  (some (l3, y1.2))
  else (f_X12_said_59  k21 y1.2 l1 (l2 + 1) l3))))
def f_X12_said (v0 : XM) (x0 : Int32) : Option (Int32 × XM) :=
  x_lt (x_si v0 0 0 (0 : Int32)) (fun m2 =>
  if (x_ga m2 2 (111 : Int32)) = (0 : Int32) then
  (some ((-1 : Int32), m2))
  else (x_lp (φ := XM → Int32 → Int32 → Int32 → Option (Int32 × XM)) (fun _ _ _ _ => none) (f_X12_said_21  ) x_NN m2 x0 (0 : Int32) (0 : Int32)))
set_option maxRecDepth 100000 in
set_option maxHeartbeats 4000000 in
theorem w_X12_said_59 {p : Program} {l : Launch} {e : Env} {s : State} {m : MethodId} {args : Array Value} {below : List Frame} {meth : Method} {c : Code} {D : va_G} {tc : Nat → ClassId} {aK aV : Nat → Nat} {A : Nat → Prop} {ad0 : Nat → Nat}  (X : Cx p s m args meth c cX12_said 4 (some .int) RX12 D tc aK aV A [(shModel, ad0)])  {o : Int32 × XM} {k21 : XM → Int32 → Int32 → Int32 → Option (Int32 × XM)} (hk21 : ∀ (w0 : XM) (l1 : Int32) (l2 : Int32) (l3 : Int32), k21 w0 l1 l2 l3 = some o → aW p l e (x_Rm 109) s m args below meth c D tc A 4 [(shModel, ad0)] (some (.int o.1)) True [o.2] 21 [(0, .ref (ad0 0)), (1, .int l1), (2, .int l2), (3, .int l3)] [] [w0]) {w0 : XM} {l1 : Int32} {l2 : Int32} {l3 : Int32}  (h : f_X12_said_59  k21 w0 l1 l2 l3 = some o) : aW p l e (x_Rm 109) s m args below meth c D tc A 4 [(shModel, ad0)] (some (.int o.1)) True [o.2] 59 [(0, .ref (ad0 0)), (1, .int l1), (2, .int l2), (3, .int l3)] [] [w0] := by
  unfold f_X12_said_59 at h
  refine a_iinc (pc := 59) X 3 [(3, .int (l3 + 1)), (0, .ref (ad0 0)), (1, .int l1), (2, .int l2)] dX12_said_59 rfl (congrArg (HAdd.hAdd l3) q_ic_1) (by decide) rfl ?_
  refine a_goto (pc := 62) X 21 dX12_said_62 rfl ?_
  refine a_sub [1, 2, 3, 0] rfl ?_
  exact hk21 _ _ _ _ h
set_option maxRecDepth 100000 in
set_option maxHeartbeats 4000000 in
theorem w_X12_said_21 {p : Program} {l : Launch} {e : Env} {s : State} {m : MethodId} {args : Array Value} {below : List Frame} {meth : Method} {c : Code} {D : va_G} {tc : Nat → ClassId} {aK aV : Nat → Nat} {A : Nat → Prop} {ad0 : Nat → Nat}  (X : Cx p s m args meth c cX12_said 4 (some .int) RX12 D tc aK aV A [(shModel, ad0)])  {o : Int32 × XM}  : ∀ (n : Nat), ∀ (w0 : XM) (l1 : Int32) (l2 : Int32) (l3 : Int32), x_lp (φ := XM → Int32 → Int32 → Int32 → Option (Int32 × XM)) (fun _ _ _ _ => none) (f_X12_said_21  ) n w0 l1 l2 l3 = some o → aW p l e (x_Rm 109) s m args below meth c D tc A 4 [(shModel, ad0)] (some (.int o.1)) True [o.2] 21 [(0, .ref (ad0 0)), (1, .int l1), (2, .int l2), (3, .int l3)] [] [w0] := by
  intro n
  induction n with
  | zero => intro w0 l1 l2 l3 h; exact absurd h (fun q => by cases q)
  | succ n ih =>
    intro w0 l1 l2 l3 h
    have h : f_X12_said_21   (x_lp (φ := XM → Int32 → Int32 → Int32 → Option (Int32 × XM)) (fun _ _ _ _ => none) (f_X12_said_21  ) n) w0 l1 l2 l3 = some o := h
    generalize x_lp (φ := XM → Int32 → Int32 → Int32 → Option (Int32 × XM)) (fun _ _ _ _ => none) (f_X12_said_21  ) n = k21 at h ih
    have hk21 := ih
    unfold f_X12_said_21 at h
    refine a_iload_n (pc := 21) X 3 dX12_said_21 rfl rfl ?_
    refine a_aload_n (pc := 22) X 0 dX12_said_22 rfl rfl ?_
    refine a_getR (pc := 23) X 0 2 2 fl_RX12_98 rfl rfl rfl rfl rfl dX12_said_23 ?_
    refine a_iconst (pc := 26) X dX12_said_26 q_ic_3 ?_
    refine a_iald (pc := 27) X 0 rfl rfl rfl (x_inl (by decide)) dX12_said_27 ?_
    refine a_icmp_ge (pc := 28) X 65 dX12_said_28 rfl (fun c_28 => ?_) (fun c_28 => ?_)
    · have h := x_ifp c_28 h
      refine a_iload_n (pc := 65) X 1 dX12_said_65 rfl rfl ?_
      refine a_iconst (pc := 66) X dX12_said_66 q_ic_m1 ?_
      refine a_icmp_ne (pc := 67) X 74 dX12_said_67 rfl (fun c_67 => ?_) (fun c_67 => ?_)
      · have h := x_ifn c_67 h
        refine a_iconst (pc := 74) X dX12_said_74 q_ic_m1 ?_
        have h := Option.some.inj h; subst h
        exact a_iret (pc := 75) X trivial dX12_said_75
      · have h := x_ifp c_67 h
        refine a_iload_n (pc := 70) X 2 dX12_said_70 rfl rfl ?_
        refine a_goto (pc := 71) X 75 dX12_said_71 rfl ?_
        have h := Option.some.inj h; subst h
        exact a_iret (pc := 75) X trivial dX12_said_75
    · have h := x_ifn c_28 h
      refine a_aload_n (pc := 31) X 0 dX12_said_31 rfl rfl ?_
      refine a_aload_n (pc := 32) X 0 dX12_said_32 rfl rfl ?_
      refine a_getR (pc := 33) X 0 2 2 fl_RX12_98 rfl rfl rfl rfl rfl dX12_said_33 ?_
      refine a_bipush (pc := 36) X dX12_said_36 q_bp_112 ?_
      refine a_iald (pc := 38) X 0 rfl rfl rfl (x_inl (by decide)) dX12_said_38 ?_
      refine a_iload_n (pc := 39) X 3 dX12_said_39 rfl rfl ?_
      obtain ⟨y1, e_y1, h⟩ := x_bo_elim h
      refine a_callV (pc := 40) (st2 := [.int y1.1]) (vs2 := [y1.2]) X [(0, 0, 20)] [some y1.2] 0 0 12 [.int (x_ga w0 2 (112 : Int32)), .int l3] [] cv_RX12_463 (c_X12_holds (ad0 := ad0)  e_y1) rfl rfl rfl rfl rfl rfl rfl rfl rfl rfl rfl rfl rfl rfl rfl (Nat.le_of_ble_eq_true rfl) ⟨Nat.le_of_ble_eq_true rfl, Nat.le_of_ble_eq_true rfl⟩ dX12_said_40 (fun z_40 => ?_)
      refine a_if_ne (pc := 43) X 49 dX12_said_43 rfl (fun c_43 => ?_) (fun c_43 => ?_)
      · have h := x_ifn c_43 h
        refine a_iload_n (pc := 49) X 2 dX12_said_49 rfl rfl ?_
        refine a_iload_n (pc := 50) X 1 dX12_said_50 rfl rfl ?_
        refine a_icmp_ne (pc := 51) X 56 dX12_said_51 rfl (fun c_51 => ?_) (fun c_51 => ?_)
        · have h := x_ifn c_51 h
          refine a_iinc (pc := 56) X 2 [(2, .int (l2 + 1)), (0, .ref (ad0 0)), (1, .int l1), (3, .int l3)] dX12_said_56 rfl (congrArg (HAdd.hAdd l2) q_ic_1) (by decide) rfl ?_
          refine a_sub [1, 2, 0, 3] rfl ?_
          exact w_X12_said_59 X   hk21  h
        · have h := x_ifp c_51 h
          refine a_iload_n (pc := 54) X 3 dX12_said_54 rfl rfl ?_
          have h := Option.some.inj h; subst h
          exact a_iret (pc := 55) X trivial dX12_said_55
      · have h := x_ifp c_43 h
        refine a_goto (pc := 46) X 59 dX12_said_46 rfl ?_
        exact w_X12_said_59 X   hk21  h
set_option maxRecDepth 100000 in
set_option maxHeartbeats 4000000 in
theorem c_X12_said {l : Launch}  {ad0 : Nat → Nat} {v0 : XM} {x0 : Int32}  {o : Int32 × XM} (h : f_X12_said v0 x0 = some o) : CT l yX12_said cX12_said 4 (some .int) 109 [(shModel, ad0)] [v0] (fun aK => [.ref (ad0 0), .int x0]) (some (.int o.1)) True [o.2] := by
  refine CT_of (by decide) (fun _ => Nat.le_of_ble_eq_true rfl) ?_
  intro p e s m args below meth c D tc aK aV A X
  have X : Cx p s m args meth c cX12_said 4 (some .int) RX12 D tc aK aV A [(shModel, ad0)] := X
  show aW p l e (x_Rm 109) s m args below meth c D tc A 4 [(shModel, ad0)] (some (.int o.1)) True [o.2] 0 [(0, .ref (ad0 0)), (1, .int x0)] [] [v0]
  unfold f_X12_said at h
  refine a_aload_n (pc := 0) X 0 dX12_said_0 rfl rfl ?_
  refine a_iconst (pc := 1) X dX12_said_1 q_ic_0 ?_
  refine a_putI (pc := 2) X 0 fl_RX12_1 rfl rfl rfl rfl dX12_said_2 ?_
  obtain ⟨m2, e_m2, h⟩ := x_lt_elim h
  refine a_nm (vs2 := [m2]) (congrArg (fun q : XM => [q]) e_m2) ?_
  refine a_aload_n (pc := 5) X 0 dX12_said_5 rfl rfl ?_
  refine a_getR (pc := 6) X 0 2 2 fl_RX12_98 rfl rfl rfl rfl rfl dX12_said_6 ?_
  refine a_bipush (pc := 9) X dX12_said_9 q_bp_111 ?_
  refine a_iald (pc := 11) X 0 rfl rfl rfl (x_inl (by decide)) dX12_said_11 ?_
  refine a_if_ne (pc := 12) X 17 dX12_said_12 rfl (fun c_12 => ?_) (fun c_12 => ?_)
  · have h := x_ifn c_12 h
    refine a_iconst (pc := 17) X dX12_said_17 q_ic_0 ?_
    refine a_istore_n (pc := 18) X [(2, .int (0 : Int32)), (0, .ref (ad0 0)), (1, .int x0)] dX12_said_18 rfl (by decide) rfl ?_
    refine a_iconst (pc := 19) X dX12_said_19 q_ic_0 ?_
    refine a_istore_n (pc := 20) X [(3, .int (0 : Int32)), (2, .int (0 : Int32)), (0, .ref (ad0 0)), (1, .int x0)] dX12_said_20 rfl (by decide) rfl ?_
    refine a_sub [2, 3, 1, 0] rfl ?_
    exact w_X12_said_21 X    x_NN _ _ _ _ h
  · have h := x_ifp c_12 h
    refine a_iconst (pc := 15) X dX12_said_15 q_ic_m1 ?_
    have h := Option.some.inj h; subst h
    exact a_iret (pc := 16) X trivial dX12_said_16
theorem dX12_image_0 : decode cX12_image 0 = .ok (.aload_n 0, 1) := by decide +kernel
theorem dX12_image_1 : decode cX12_image 1 = .ok (.iconst 0, 1) := by decide +kernel
theorem dX12_image_2 : decode cX12_image 2 = .ok (.putfield 1, 3) := by decide +kernel
theorem dX12_image_5 : decode cX12_image 5 = .ok (.iload_n 1, 1) := by decide +kernel
theorem dX12_image_6 : decode cX12_image 6 = .ok (.iconst 0, 1) := by decide +kernel
theorem dX12_image_7 : decode cX12_image 7 = .ok (.iconst 1, 1) := by decide +kernel
theorem dX12_image_8 : decode cX12_image 8 = .ok (.invokestatic 75, 3) := by decide +kernel
theorem dX12_image_11 : decode cX12_image 11 = .ok (.ifCond .ne 5, 3) := by decide +kernel
theorem dX12_image_14 : decode cX12_image 14 = .ok (.iconst 0, 1) := by decide +kernel
theorem dX12_image_15 : decode cX12_image 15 = .ok (.ireturn, 1) := by decide +kernel
theorem dX12_image_16 : decode cX12_image 16 = .ok (.iconst 0, 1) := by decide +kernel
theorem dX12_image_17 : decode cX12_image 17 = .ok (.istore_n 2, 1) := by decide +kernel
theorem dX12_image_18 : decode cX12_image 18 = .ok (.iload_n 2, 1) := by decide +kernel
theorem dX12_image_19 : decode cX12_image 19 = .ok (.sipush 353, 3) := by decide +kernel
theorem dX12_image_22 : decode cX12_image 22 = .ok (.if_icmp .ge 27, 3) := by decide +kernel
theorem dX12_image_25 : decode cX12_image 25 = .ok (.aload_n 0, 1) := by decide +kernel
theorem dX12_image_26 : decode cX12_image 26 = .ok (.getfield 104, 3) := by decide +kernel
theorem dX12_image_29 : decode cX12_image 29 = .ok (.sipush 353, 3) := by decide +kernel
theorem dX12_image_32 : decode cX12_image 32 = .ok (.iload_n 1, 1) := by decide +kernel
theorem dX12_image_33 : decode cX12_image 33 = .ok (.imul, 1) := by decide +kernel
theorem dX12_image_34 : decode cX12_image 34 = .ok (.iload_n 2, 1) := by decide +kernel
theorem dX12_image_35 : decode cX12_image 35 = .ok (.iadd, 1) := by decide +kernel
theorem dX12_image_36 : decode cX12_image 36 = .ok (.aload_n 0, 1) := by decide +kernel
theorem dX12_image_37 : decode cX12_image 37 = .ok (.getfield 98, 3) := by decide +kernel
theorem dX12_image_40 : decode cX12_image 40 = .ok (.iload_n 2, 1) := by decide +kernel
theorem dX12_image_41 : decode cX12_image 41 = .ok (.iaload, 1) := by decide +kernel
theorem dX12_image_42 : decode cX12_image 42 = .ok (.iastore, 1) := by decide +kernel
theorem dX12_image_43 : decode cX12_image 43 = .ok (.iinc 2 1, 3) := by decide +kernel
theorem dX12_image_46 : decode cX12_image 46 = .ok (.goto (-28), 3) := by decide +kernel
theorem dX12_image_49 : decode cX12_image 49 = .ok (.iconst 0, 1) := by decide +kernel
theorem dX12_image_50 : decode cX12_image 50 = .ok (.istore_n 2, 1) := by decide +kernel
theorem dX12_image_51 : decode cX12_image 51 = .ok (.iload_n 2, 1) := by decide +kernel
theorem dX12_image_52 : decode cX12_image 52 = .ok (.bipush 19, 2) := by decide +kernel
theorem dX12_image_54 : decode cX12_image 54 = .ok (.if_icmp .ge 26, 3) := by decide +kernel
theorem dX12_image_57 : decode cX12_image 57 = .ok (.aload_n 0, 1) := by decide +kernel
theorem dX12_image_58 : decode cX12_image 58 = .ok (.getfield 120, 3) := by decide +kernel
theorem dX12_image_61 : decode cX12_image 61 = .ok (.bipush 19, 2) := by decide +kernel
theorem dX12_image_63 : decode cX12_image 63 = .ok (.iload_n 1, 1) := by decide +kernel
theorem dX12_image_64 : decode cX12_image 64 = .ok (.imul, 1) := by decide +kernel
theorem dX12_image_65 : decode cX12_image 65 = .ok (.iload_n 2, 1) := by decide +kernel
theorem dX12_image_66 : decode cX12_image 66 = .ok (.iadd, 1) := by decide +kernel
theorem dX12_image_67 : decode cX12_image 67 = .ok (.aload_n 0, 1) := by decide +kernel
theorem dX12_image_68 : decode cX12_image 68 = .ok (.getfield 113, 3) := by decide +kernel
theorem dX12_image_71 : decode cX12_image 71 = .ok (.iload_n 2, 1) := by decide +kernel
theorem dX12_image_72 : decode cX12_image 72 = .ok (.laload, 1) := by decide +kernel
theorem dX12_image_73 : decode cX12_image 73 = .ok (.lastore, 1) := by decide +kernel
theorem dX12_image_74 : decode cX12_image 74 = .ok (.iinc 2 1, 3) := by decide +kernel
theorem dX12_image_77 : decode cX12_image 77 = .ok (.goto (-26), 3) := by decide +kernel
theorem dX12_image_80 : decode cX12_image 80 = .ok (.aload_n 0, 1) := by decide +kernel
theorem dX12_image_81 : decode cX12_image 81 = .ok (.getfield 123, 3) := by decide +kernel
theorem dX12_image_84 : decode cX12_image 84 = .ok (.iload_n 1, 1) := by decide +kernel
theorem dX12_image_85 : decode cX12_image 85 = .ok (.iconst 1, 1) := by decide +kernel
theorem dX12_image_86 : decode cX12_image 86 = .ok (.bastore, 1) := by decide +kernel
theorem dX12_image_87 : decode cX12_image 87 = .ok (.iconst 1, 1) := by decide +kernel
theorem dX12_image_88 : decode cX12_image 88 = .ok (.ireturn, 1) := by decide +kernel
def f_X12_image_51 (k51 : XM → Int32 → Int32 → Option (Int32 × XM)) (w0 : XM) (l1 : Int32) (l2 : Int32) : Option (Int32 × XM) :=
  if ((19 : Int32) : Int32) ≤ l2 then
  (x_ck l1 2 (
  x_lt (x_pa w0 10 l1 (1 : Int32)) (fun m1 =>
  some ((1 : Int32), m1))))
  else (x_ck l2 19 (
  x_ck (((19 : Int32) * l1) + l2) 38 (
  x_lt (x_pl w0 9 (((19 : Int32) * l1) + l2) (x_gl w0 7 l2)) (fun m2 =>
  k51 m2 l1 (l2 + 1)))))
def f_X12_image_18 (k18 : XM → Int32 → Int32 → Option (Int32 × XM)) (w0 : XM) (l1 : Int32) (l2 : Int32) : Option (Int32 × XM) :=
  if ((353 : Int32) : Int32) ≤ l2 then
  (x_lp (φ := XM → Int32 → Int32 → Option (Int32 × XM)) (fun _ _ _ => none) (f_X12_image_51  ) x_NN w0 l1 (0 : Int32))
  else (x_ck l2 353 (
  x_ck (((353 : Int32) * l1) + l2) 706 (
  x_lt (x_pa w0 4 (((353 : Int32) * l1) + l2) (x_ga w0 2 l2)) (fun m3 =>
  k18 m3 l1 (l2 + 1)))))
def f_X12_image (v0 : XM) (x0 : Int32) : Option (Int32 × XM) :=
  x_lt (x_si v0 0 0 (0 : Int32)) (fun m4 =>
  x_lt (f_X12_isIn x0 (0 : Int32) (1 : Int32)) (fun y5 =>
  if y5 = (0 : Int32) then
  (some ((0 : Int32), m4))
  else (x_lp (φ := XM → Int32 → Int32 → Option (Int32 × XM)) (fun _ _ _ => none) (f_X12_image_18  ) x_NN m4 x0 (0 : Int32))))
set_option maxRecDepth 100000 in
set_option maxHeartbeats 4000000 in
theorem w_X12_image_51 {p : Program} {l : Launch} {e : Env} {s : State} {m : MethodId} {args : Array Value} {below : List Frame} {meth : Method} {c : Code} {D : va_G} {tc : Nat → ClassId} {aK aV : Nat → Nat} {A : Nat → Prop} {ad0 : Nat → Nat}  (X : Cx p s m args meth c cX12_image 3 (some .boolean) RX12 D tc aK aV A [(shModel, ad0)])  {o : Int32 × XM}  : ∀ (n : Nat), ∀ (w0 : XM) (l1 : Int32) (l2 : Int32), x_lp (φ := XM → Int32 → Int32 → Option (Int32 × XM)) (fun _ _ _ => none) (f_X12_image_51  ) n w0 l1 l2 = some o → aW p l e (x_Rm 1) s m args below meth c D tc A 3 [(shModel, ad0)] (some (.int o.1)) (x_Z o.1) [o.2] 51 [(0, .ref (ad0 0)), (1, .int l1), (2, .int l2)] [] [w0] := by
  intro n
  induction n with
  | zero => intro w0 l1 l2 h; exact absurd h (fun q => by cases q)
  | succ n ih =>
    intro w0 l1 l2 h
    have h : f_X12_image_51   (x_lp (φ := XM → Int32 → Int32 → Option (Int32 × XM)) (fun _ _ _ => none) (f_X12_image_51  ) n) w0 l1 l2 = some o := h
    generalize x_lp (φ := XM → Int32 → Int32 → Option (Int32 × XM)) (fun _ _ _ => none) (f_X12_image_51  ) n = k51 at h ih
    have hk51 := ih
    unfold f_X12_image_51 at h
    refine a_iload_n (pc := 51) X 2 dX12_image_51 rfl rfl ?_
    refine a_bipush (pc := 52) X dX12_image_52 q_bp_19 ?_
    refine a_icmp_ge (pc := 54) X 80 dX12_image_54 rfl (fun c_54 => ?_) (fun c_54 => ?_)
    · have h := x_ifp c_54 h
      refine a_aload_n (pc := 80) X 0 dX12_image_80 rfl rfl ?_
      refine a_getR (pc := 81) X 0 10 10 fl_RX12_123 rfl rfl rfl rfl rfl dX12_image_81 ?_
      refine a_iload_n (pc := 84) X 1 dX12_image_84 rfl rfl ?_
      refine a_iconst (pc := 85) X dX12_image_85 q_ic_1 ?_
      obtain ⟨c_86, h⟩ := x_ck_elim h
      refine a_zast (pc := 86) X 0 x_Z1 rfl rfl rfl c_86 dX12_image_86 ?_
      obtain ⟨m1, e_m1, h⟩ := x_lt_elim h
      refine a_nm (vs2 := [m1]) (congrArg (fun q : XM => [q]) e_m1) ?_
      refine a_iconst (pc := 87) X dX12_image_87 q_ic_1 ?_
      have h := Option.some.inj h; subst h
      exact a_zret (pc := 88) X x_Z1 x_Z1 dX12_image_88
    · have h := x_ifn c_54 h
      refine a_aload_n (pc := 57) X 0 dX12_image_57 rfl rfl ?_
      refine a_getR (pc := 58) X 0 9 9 fl_RX12_120 rfl rfl rfl rfl rfl dX12_image_58 ?_
      refine a_bipush (pc := 61) X dX12_image_61 q_bp_19 ?_
      refine a_iload_n (pc := 63) X 1 dX12_image_63 rfl rfl ?_
      refine a_imul (pc := 64) X dX12_image_64 ?_
      refine a_iload_n (pc := 65) X 2 dX12_image_65 rfl rfl ?_
      refine a_iadd (pc := 66) X dX12_image_66 ?_
      refine a_aload_n (pc := 67) X 0 dX12_image_67 rfl rfl ?_
      refine a_getR (pc := 68) X 0 7 7 fl_RX12_113 rfl rfl rfl rfl rfl dX12_image_68 ?_
      refine a_iload_n (pc := 71) X 2 dX12_image_71 rfl rfl ?_
      obtain ⟨c_72, h⟩ := x_ck_elim h
      refine a_lald (pc := 72) X 0 rfl rfl rfl c_72 dX12_image_72 ?_
      obtain ⟨c_73, h⟩ := x_ck_elim h
      refine a_last (pc := 73) X 0 rfl rfl rfl c_73 dX12_image_73 ?_
      obtain ⟨m2, e_m2, h⟩ := x_lt_elim h
      refine a_nm (vs2 := [m2]) (congrArg (fun q : XM => [q]) e_m2) ?_
      refine a_iinc (pc := 74) X 2 [(2, .int (l2 + 1)), (0, .ref (ad0 0)), (1, .int l1)] dX12_image_74 rfl (congrArg (HAdd.hAdd l2) q_ic_1) (by decide) rfl ?_
      refine a_goto (pc := 77) X 51 dX12_image_77 rfl ?_
      refine a_sub [1, 2, 0] rfl ?_
      exact hk51 _ _ _ h
set_option maxRecDepth 100000 in
set_option maxHeartbeats 4000000 in
theorem w_X12_image_18 {p : Program} {l : Launch} {e : Env} {s : State} {m : MethodId} {args : Array Value} {below : List Frame} {meth : Method} {c : Code} {D : va_G} {tc : Nat → ClassId} {aK aV : Nat → Nat} {A : Nat → Prop} {ad0 : Nat → Nat}  (X : Cx p s m args meth c cX12_image 3 (some .boolean) RX12 D tc aK aV A [(shModel, ad0)])  {o : Int32 × XM}  : ∀ (n : Nat), ∀ (w0 : XM) (l1 : Int32) (l2 : Int32), x_lp (φ := XM → Int32 → Int32 → Option (Int32 × XM)) (fun _ _ _ => none) (f_X12_image_18  ) n w0 l1 l2 = some o → aW p l e (x_Rm 1) s m args below meth c D tc A 3 [(shModel, ad0)] (some (.int o.1)) (x_Z o.1) [o.2] 18 [(0, .ref (ad0 0)), (1, .int l1), (2, .int l2)] [] [w0] := by
  intro n
  induction n with
  | zero => intro w0 l1 l2 h; exact absurd h (fun q => by cases q)
  | succ n ih =>
    intro w0 l1 l2 h
    have h : f_X12_image_18   (x_lp (φ := XM → Int32 → Int32 → Option (Int32 × XM)) (fun _ _ _ => none) (f_X12_image_18  ) n) w0 l1 l2 = some o := h
    generalize x_lp (φ := XM → Int32 → Int32 → Option (Int32 × XM)) (fun _ _ _ => none) (f_X12_image_18  ) n = k18 at h ih
    have hk18 := ih
    unfold f_X12_image_18 at h
    refine a_iload_n (pc := 18) X 2 dX12_image_18 rfl rfl ?_
    refine a_sipush (pc := 19) X dX12_image_19 q_sp_353 ?_
    refine a_icmp_ge (pc := 22) X 49 dX12_image_22 rfl (fun c_22 => ?_) (fun c_22 => ?_)
    · have h := x_ifp c_22 h
      refine a_iconst (pc := 49) X dX12_image_49 q_ic_0 ?_
      refine a_istore_n (pc := 50) X [(2, .int (0 : Int32)), (0, .ref (ad0 0)), (1, .int l1)] dX12_image_50 rfl (by decide) rfl ?_
      refine a_sub [1, 2, 0] rfl ?_
      exact w_X12_image_51 X    x_NN _ _ _ h
    · have h := x_ifn c_22 h
      refine a_aload_n (pc := 25) X 0 dX12_image_25 rfl rfl ?_
      refine a_getR (pc := 26) X 0 4 4 fl_RX12_104 rfl rfl rfl rfl rfl dX12_image_26 ?_
      refine a_sipush (pc := 29) X dX12_image_29 q_sp_353 ?_
      refine a_iload_n (pc := 32) X 1 dX12_image_32 rfl rfl ?_
      refine a_imul (pc := 33) X dX12_image_33 ?_
      refine a_iload_n (pc := 34) X 2 dX12_image_34 rfl rfl ?_
      refine a_iadd (pc := 35) X dX12_image_35 ?_
      refine a_aload_n (pc := 36) X 0 dX12_image_36 rfl rfl ?_
      refine a_getR (pc := 37) X 0 2 2 fl_RX12_98 rfl rfl rfl rfl rfl dX12_image_37 ?_
      refine a_iload_n (pc := 40) X 2 dX12_image_40 rfl rfl ?_
      obtain ⟨c_41, h⟩ := x_ck_elim h
      refine a_iald (pc := 41) X 0 rfl rfl rfl c_41 dX12_image_41 ?_
      obtain ⟨c_42, h⟩ := x_ck_elim h
      refine a_iast (pc := 42) X 0 rfl rfl rfl c_42 dX12_image_42 ?_
      obtain ⟨m3, e_m3, h⟩ := x_lt_elim h
      refine a_nm (vs2 := [m3]) (congrArg (fun q : XM => [q]) e_m3) ?_
      refine a_iinc (pc := 43) X 2 [(2, .int (l2 + 1)), (0, .ref (ad0 0)), (1, .int l1)] dX12_image_43 rfl (congrArg (HAdd.hAdd l2) q_ic_1) (by decide) rfl ?_
      refine a_goto (pc := 46) X 18 dX12_image_46 rfl ?_
      refine a_sub [1, 2, 0] rfl ?_
      exact hk18 _ _ _ h
set_option maxRecDepth 100000 in
set_option maxHeartbeats 4000000 in
theorem c_X12_image {l : Launch}  {ad0 : Nat → Nat} {v0 : XM} {x0 : Int32}  {o : Int32 × XM} (h : f_X12_image v0 x0 = some o) : CT l yX12_image cX12_image 3 (some .boolean) 1 [(shModel, ad0)] [v0] (fun aK => [.ref (ad0 0), .int x0]) (some (.int o.1)) (x_Z o.1) [o.2] := by
  refine CT_of (by decide) (fun _ => Nat.le_of_ble_eq_true rfl) ?_
  intro p e s m args below meth c D tc aK aV A X
  have X : Cx p s m args meth c cX12_image 3 (some .boolean) RX12 D tc aK aV A [(shModel, ad0)] := X
  show aW p l e (x_Rm 1) s m args below meth c D tc A 3 [(shModel, ad0)] (some (.int o.1)) (x_Z o.1) [o.2] 0 [(0, .ref (ad0 0)), (1, .int x0)] [] [v0]
  unfold f_X12_image at h
  refine a_aload_n (pc := 0) X 0 dX12_image_0 rfl rfl ?_
  refine a_iconst (pc := 1) X dX12_image_1 q_ic_0 ?_
  refine a_putI (pc := 2) X 0 fl_RX12_1 rfl rfl rfl rfl dX12_image_2 ?_
  obtain ⟨m4, e_m4, h⟩ := x_lt_elim h
  refine a_nm (vs2 := [m4]) (congrArg (fun q : XM => [q]) e_m4) ?_
  refine a_iload_n (pc := 5) X 1 dX12_image_5 rfl rfl ?_
  refine a_iconst (pc := 6) X dX12_image_6 q_ic_0 ?_
  refine a_iconst (pc := 7) X dX12_image_7 q_ic_1 ?_
  obtain ⟨y5, e_y5, h⟩ := x_lt_elim h
  refine a_callS (pc := 8) (st2 := [.int y5]) (vs2 := [m4]) X [] [] [.int x0, .int (0 : Int32), .int (1 : Int32)] [] cv_RX12_75 (c_X12_isIn   e_y5) rfl rfl rfl rfl rfl rfl rfl rfl rfl rfl rfl (Nat.le_of_ble_eq_true rfl) ⟨Nat.le_of_ble_eq_true rfl, Nat.le_of_ble_eq_true rfl⟩ dX12_image_8 (fun z_8 => ?_)
  refine a_if_ne (pc := 11) X 16 dX12_image_11 rfl (fun c_11 => ?_) (fun c_11 => ?_)
  · have h := x_ifn c_11 h
    refine a_iconst (pc := 16) X dX12_image_16 q_ic_0 ?_
    refine a_istore_n (pc := 17) X [(2, .int (0 : Int32)), (0, .ref (ad0 0)), (1, .int x0)] dX12_image_17 rfl (by decide) rfl ?_
    refine a_sub [1, 2, 0] rfl ?_
    exact w_X12_image_18 X    x_NN _ _ _ h
  · have h := x_ifp c_11 h
    refine a_iconst (pc := 14) X dX12_image_14 q_ic_0 ?_
    have h := Option.some.inj h; subst h
    exact a_zret (pc := 15) X x_Z0 x_Z0 dX12_image_15
theorem dX12_restore_0 : decode cX12_restore 0 = .ok (.aload_n 0, 1) := by decide +kernel
theorem dX12_restore_1 : decode cX12_restore 1 = .ok (.iconst 0, 1) := by decide +kernel
theorem dX12_restore_2 : decode cX12_restore 2 = .ok (.putfield 1, 3) := by decide +kernel
theorem dX12_restore_5 : decode cX12_restore 5 = .ok (.iload_n 1, 1) := by decide +kernel
theorem dX12_restore_6 : decode cX12_restore 6 = .ok (.iconst 0, 1) := by decide +kernel
theorem dX12_restore_7 : decode cX12_restore 7 = .ok (.iconst 1, 1) := by decide +kernel
theorem dX12_restore_8 : decode cX12_restore 8 = .ok (.invokestatic 75, 3) := by decide +kernel
theorem dX12_restore_11 : decode cX12_restore 11 = .ok (.ifCond .eq 12, 3) := by decide +kernel
theorem dX12_restore_14 : decode cX12_restore 14 = .ok (.aload_n 0, 1) := by decide +kernel
theorem dX12_restore_15 : decode cX12_restore 15 = .ok (.getfield 123, 3) := by decide +kernel
theorem dX12_restore_18 : decode cX12_restore 18 = .ok (.iload_n 1, 1) := by decide +kernel
theorem dX12_restore_19 : decode cX12_restore 19 = .ok (.baload, 1) := by decide +kernel
theorem dX12_restore_20 : decode cX12_restore 20 = .ok (.ifCond .ne 5, 3) := by decide +kernel
theorem dX12_restore_23 : decode cX12_restore 23 = .ok (.iconst 0, 1) := by decide +kernel
theorem dX12_restore_24 : decode cX12_restore 24 = .ok (.ireturn, 1) := by decide +kernel
theorem dX12_restore_25 : decode cX12_restore 25 = .ok (.iconst 0, 1) := by decide +kernel
theorem dX12_restore_26 : decode cX12_restore 26 = .ok (.istore_n 2, 1) := by decide +kernel
theorem dX12_restore_27 : decode cX12_restore 27 = .ok (.iload_n 2, 1) := by decide +kernel
theorem dX12_restore_28 : decode cX12_restore 28 = .ok (.sipush 353, 3) := by decide +kernel
theorem dX12_restore_31 : decode cX12_restore 31 = .ok (.if_icmp .ge 27, 3) := by decide +kernel
theorem dX12_restore_34 : decode cX12_restore 34 = .ok (.aload_n 0, 1) := by decide +kernel
theorem dX12_restore_35 : decode cX12_restore 35 = .ok (.getfield 98, 3) := by decide +kernel
theorem dX12_restore_38 : decode cX12_restore 38 = .ok (.iload_n 2, 1) := by decide +kernel
theorem dX12_restore_39 : decode cX12_restore 39 = .ok (.aload_n 0, 1) := by decide +kernel
theorem dX12_restore_40 : decode cX12_restore 40 = .ok (.getfield 104, 3) := by decide +kernel
theorem dX12_restore_43 : decode cX12_restore 43 = .ok (.sipush 353, 3) := by decide +kernel
theorem dX12_restore_46 : decode cX12_restore 46 = .ok (.iload_n 1, 1) := by decide +kernel
theorem dX12_restore_47 : decode cX12_restore 47 = .ok (.imul, 1) := by decide +kernel
theorem dX12_restore_48 : decode cX12_restore 48 = .ok (.iload_n 2, 1) := by decide +kernel
theorem dX12_restore_49 : decode cX12_restore 49 = .ok (.iadd, 1) := by decide +kernel
theorem dX12_restore_50 : decode cX12_restore 50 = .ok (.iaload, 1) := by decide +kernel
theorem dX12_restore_51 : decode cX12_restore 51 = .ok (.iastore, 1) := by decide +kernel
theorem dX12_restore_52 : decode cX12_restore 52 = .ok (.iinc 2 1, 3) := by decide +kernel
theorem dX12_restore_55 : decode cX12_restore 55 = .ok (.goto (-28), 3) := by decide +kernel
theorem dX12_restore_58 : decode cX12_restore 58 = .ok (.iconst 0, 1) := by decide +kernel
theorem dX12_restore_59 : decode cX12_restore 59 = .ok (.istore_n 2, 1) := by decide +kernel
theorem dX12_restore_60 : decode cX12_restore 60 = .ok (.iload_n 2, 1) := by decide +kernel
theorem dX12_restore_61 : decode cX12_restore 61 = .ok (.bipush 19, 2) := by decide +kernel
theorem dX12_restore_63 : decode cX12_restore 63 = .ok (.if_icmp .ge 26, 3) := by decide +kernel
theorem dX12_restore_66 : decode cX12_restore 66 = .ok (.aload_n 0, 1) := by decide +kernel
theorem dX12_restore_67 : decode cX12_restore 67 = .ok (.getfield 113, 3) := by decide +kernel
theorem dX12_restore_70 : decode cX12_restore 70 = .ok (.iload_n 2, 1) := by decide +kernel
theorem dX12_restore_71 : decode cX12_restore 71 = .ok (.aload_n 0, 1) := by decide +kernel
theorem dX12_restore_72 : decode cX12_restore 72 = .ok (.getfield 120, 3) := by decide +kernel
theorem dX12_restore_75 : decode cX12_restore 75 = .ok (.bipush 19, 2) := by decide +kernel
theorem dX12_restore_77 : decode cX12_restore 77 = .ok (.iload_n 1, 1) := by decide +kernel
theorem dX12_restore_78 : decode cX12_restore 78 = .ok (.imul, 1) := by decide +kernel
theorem dX12_restore_79 : decode cX12_restore 79 = .ok (.iload_n 2, 1) := by decide +kernel
theorem dX12_restore_80 : decode cX12_restore 80 = .ok (.iadd, 1) := by decide +kernel
theorem dX12_restore_81 : decode cX12_restore 81 = .ok (.laload, 1) := by decide +kernel
theorem dX12_restore_82 : decode cX12_restore 82 = .ok (.lastore, 1) := by decide +kernel
theorem dX12_restore_83 : decode cX12_restore 83 = .ok (.iinc 2 1, 3) := by decide +kernel
theorem dX12_restore_86 : decode cX12_restore 86 = .ok (.goto (-26), 3) := by decide +kernel
theorem dX12_restore_89 : decode cX12_restore 89 = .ok (.aload_n 0, 1) := by decide +kernel
theorem dX12_restore_90 : decode cX12_restore 90 = .ok (.iconst 0, 1) := by decide +kernel
theorem dX12_restore_91 : decode cX12_restore 91 = .ok (.putfield 234, 3) := by decide +kernel
theorem dX12_restore_94 : decode cX12_restore 94 = .ok (.iconst 1, 1) := by decide +kernel
theorem dX12_restore_95 : decode cX12_restore 95 = .ok (.ireturn, 1) := by decide +kernel
def f_X12_restore_60 (k60 : XM → Int32 → Int32 → Option (Int32 × XM)) (w0 : XM) (l1 : Int32) (l2 : Int32) : Option (Int32 × XM) :=
  if ((19 : Int32) : Int32) ≤ l2 then
  (x_lt (x_si w0 0 24 (0 : Int32)) (fun m1 =>
  some ((1 : Int32), m1)))
  else (x_ck (((19 : Int32) * l1) + l2) 38 (
  x_ck l2 19 (
  x_lt (x_pl w0 7 l2 (x_gl w0 9 (((19 : Int32) * l1) + l2))) (fun m2 =>
  k60 m2 l1 (l2 + 1)))))
def f_X12_restore_27 (k27 : XM → Int32 → Int32 → Option (Int32 × XM)) (w0 : XM) (l1 : Int32) (l2 : Int32) : Option (Int32 × XM) :=
  if ((353 : Int32) : Int32) ≤ l2 then
  (x_lp (φ := XM → Int32 → Int32 → Option (Int32 × XM)) (fun _ _ _ => none) (f_X12_restore_60  ) x_NN w0 l1 (0 : Int32))
  else (x_ck (((353 : Int32) * l1) + l2) 706 (
  x_ck l2 353 (
  x_lt (x_pa w0 2 l2 (x_ga w0 4 (((353 : Int32) * l1) + l2))) (fun m3 =>
  k27 m3 l1 (l2 + 1)))))
def f_X12_restore (v0 : XM) (x0 : Int32) : Option (Int32 × XM) :=
  x_lt (x_si v0 0 0 (0 : Int32)) (fun m4 =>
  x_lt (f_X12_isIn x0 (0 : Int32) (1 : Int32)) (fun y5 =>
  if y5 = (0 : Int32) then
  (some ((0 : Int32), m4))
  else (x_ck x0 2 (
  if (x_ga m4 10 x0) = (0 : Int32) then
  (some ((0 : Int32), m4))
  else (x_lp (φ := XM → Int32 → Int32 → Option (Int32 × XM)) (fun _ _ _ => none) (f_X12_restore_27  ) x_NN m4 x0 (0 : Int32))))))
set_option maxRecDepth 100000 in
set_option maxHeartbeats 4000000 in
theorem w_X12_restore_60 {p : Program} {l : Launch} {e : Env} {s : State} {m : MethodId} {args : Array Value} {below : List Frame} {meth : Method} {c : Code} {D : va_G} {tc : Nat → ClassId} {aK aV : Nat → Nat} {A : Nat → Prop} {ad0 : Nat → Nat}  (X : Cx p s m args meth c cX12_restore 3 (some .boolean) RX12 D tc aK aV A [(shModel, ad0)])  {o : Int32 × XM}  : ∀ (n : Nat), ∀ (w0 : XM) (l1 : Int32) (l2 : Int32), x_lp (φ := XM → Int32 → Int32 → Option (Int32 × XM)) (fun _ _ _ => none) (f_X12_restore_60  ) n w0 l1 l2 = some o → aW p l e (x_Rm 1) s m args below meth c D tc A 3 [(shModel, ad0)] (some (.int o.1)) (x_Z o.1) [o.2] 60 [(0, .ref (ad0 0)), (1, .int l1), (2, .int l2)] [] [w0] := by
  intro n
  induction n with
  | zero => intro w0 l1 l2 h; exact absurd h (fun q => by cases q)
  | succ n ih =>
    intro w0 l1 l2 h
    have h : f_X12_restore_60   (x_lp (φ := XM → Int32 → Int32 → Option (Int32 × XM)) (fun _ _ _ => none) (f_X12_restore_60  ) n) w0 l1 l2 = some o := h
    generalize x_lp (φ := XM → Int32 → Int32 → Option (Int32 × XM)) (fun _ _ _ => none) (f_X12_restore_60  ) n = k60 at h ih
    have hk60 := ih
    unfold f_X12_restore_60 at h
    refine a_iload_n (pc := 60) X 2 dX12_restore_60 rfl rfl ?_
    refine a_bipush (pc := 61) X dX12_restore_61 q_bp_19 ?_
    refine a_icmp_ge (pc := 63) X 89 dX12_restore_63 rfl (fun c_63 => ?_) (fun c_63 => ?_)
    · have h := x_ifp c_63 h
      refine a_aload_n (pc := 89) X 0 dX12_restore_89 rfl rfl ?_
      refine a_iconst (pc := 90) X dX12_restore_90 q_ic_0 ?_
      refine a_putI (pc := 91) X 0 fl_RX12_234 rfl rfl rfl rfl dX12_restore_91 ?_
      obtain ⟨m1, e_m1, h⟩ := x_lt_elim h
      refine a_nm (vs2 := [m1]) (congrArg (fun q : XM => [q]) e_m1) ?_
      refine a_iconst (pc := 94) X dX12_restore_94 q_ic_1 ?_
      have h := Option.some.inj h; subst h
      exact a_zret (pc := 95) X x_Z1 x_Z1 dX12_restore_95
    · have h := x_ifn c_63 h
      refine a_aload_n (pc := 66) X 0 dX12_restore_66 rfl rfl ?_
      refine a_getR (pc := 67) X 0 7 7 fl_RX12_113 rfl rfl rfl rfl rfl dX12_restore_67 ?_
      refine a_iload_n (pc := 70) X 2 dX12_restore_70 rfl rfl ?_
      refine a_aload_n (pc := 71) X 0 dX12_restore_71 rfl rfl ?_
      refine a_getR (pc := 72) X 0 9 9 fl_RX12_120 rfl rfl rfl rfl rfl dX12_restore_72 ?_
      refine a_bipush (pc := 75) X dX12_restore_75 q_bp_19 ?_
      refine a_iload_n (pc := 77) X 1 dX12_restore_77 rfl rfl ?_
      refine a_imul (pc := 78) X dX12_restore_78 ?_
      refine a_iload_n (pc := 79) X 2 dX12_restore_79 rfl rfl ?_
      refine a_iadd (pc := 80) X dX12_restore_80 ?_
      obtain ⟨c_81, h⟩ := x_ck_elim h
      refine a_lald (pc := 81) X 0 rfl rfl rfl c_81 dX12_restore_81 ?_
      obtain ⟨c_82, h⟩ := x_ck_elim h
      refine a_last (pc := 82) X 0 rfl rfl rfl c_82 dX12_restore_82 ?_
      obtain ⟨m2, e_m2, h⟩ := x_lt_elim h
      refine a_nm (vs2 := [m2]) (congrArg (fun q : XM => [q]) e_m2) ?_
      refine a_iinc (pc := 83) X 2 [(2, .int (l2 + 1)), (0, .ref (ad0 0)), (1, .int l1)] dX12_restore_83 rfl (congrArg (HAdd.hAdd l2) q_ic_1) (by decide) rfl ?_
      refine a_goto (pc := 86) X 60 dX12_restore_86 rfl ?_
      refine a_sub [1, 2, 0] rfl ?_
      exact hk60 _ _ _ h
set_option maxRecDepth 100000 in
set_option maxHeartbeats 4000000 in
theorem w_X12_restore_27 {p : Program} {l : Launch} {e : Env} {s : State} {m : MethodId} {args : Array Value} {below : List Frame} {meth : Method} {c : Code} {D : va_G} {tc : Nat → ClassId} {aK aV : Nat → Nat} {A : Nat → Prop} {ad0 : Nat → Nat}  (X : Cx p s m args meth c cX12_restore 3 (some .boolean) RX12 D tc aK aV A [(shModel, ad0)])  {o : Int32 × XM}  : ∀ (n : Nat), ∀ (w0 : XM) (l1 : Int32) (l2 : Int32), x_lp (φ := XM → Int32 → Int32 → Option (Int32 × XM)) (fun _ _ _ => none) (f_X12_restore_27  ) n w0 l1 l2 = some o → aW p l e (x_Rm 1) s m args below meth c D tc A 3 [(shModel, ad0)] (some (.int o.1)) (x_Z o.1) [o.2] 27 [(0, .ref (ad0 0)), (1, .int l1), (2, .int l2)] [] [w0] := by
  intro n
  induction n with
  | zero => intro w0 l1 l2 h; exact absurd h (fun q => by cases q)
  | succ n ih =>
    intro w0 l1 l2 h
    have h : f_X12_restore_27   (x_lp (φ := XM → Int32 → Int32 → Option (Int32 × XM)) (fun _ _ _ => none) (f_X12_restore_27  ) n) w0 l1 l2 = some o := h
    generalize x_lp (φ := XM → Int32 → Int32 → Option (Int32 × XM)) (fun _ _ _ => none) (f_X12_restore_27  ) n = k27 at h ih
    have hk27 := ih
    unfold f_X12_restore_27 at h
    refine a_iload_n (pc := 27) X 2 dX12_restore_27 rfl rfl ?_
    refine a_sipush (pc := 28) X dX12_restore_28 q_sp_353 ?_
    refine a_icmp_ge (pc := 31) X 58 dX12_restore_31 rfl (fun c_31 => ?_) (fun c_31 => ?_)
    · have h := x_ifp c_31 h
      refine a_iconst (pc := 58) X dX12_restore_58 q_ic_0 ?_
      refine a_istore_n (pc := 59) X [(2, .int (0 : Int32)), (0, .ref (ad0 0)), (1, .int l1)] dX12_restore_59 rfl (by decide) rfl ?_
      refine a_sub [1, 2, 0] rfl ?_
      exact w_X12_restore_60 X    x_NN _ _ _ h
    · have h := x_ifn c_31 h
      refine a_aload_n (pc := 34) X 0 dX12_restore_34 rfl rfl ?_
      refine a_getR (pc := 35) X 0 2 2 fl_RX12_98 rfl rfl rfl rfl rfl dX12_restore_35 ?_
      refine a_iload_n (pc := 38) X 2 dX12_restore_38 rfl rfl ?_
      refine a_aload_n (pc := 39) X 0 dX12_restore_39 rfl rfl ?_
      refine a_getR (pc := 40) X 0 4 4 fl_RX12_104 rfl rfl rfl rfl rfl dX12_restore_40 ?_
      refine a_sipush (pc := 43) X dX12_restore_43 q_sp_353 ?_
      refine a_iload_n (pc := 46) X 1 dX12_restore_46 rfl rfl ?_
      refine a_imul (pc := 47) X dX12_restore_47 ?_
      refine a_iload_n (pc := 48) X 2 dX12_restore_48 rfl rfl ?_
      refine a_iadd (pc := 49) X dX12_restore_49 ?_
      obtain ⟨c_50, h⟩ := x_ck_elim h
      refine a_iald (pc := 50) X 0 rfl rfl rfl c_50 dX12_restore_50 ?_
      obtain ⟨c_51, h⟩ := x_ck_elim h
      refine a_iast (pc := 51) X 0 rfl rfl rfl c_51 dX12_restore_51 ?_
      obtain ⟨m3, e_m3, h⟩ := x_lt_elim h
      refine a_nm (vs2 := [m3]) (congrArg (fun q : XM => [q]) e_m3) ?_
      refine a_iinc (pc := 52) X 2 [(2, .int (l2 + 1)), (0, .ref (ad0 0)), (1, .int l1)] dX12_restore_52 rfl (congrArg (HAdd.hAdd l2) q_ic_1) (by decide) rfl ?_
      refine a_goto (pc := 55) X 27 dX12_restore_55 rfl ?_
      refine a_sub [1, 2, 0] rfl ?_
      exact hk27 _ _ _ h
set_option maxRecDepth 100000 in
set_option maxHeartbeats 4000000 in
theorem c_X12_restore {l : Launch}  {ad0 : Nat → Nat} {v0 : XM} {x0 : Int32}  {o : Int32 × XM} (h : f_X12_restore v0 x0 = some o) : CT l yX12_restore cX12_restore 3 (some .boolean) 1 [(shModel, ad0)] [v0] (fun aK => [.ref (ad0 0), .int x0]) (some (.int o.1)) (x_Z o.1) [o.2] := by
  refine CT_of (by decide) (fun _ => Nat.le_of_ble_eq_true rfl) ?_
  intro p e s m args below meth c D tc aK aV A X
  have X : Cx p s m args meth c cX12_restore 3 (some .boolean) RX12 D tc aK aV A [(shModel, ad0)] := X
  show aW p l e (x_Rm 1) s m args below meth c D tc A 3 [(shModel, ad0)] (some (.int o.1)) (x_Z o.1) [o.2] 0 [(0, .ref (ad0 0)), (1, .int x0)] [] [v0]
  unfold f_X12_restore at h
  refine a_aload_n (pc := 0) X 0 dX12_restore_0 rfl rfl ?_
  refine a_iconst (pc := 1) X dX12_restore_1 q_ic_0 ?_
  refine a_putI (pc := 2) X 0 fl_RX12_1 rfl rfl rfl rfl dX12_restore_2 ?_
  obtain ⟨m4, e_m4, h⟩ := x_lt_elim h
  refine a_nm (vs2 := [m4]) (congrArg (fun q : XM => [q]) e_m4) ?_
  refine a_iload_n (pc := 5) X 1 dX12_restore_5 rfl rfl ?_
  refine a_iconst (pc := 6) X dX12_restore_6 q_ic_0 ?_
  refine a_iconst (pc := 7) X dX12_restore_7 q_ic_1 ?_
  obtain ⟨y5, e_y5, h⟩ := x_lt_elim h
  refine a_callS (pc := 8) (st2 := [.int y5]) (vs2 := [m4]) X [] [] [.int x0, .int (0 : Int32), .int (1 : Int32)] [] cv_RX12_75 (c_X12_isIn   e_y5) rfl rfl rfl rfl rfl rfl rfl rfl rfl rfl rfl (Nat.le_of_ble_eq_true rfl) ⟨Nat.le_of_ble_eq_true rfl, Nat.le_of_ble_eq_true rfl⟩ dX12_restore_8 (fun z_8 => ?_)
  refine a_if_eq (pc := 11) X 23 dX12_restore_11 rfl (fun c_11 => ?_) (fun c_11 => ?_)
  · have h := x_ifp c_11 h
    refine a_iconst (pc := 23) X dX12_restore_23 q_ic_0 ?_
    have h := Option.some.inj h; subst h
    exact a_zret (pc := 24) X x_Z0 x_Z0 dX12_restore_24
  · have h := x_ifn c_11 h
    refine a_aload_n (pc := 14) X 0 dX12_restore_14 rfl rfl ?_
    refine a_getR (pc := 15) X 0 10 10 fl_RX12_123 rfl rfl rfl rfl rfl dX12_restore_15 ?_
    refine a_iload_n (pc := 18) X 1 dX12_restore_18 rfl rfl ?_
    obtain ⟨c_19, h⟩ := x_ck_elim h
    refine a_zald (pc := 19) X 0 rfl rfl rfl c_19 dX12_restore_19 ?_
    refine a_if_ne (pc := 20) X 25 dX12_restore_20 rfl (fun c_20 => ?_) (fun c_20 => ?_)
    · have h := x_ifn c_20 h
      refine a_iconst (pc := 25) X dX12_restore_25 q_ic_0 ?_
      refine a_istore_n (pc := 26) X [(2, .int (0 : Int32)), (0, .ref (ad0 0)), (1, .int x0)] dX12_restore_26 rfl (by decide) rfl ?_
      refine a_sub [1, 2, 0] rfl ?_
      exact w_X12_restore_27 X    x_NN _ _ _ h
    · have h := x_ifp c_20 h
      refine a_iconst (pc := 23) X dX12_restore_23 q_ic_0 ?_
      have h := Option.some.inj h; subst h
      exact a_zret (pc := 24) X x_Z0 x_Z0 dX12_restore_24
theorem dX12_count_0 : decode cX12_count 0 = .ok (.aload_n 0, 1) := by decide +kernel
theorem dX12_count_1 : decode cX12_count 1 = .ok (.iconst 0, 1) := by decide +kernel
theorem dX12_count_2 : decode cX12_count 2 = .ok (.putfield 1, 3) := by decide +kernel
theorem dX12_count_5 : decode cX12_count 5 = .ok (.iload_n 1, 1) := by decide +kernel
theorem dX12_count_6 : decode cX12_count 6 = .ok (.tableswitch 78 0 5 #[38, 45, 52, 59, 66, 73], 38) := by decide +kernel
theorem dX12_count_44 : decode cX12_count 44 = .ok (.aload_n 0, 1) := by decide +kernel
theorem dX12_count_45 : decode cX12_count 45 = .ok (.getfield 98, 3) := by decide +kernel
theorem dX12_count_48 : decode cX12_count 48 = .ok (.iconst 0, 1) := by decide +kernel
theorem dX12_count_49 : decode cX12_count 49 = .ok (.iaload, 1) := by decide +kernel
theorem dX12_count_50 : decode cX12_count 50 = .ok (.ireturn, 1) := by decide +kernel
theorem dX12_count_51 : decode cX12_count 51 = .ok (.aload_n 0, 1) := by decide +kernel
theorem dX12_count_52 : decode cX12_count 52 = .ok (.getfield 98, 3) := by decide +kernel
theorem dX12_count_55 : decode cX12_count 55 = .ok (.iconst 1, 1) := by decide +kernel
theorem dX12_count_56 : decode cX12_count 56 = .ok (.iaload, 1) := by decide +kernel
theorem dX12_count_57 : decode cX12_count 57 = .ok (.ireturn, 1) := by decide +kernel
theorem dX12_count_58 : decode cX12_count 58 = .ok (.aload_n 0, 1) := by decide +kernel
theorem dX12_count_59 : decode cX12_count 59 = .ok (.getfield 98, 3) := by decide +kernel
theorem dX12_count_62 : decode cX12_count 62 = .ok (.iconst 2, 1) := by decide +kernel
theorem dX12_count_63 : decode cX12_count 63 = .ok (.iaload, 1) := by decide +kernel
theorem dX12_count_64 : decode cX12_count 64 = .ok (.ireturn, 1) := by decide +kernel
theorem dX12_count_65 : decode cX12_count 65 = .ok (.aload_n 0, 1) := by decide +kernel
theorem dX12_count_66 : decode cX12_count 66 = .ok (.getfield 98, 3) := by decide +kernel
theorem dX12_count_69 : decode cX12_count 69 = .ok (.iconst 3, 1) := by decide +kernel
theorem dX12_count_70 : decode cX12_count 70 = .ok (.iaload, 1) := by decide +kernel
theorem dX12_count_71 : decode cX12_count 71 = .ok (.ireturn, 1) := by decide +kernel
theorem dX12_count_72 : decode cX12_count 72 = .ok (.aload_n 0, 1) := by decide +kernel
theorem dX12_count_73 : decode cX12_count 73 = .ok (.getfield 98, 3) := by decide +kernel
theorem dX12_count_76 : decode cX12_count 76 = .ok (.iconst 4, 1) := by decide +kernel
theorem dX12_count_77 : decode cX12_count 77 = .ok (.iaload, 1) := by decide +kernel
theorem dX12_count_78 : decode cX12_count 78 = .ok (.ireturn, 1) := by decide +kernel
theorem dX12_count_79 : decode cX12_count 79 = .ok (.aload_n 0, 1) := by decide +kernel
theorem dX12_count_80 : decode cX12_count 80 = .ok (.getfield 11, 3) := by decide +kernel
theorem dX12_count_83 : decode cX12_count 83 = .ok (.ireturn, 1) := by decide +kernel
theorem dX12_count_84 : decode cX12_count 84 = .ok (.iconst (-1), 1) := by decide +kernel
theorem dX12_count_85 : decode cX12_count 85 = .ok (.ireturn, 1) := by decide +kernel
def f_X12_count (v0 : XM) (x0 : Int32) : Int32 × XM :=
  x_lt (x_si v0 0 0 (0 : Int32)) (fun m1 =>
  if x0 = (0 : Int32) then
  ((x_ga m1 2 (0 : Int32), m1))
  else (if x0 = (1 : Int32) then
  ((x_ga m1 2 (1 : Int32), m1))
  else (if x0 = (2 : Int32) then
  ((x_ga m1 2 (2 : Int32), m1))
  else (if x0 = (3 : Int32) then
  ((x_ga m1 2 (3 : Int32), m1))
  else (if x0 = (4 : Int32) then
  ((x_ga m1 2 (4 : Int32), m1))
  else (if x0 = (5 : Int32) then
  ((m1.1 0 2, m1))
  else (((-1 : Int32), m1))))))))
set_option maxRecDepth 100000 in
set_option maxHeartbeats 4000000 in
theorem c_X12_count {l : Launch}  {ad0 : Nat → Nat} {v0 : XM} {x0 : Int32}  {o : Int32 × XM} (h : f_X12_count v0 x0 = o) : CT l yX12_count cX12_count 2 (some .int) 0 [(shModel, ad0)] [v0] (fun aK => [.ref (ad0 0), .int x0]) (some (.int o.1)) True [o.2] := by
  refine CT_of (by decide) (fun _ => Nat.le_of_ble_eq_true rfl) ?_
  intro p e s m args below meth c D tc aK aV A X
  have X : Cx p s m args meth c cX12_count 2 (some .int) RX12 D tc aK aV A [(shModel, ad0)] := X
  show aW p l e (x_Rm 0) s m args below meth c D tc A 2 [(shModel, ad0)] (some (.int o.1)) True [o.2] 0 [(0, .ref (ad0 0)), (1, .int x0)] [] [v0]
  unfold f_X12_count at h
  refine a_aload_n (pc := 0) X 0 dX12_count_0 rfl rfl ?_
  refine a_iconst (pc := 1) X dX12_count_1 q_ic_0 ?_
  refine a_putI (pc := 2) X 0 fl_RX12_1 rfl rfl rfl rfl dX12_count_2 ?_
  obtain ⟨m1, e_m1, h⟩ := x_lt_elim h
  refine a_nm (vs2 := [m1]) (congrArg (fun q : XM => [q]) e_m1) ?_
  refine a_iload_n (pc := 5) X 1 dX12_count_5 rfl rfl ?_
  by_cases c_6_0 : x0 = (0 : Int32)
  · have h := x_ifp c_6_0 h
    refine a_tin (pc := 6) X 44 dX12_count_6 c_6_0 (by decide) (by decide) rfl rfl ?_
    refine a_aload_n (pc := 44) X 0 dX12_count_44 rfl rfl ?_
    refine a_getR (pc := 45) X 0 2 2 fl_RX12_98 rfl rfl rfl rfl rfl dX12_count_45 ?_
    refine a_iconst (pc := 48) X dX12_count_48 q_ic_0 ?_
    refine a_iald (pc := 49) X 0 rfl rfl rfl (x_inl (by decide)) dX12_count_49 ?_
    subst h
    exact a_iret (pc := 50) X trivial dX12_count_50
  · have h := x_ifn c_6_0 h
    by_cases c_6_1 : x0 = (1 : Int32)
    · have h := x_ifp c_6_1 h
      refine a_tin (pc := 6) X 51 dX12_count_6 c_6_1 (by decide) (by decide) rfl rfl ?_
      refine a_aload_n (pc := 51) X 0 dX12_count_51 rfl rfl ?_
      refine a_getR (pc := 52) X 0 2 2 fl_RX12_98 rfl rfl rfl rfl rfl dX12_count_52 ?_
      refine a_iconst (pc := 55) X dX12_count_55 q_ic_1 ?_
      refine a_iald (pc := 56) X 0 rfl rfl rfl (x_inl (by decide)) dX12_count_56 ?_
      subst h
      exact a_iret (pc := 57) X trivial dX12_count_57
    · have h := x_ifn c_6_1 h
      by_cases c_6_2 : x0 = (2 : Int32)
      · have h := x_ifp c_6_2 h
        refine a_tin (pc := 6) X 58 dX12_count_6 c_6_2 (by decide) (by decide) rfl rfl ?_
        refine a_aload_n (pc := 58) X 0 dX12_count_58 rfl rfl ?_
        refine a_getR (pc := 59) X 0 2 2 fl_RX12_98 rfl rfl rfl rfl rfl dX12_count_59 ?_
        refine a_iconst (pc := 62) X dX12_count_62 q_ic_2 ?_
        refine a_iald (pc := 63) X 0 rfl rfl rfl (x_inl (by decide)) dX12_count_63 ?_
        subst h
        exact a_iret (pc := 64) X trivial dX12_count_64
      · have h := x_ifn c_6_2 h
        by_cases c_6_3 : x0 = (3 : Int32)
        · have h := x_ifp c_6_3 h
          refine a_tin (pc := 6) X 65 dX12_count_6 c_6_3 (by decide) (by decide) rfl rfl ?_
          refine a_aload_n (pc := 65) X 0 dX12_count_65 rfl rfl ?_
          refine a_getR (pc := 66) X 0 2 2 fl_RX12_98 rfl rfl rfl rfl rfl dX12_count_66 ?_
          refine a_iconst (pc := 69) X dX12_count_69 q_ic_3 ?_
          refine a_iald (pc := 70) X 0 rfl rfl rfl (x_inl (by decide)) dX12_count_70 ?_
          subst h
          exact a_iret (pc := 71) X trivial dX12_count_71
        · have h := x_ifn c_6_3 h
          by_cases c_6_4 : x0 = (4 : Int32)
          · have h := x_ifp c_6_4 h
            refine a_tin (pc := 6) X 72 dX12_count_6 c_6_4 (by decide) (by decide) rfl rfl ?_
            refine a_aload_n (pc := 72) X 0 dX12_count_72 rfl rfl ?_
            refine a_getR (pc := 73) X 0 2 2 fl_RX12_98 rfl rfl rfl rfl rfl dX12_count_73 ?_
            refine a_iconst (pc := 76) X dX12_count_76 q_ic_4 ?_
            refine a_iald (pc := 77) X 0 rfl rfl rfl (x_inl (by decide)) dX12_count_77 ?_
            subst h
            exact a_iret (pc := 78) X trivial dX12_count_78
          · have h := x_ifn c_6_4 h
            by_cases c_6_5 : x0 = (5 : Int32)
            · have h := x_ifp c_6_5 h
              refine a_tin (pc := 6) X 79 dX12_count_6 c_6_5 (by decide) (by decide) rfl rfl ?_
              refine a_aload_n (pc := 79) X 0 dX12_count_79 rfl rfl ?_
              refine a_getI (pc := 80) X 0 fl_RX12_11 rfl rfl rfl rfl dX12_count_80 ?_
              subst h
              exact a_iret (pc := 83) X trivial dX12_count_83
            · have h := x_ifn c_6_5 h
              refine a_tout (pc := 6) X 84 dX12_count_6 (by have q0 := x_ne c_6_0; have q1 := x_ne c_6_1; have q2 := x_ne c_6_2; have q3 := x_ne c_6_3; have q4 := x_ne c_6_4; have q5 := x_ne c_6_5; have q0 : (x0 : Int32).toInt ≠ 0 := q0; have q1 : (x0 : Int32).toInt ≠ 1 := q1; have q2 : (x0 : Int32).toInt ≠ 2 := q2; have q3 : (x0 : Int32).toInt ≠ 3 := q3; have q4 : (x0 : Int32).toInt ≠ 4 := q4; have q5 : (x0 : Int32).toInt ≠ 5 := q5; omega) rfl ?_
              refine a_iconst (pc := 84) X dX12_count_84 q_ic_m1 ?_
              subst h
              exact a_iret (pc := 85) X trivial dX12_count_85
