-- The law: its instructions; its loop in functional form (wip/whole/lawgen.py).
theorem dL_law_0 : decode code 0 = .ok (.new 8, 3) := by decide +kernel
theorem dL_law_3 : decode code 3 = .ok (.dup, 1) := by decide +kernel
theorem dL_law_4 : decode code 4 = .ok (.invokespecial 18, 3) := by decide +kernel
theorem dL_law_7 : decode code 7 = .ok (.astore_n 1, 1) := by decide +kernel
theorem dL_law_8 : decode code 8 = .ok (.new 19, 3) := by decide +kernel
theorem dL_law_11 : decode code 11 = .ok (.dup, 1) := by decide +kernel
theorem dL_law_12 : decode code 12 = .ok (.invokespecial 21, 3) := by decide +kernel
theorem dL_law_15 : decode code 15 = .ok (.astore_n 2, 1) := by decide +kernel
theorem dL_law_16 : decode code 16 = .ok (.iconst 1, 1) := by decide +kernel
theorem dL_law_17 : decode code 17 = .ok (.newarray .long, 2) := by decide +kernel
theorem dL_law_19 : decode code 19 = .ok (.astore_n 3, 1) := by decide +kernel
theorem dL_law_20 : decode code 20 = .ok (.iconst 0, 1) := by decide +kernel
theorem dL_law_21 : decode code 21 = .ok (.istore 4, 2) := by decide +kernel
theorem dL_law_23 : decode code 23 = .ok (.iload 4, 2) := by decide +kernel
theorem dL_law_25 : decode code 25 = .ok (.aload_n 0, 1) := by decide +kernel
theorem dL_law_26 : decode code 26 = .ok (.arraylength, 1) := by decide +kernel
theorem dL_law_27 : decode code 27 = .ok (.bipush 6, 2) := by decide +kernel
theorem dL_law_29 : decode code 29 = .ok (.isub, 1) := by decide +kernel
theorem dL_law_30 : decode code 30 = .ok (.if_icmp .gt 1403, 3) := by decide +kernel
theorem dL_law_33 : decode code 33 = .ok (.aload_n 0, 1) := by decide +kernel
theorem dL_law_34 : decode code 34 = .ok (.iload 4, 2) := by decide +kernel
theorem dL_law_36 : decode code 36 = .ok (.iaload, 1) := by decide +kernel
theorem dL_law_37 : decode code 37 = .ok (.bipush 63, 2) := by decide +kernel
theorem dL_law_39 : decode code 39 = .ok (.iand, 1) := by decide +kernel
theorem dL_law_40 : decode code 40 = .ok (.tableswitch 1387 0 40 #[180, 253, 278, 291, 304, 372, 409, 446, 471, 508, 545, 582, 607, 632, 669, 694, 719, 732, 769, 806, 831, 856, 881, 906, 943, 956, 981, 994, 1007, 1020, 1088, 1113, 1138, 1175, 1224, 1249, 1274, 1287, 1312, 1337, 1362], 180) := by decide +kernel
theorem dL_law_220 : decode code 220 = .ok (.aload_n 1, 1) := by decide +kernel
theorem dL_law_221 : decode code 221 = .ok (.aload_n 0, 1) := by decide +kernel
theorem dL_law_222 : decode code 222 = .ok (.iload 4, 2) := by decide +kernel
theorem dL_law_224 : decode code 224 = .ok (.iconst 1, 1) := by decide +kernel
theorem dL_law_225 : decode code 225 = .ok (.iadd, 1) := by decide +kernel
theorem dL_law_226 : decode code 226 = .ok (.iaload, 1) := by decide +kernel
theorem dL_law_227 : decode code 227 = .ok (.aload_n 0, 1) := by decide +kernel
theorem dL_law_228 : decode code 228 = .ok (.iload 4, 2) := by decide +kernel
theorem dL_law_230 : decode code 230 = .ok (.iconst 2, 1) := by decide +kernel
theorem dL_law_231 : decode code 231 = .ok (.iadd, 1) := by decide +kernel
theorem dL_law_232 : decode code 232 = .ok (.iaload, 1) := by decide +kernel
theorem dL_law_233 : decode code 233 = .ok (.aload_n 0, 1) := by decide +kernel
theorem dL_law_234 : decode code 234 = .ok (.iload 4, 2) := by decide +kernel
theorem dL_law_236 : decode code 236 = .ok (.iconst 3, 1) := by decide +kernel
theorem dL_law_237 : decode code 237 = .ok (.iadd, 1) := by decide +kernel
theorem dL_law_238 : decode code 238 = .ok (.iaload, 1) := by decide +kernel
theorem dL_law_239 : decode code 239 = .ok (.aload_n 0, 1) := by decide +kernel
theorem dL_law_240 : decode code 240 = .ok (.iload 4, 2) := by decide +kernel
theorem dL_law_242 : decode code 242 = .ok (.iconst 4, 1) := by decide +kernel
theorem dL_law_243 : decode code 243 = .ok (.iadd, 1) := by decide +kernel
theorem dL_law_244 : decode code 244 = .ok (.iaload, 1) := by decide +kernel
theorem dL_law_245 : decode code 245 = .ok (.aload_n 0, 1) := by decide +kernel
theorem dL_law_246 : decode code 246 = .ok (.iload 4, 2) := by decide +kernel
theorem dL_law_248 : decode code 248 = .ok (.iconst 5, 1) := by decide +kernel
theorem dL_law_249 : decode code 249 = .ok (.iadd, 1) := by decide +kernel
theorem dL_law_250 : decode code 250 = .ok (.iaload, 1) := by decide +kernel
theorem dL_law_251 : decode code 251 = .ok (.invokevirtual 22, 3) := by decide +kernel
theorem dL_law_254 : decode code 254 = .ok (.aload_n 2, 1) := by decide +kernel
theorem dL_law_255 : decode code 255 = .ok (.aload_n 0, 1) := by decide +kernel
theorem dL_law_256 : decode code 256 = .ok (.iload 4, 2) := by decide +kernel
theorem dL_law_258 : decode code 258 = .ok (.iconst 1, 1) := by decide +kernel
theorem dL_law_259 : decode code 259 = .ok (.iadd, 1) := by decide +kernel
theorem dL_law_260 : decode code 260 = .ok (.iaload, 1) := by decide +kernel
theorem dL_law_261 : decode code 261 = .ok (.aload_n 0, 1) := by decide +kernel
theorem dL_law_262 : decode code 262 = .ok (.iload 4, 2) := by decide +kernel
theorem dL_law_264 : decode code 264 = .ok (.iconst 2, 1) := by decide +kernel
theorem dL_law_265 : decode code 265 = .ok (.iadd, 1) := by decide +kernel
theorem dL_law_266 : decode code 266 = .ok (.iaload, 1) := by decide +kernel
theorem dL_law_267 : decode code 267 = .ok (.aload_n 0, 1) := by decide +kernel
theorem dL_law_268 : decode code 268 = .ok (.iload 4, 2) := by decide +kernel
theorem dL_law_270 : decode code 270 = .ok (.iconst 3, 1) := by decide +kernel
theorem dL_law_271 : decode code 271 = .ok (.iadd, 1) := by decide +kernel
theorem dL_law_272 : decode code 272 = .ok (.iaload, 1) := by decide +kernel
theorem dL_law_273 : decode code 273 = .ok (.aload_n 0, 1) := by decide +kernel
theorem dL_law_274 : decode code 274 = .ok (.iload 4, 2) := by decide +kernel
theorem dL_law_276 : decode code 276 = .ok (.iconst 4, 1) := by decide +kernel
theorem dL_law_277 : decode code 277 = .ok (.iadd, 1) := by decide +kernel
theorem dL_law_278 : decode code 278 = .ok (.iaload, 1) := by decide +kernel
theorem dL_law_279 : decode code 279 = .ok (.aload_n 0, 1) := by decide +kernel
theorem dL_law_280 : decode code 280 = .ok (.iload 4, 2) := by decide +kernel
theorem dL_law_282 : decode code 282 = .ok (.iconst 5, 1) := by decide +kernel
theorem dL_law_283 : decode code 283 = .ok (.iadd, 1) := by decide +kernel
theorem dL_law_284 : decode code 284 = .ok (.iaload, 1) := by decide +kernel
theorem dL_law_285 : decode code 285 = .ok (.invokevirtual 26, 3) := by decide +kernel
theorem dL_law_288 : decode code 288 = .ok (.if_icmp .eq 1139, 3) := by decide +kernel
theorem dL_law_291 : decode code 291 = .ok (.iconst 0, 1) := by decide +kernel
theorem dL_law_292 : decode code 292 = .ok (.ireturn, 1) := by decide +kernel
theorem dL_law_293 : decode code 293 = .ok (.aload_n 1, 1) := by decide +kernel
theorem dL_law_294 : decode code 294 = .ok (.aload_n 0, 1) := by decide +kernel
theorem dL_law_295 : decode code 295 = .ok (.iload 4, 2) := by decide +kernel
theorem dL_law_297 : decode code 297 = .ok (.iconst 1, 1) := by decide +kernel
theorem dL_law_298 : decode code 298 = .ok (.iadd, 1) := by decide +kernel
theorem dL_law_299 : decode code 299 = .ok (.iaload, 1) := by decide +kernel
theorem dL_law_300 : decode code 300 = .ok (.invokevirtual 27, 3) := by decide +kernel
theorem dL_law_303 : decode code 303 = .ok (.aload_n 2, 1) := by decide +kernel
theorem dL_law_304 : decode code 304 = .ok (.aload_n 0, 1) := by decide +kernel
theorem dL_law_305 : decode code 305 = .ok (.iload 4, 2) := by decide +kernel
theorem dL_law_307 : decode code 307 = .ok (.iconst 1, 1) := by decide +kernel
theorem dL_law_308 : decode code 308 = .ok (.iadd, 1) := by decide +kernel
theorem dL_law_309 : decode code 309 = .ok (.iaload, 1) := by decide +kernel
theorem dL_law_310 : decode code 310 = .ok (.invokevirtual 31, 3) := by decide +kernel
theorem dL_law_313 : decode code 313 = .ok (.if_icmp .eq 1114, 3) := by decide +kernel
theorem dL_law_316 : decode code 316 = .ok (.iconst 0, 1) := by decide +kernel
theorem dL_law_317 : decode code 317 = .ok (.ireturn, 1) := by decide +kernel
theorem dL_law_318 : decode code 318 = .ok (.aload_n 1, 1) := by decide +kernel
theorem dL_law_319 : decode code 319 = .ok (.invokevirtual 32, 3) := by decide +kernel
theorem dL_law_322 : decode code 322 = .ok (.aload_n 2, 1) := by decide +kernel
theorem dL_law_323 : decode code 323 = .ok (.invokevirtual 36, 3) := by decide +kernel
theorem dL_law_326 : decode code 326 = .ok (.if_icmp .eq 1101, 3) := by decide +kernel
theorem dL_law_329 : decode code 329 = .ok (.iconst 0, 1) := by decide +kernel
theorem dL_law_330 : decode code 330 = .ok (.ireturn, 1) := by decide +kernel
theorem dL_law_331 : decode code 331 = .ok (.aload_n 1, 1) := by decide +kernel
theorem dL_law_332 : decode code 332 = .ok (.invokevirtual 37, 3) := by decide +kernel
theorem dL_law_335 : decode code 335 = .ok (.aload_n 2, 1) := by decide +kernel
theorem dL_law_336 : decode code 336 = .ok (.invokevirtual 40, 3) := by decide +kernel
theorem dL_law_339 : decode code 339 = .ok (.if_icmp .eq 1088, 3) := by decide +kernel
theorem dL_law_342 : decode code 342 = .ok (.iconst 0, 1) := by decide +kernel
theorem dL_law_343 : decode code 343 = .ok (.ireturn, 1) := by decide +kernel
theorem dL_law_344 : decode code 344 = .ok (.aload_n 1, 1) := by decide +kernel
theorem dL_law_345 : decode code 345 = .ok (.aload_n 0, 1) := by decide +kernel
theorem dL_law_346 : decode code 346 = .ok (.iload 4, 2) := by decide +kernel
theorem dL_law_348 : decode code 348 = .ok (.iconst 1, 1) := by decide +kernel
theorem dL_law_349 : decode code 349 = .ok (.iadd, 1) := by decide +kernel
theorem dL_law_350 : decode code 350 = .ok (.iaload, 1) := by decide +kernel
theorem dL_law_351 : decode code 351 = .ok (.aload_n 0, 1) := by decide +kernel
theorem dL_law_352 : decode code 352 = .ok (.iload 4, 2) := by decide +kernel
theorem dL_law_354 : decode code 354 = .ok (.iconst 2, 1) := by decide +kernel
theorem dL_law_355 : decode code 355 = .ok (.iadd, 1) := by decide +kernel
theorem dL_law_356 : decode code 356 = .ok (.iaload, 1) := by decide +kernel
theorem dL_law_357 : decode code 357 = .ok (.aload_n 3, 1) := by decide +kernel
theorem dL_law_358 : decode code 358 = .ok (.invokestatic 41, 3) := by decide +kernel
theorem dL_law_361 : decode code 361 = .ok (.istore 5, 2) := by decide +kernel
theorem dL_law_363 : decode code 363 = .ok (.aload_n 2, 1) := by decide +kernel
theorem dL_law_364 : decode code 364 = .ok (.aload_n 0, 1) := by decide +kernel
theorem dL_law_365 : decode code 365 = .ok (.iload 4, 2) := by decide +kernel
theorem dL_law_367 : decode code 367 = .ok (.iconst 1, 1) := by decide +kernel
theorem dL_law_368 : decode code 368 = .ok (.iadd, 1) := by decide +kernel
theorem dL_law_369 : decode code 369 = .ok (.iaload, 1) := by decide +kernel
theorem dL_law_370 : decode code 370 = .ok (.aload_n 0, 1) := by decide +kernel
theorem dL_law_371 : decode code 371 = .ok (.iload 4, 2) := by decide +kernel
theorem dL_law_373 : decode code 373 = .ok (.iconst 2, 1) := by decide +kernel
theorem dL_law_374 : decode code 374 = .ok (.iadd, 1) := by decide +kernel
theorem dL_law_375 : decode code 375 = .ok (.iaload, 1) := by decide +kernel
theorem dL_law_376 : decode code 376 = .ok (.invokevirtual 46, 3) := by decide +kernel
theorem dL_law_379 : decode code 379 = .ok (.istore 6, 2) := by decide +kernel
theorem dL_law_381 : decode code 381 = .ok (.aload_n 2, 1) := by decide +kernel
theorem dL_law_382 : decode code 382 = .ok (.invokevirtual 47, 3) := by decide +kernel
theorem dL_law_385 : decode code 385 = .ok (.iload 5, 2) := by decide +kernel
theorem dL_law_387 : decode code 387 = .ok (.if_icmp .eq 5, 3) := by decide +kernel
theorem dL_law_390 : decode code 390 = .ok (.iconst 0, 1) := by decide +kernel
theorem dL_law_391 : decode code 391 = .ok (.ireturn, 1) := by decide +kernel
theorem dL_law_392 : decode code 392 = .ok (.iload 5, 2) := by decide +kernel
theorem dL_law_394 : decode code 394 = .ok (.ifCond .ne 15, 3) := by decide +kernel
theorem dL_law_397 : decode code 397 = .ok (.aload_n 3, 1) := by decide +kernel
theorem dL_law_398 : decode code 398 = .ok (.iconst 0, 1) := by decide +kernel
theorem dL_law_399 : decode code 399 = .ok (.laload, 1) := by decide +kernel
theorem dL_law_400 : decode code 400 = .ok (.iload 6, 2) := by decide +kernel
theorem dL_law_402 : decode code 402 = .ok (.i2l, 1) := by decide +kernel
theorem dL_law_403 : decode code 403 = .ok (.lcmp, 1) := by decide +kernel
theorem dL_law_404 : decode code 404 = .ok (.ifCond .eq 5, 3) := by decide +kernel
theorem dL_law_407 : decode code 407 = .ok (.iconst 0, 1) := by decide +kernel
theorem dL_law_408 : decode code 408 = .ok (.ireturn, 1) := by decide +kernel
theorem dL_law_409 : decode code 409 = .ok (.goto 1018, 3) := by decide +kernel
theorem dL_law_412 : decode code 412 = .ok (.aload_n 1, 1) := by decide +kernel
theorem dL_law_413 : decode code 413 = .ok (.aload_n 0, 1) := by decide +kernel
theorem dL_law_414 : decode code 414 = .ok (.iload 4, 2) := by decide +kernel
theorem dL_law_416 : decode code 416 = .ok (.iconst 1, 1) := by decide +kernel
theorem dL_law_417 : decode code 417 = .ok (.iadd, 1) := by decide +kernel
theorem dL_law_418 : decode code 418 = .ok (.iaload, 1) := by decide +kernel
theorem dL_law_419 : decode code 419 = .ok (.aload_n 0, 1) := by decide +kernel
theorem dL_law_420 : decode code 420 = .ok (.iload 4, 2) := by decide +kernel
theorem dL_law_422 : decode code 422 = .ok (.iconst 2, 1) := by decide +kernel
theorem dL_law_423 : decode code 423 = .ok (.iadd, 1) := by decide +kernel
theorem dL_law_424 : decode code 424 = .ok (.iaload, 1) := by decide +kernel
theorem dL_law_425 : decode code 425 = .ok (.invokevirtual 50, 3) := by decide +kernel
theorem dL_law_428 : decode code 428 = .ok (.aload_n 2, 1) := by decide +kernel
theorem dL_law_429 : decode code 429 = .ok (.aload_n 0, 1) := by decide +kernel
theorem dL_law_430 : decode code 430 = .ok (.iload 4, 2) := by decide +kernel
theorem dL_law_432 : decode code 432 = .ok (.iconst 1, 1) := by decide +kernel
theorem dL_law_433 : decode code 433 = .ok (.iadd, 1) := by decide +kernel
theorem dL_law_434 : decode code 434 = .ok (.iaload, 1) := by decide +kernel
theorem dL_law_435 : decode code 435 = .ok (.aload_n 0, 1) := by decide +kernel
theorem dL_law_436 : decode code 436 = .ok (.iload 4, 2) := by decide +kernel
theorem dL_law_438 : decode code 438 = .ok (.iconst 2, 1) := by decide +kernel
theorem dL_law_439 : decode code 439 = .ok (.iadd, 1) := by decide +kernel
theorem dL_law_440 : decode code 440 = .ok (.iaload, 1) := by decide +kernel
theorem dL_law_441 : decode code 441 = .ok (.invokevirtual 53, 3) := by decide +kernel
theorem dL_law_444 : decode code 444 = .ok (.if_icmp .eq 983, 3) := by decide +kernel
theorem dL_law_447 : decode code 447 = .ok (.iconst 0, 1) := by decide +kernel
theorem dL_law_448 : decode code 448 = .ok (.ireturn, 1) := by decide +kernel
theorem dL_law_449 : decode code 449 = .ok (.aload_n 1, 1) := by decide +kernel
theorem dL_law_450 : decode code 450 = .ok (.aload_n 0, 1) := by decide +kernel
theorem dL_law_451 : decode code 451 = .ok (.iload 4, 2) := by decide +kernel
theorem dL_law_453 : decode code 453 = .ok (.iconst 1, 1) := by decide +kernel
theorem dL_law_454 : decode code 454 = .ok (.iadd, 1) := by decide +kernel
theorem dL_law_455 : decode code 455 = .ok (.iaload, 1) := by decide +kernel
theorem dL_law_456 : decode code 456 = .ok (.aload_n 0, 1) := by decide +kernel
theorem dL_law_457 : decode code 457 = .ok (.iload 4, 2) := by decide +kernel
theorem dL_law_459 : decode code 459 = .ok (.iconst 2, 1) := by decide +kernel
theorem dL_law_460 : decode code 460 = .ok (.iadd, 1) := by decide +kernel
theorem dL_law_461 : decode code 461 = .ok (.iaload, 1) := by decide +kernel
theorem dL_law_462 : decode code 462 = .ok (.invokevirtual 54, 3) := by decide +kernel
theorem dL_law_465 : decode code 465 = .ok (.aload_n 2, 1) := by decide +kernel
theorem dL_law_466 : decode code 466 = .ok (.aload_n 0, 1) := by decide +kernel
theorem dL_law_467 : decode code 467 = .ok (.iload 4, 2) := by decide +kernel
theorem dL_law_469 : decode code 469 = .ok (.iconst 1, 1) := by decide +kernel
theorem dL_law_470 : decode code 470 = .ok (.iadd, 1) := by decide +kernel
theorem dL_law_471 : decode code 471 = .ok (.iaload, 1) := by decide +kernel
theorem dL_law_472 : decode code 472 = .ok (.aload_n 0, 1) := by decide +kernel
theorem dL_law_473 : decode code 473 = .ok (.iload 4, 2) := by decide +kernel
theorem dL_law_475 : decode code 475 = .ok (.iconst 2, 1) := by decide +kernel
theorem dL_law_476 : decode code 476 = .ok (.iadd, 1) := by decide +kernel
theorem dL_law_477 : decode code 477 = .ok (.iaload, 1) := by decide +kernel
theorem dL_law_478 : decode code 478 = .ok (.invokevirtual 57, 3) := by decide +kernel
theorem dL_law_481 : decode code 481 = .ok (.if_icmp .eq 946, 3) := by decide +kernel
theorem dL_law_484 : decode code 484 = .ok (.iconst 0, 1) := by decide +kernel
theorem dL_law_485 : decode code 485 = .ok (.ireturn, 1) := by decide +kernel
theorem dL_law_486 : decode code 486 = .ok (.aload_n 1, 1) := by decide +kernel
theorem dL_law_487 : decode code 487 = .ok (.aload_n 0, 1) := by decide +kernel
theorem dL_law_488 : decode code 488 = .ok (.iload 4, 2) := by decide +kernel
theorem dL_law_490 : decode code 490 = .ok (.iconst 1, 1) := by decide +kernel
theorem dL_law_491 : decode code 491 = .ok (.iadd, 1) := by decide +kernel
theorem dL_law_492 : decode code 492 = .ok (.iaload, 1) := by decide +kernel
theorem dL_law_493 : decode code 493 = .ok (.invokevirtual 58, 3) := by decide +kernel
theorem dL_law_496 : decode code 496 = .ok (.aload_n 2, 1) := by decide +kernel
theorem dL_law_497 : decode code 497 = .ok (.aload_n 0, 1) := by decide +kernel
theorem dL_law_498 : decode code 498 = .ok (.iload 4, 2) := by decide +kernel
theorem dL_law_500 : decode code 500 = .ok (.iconst 1, 1) := by decide +kernel
theorem dL_law_501 : decode code 501 = .ok (.iadd, 1) := by decide +kernel
theorem dL_law_502 : decode code 502 = .ok (.iaload, 1) := by decide +kernel
theorem dL_law_503 : decode code 503 = .ok (.invokevirtual 62, 3) := by decide +kernel
theorem dL_law_506 : decode code 506 = .ok (.if_icmp .eq 921, 3) := by decide +kernel
theorem dL_law_509 : decode code 509 = .ok (.iconst 0, 1) := by decide +kernel
theorem dL_law_510 : decode code 510 = .ok (.ireturn, 1) := by decide +kernel
theorem dL_law_511 : decode code 511 = .ok (.aload_n 1, 1) := by decide +kernel
theorem dL_law_512 : decode code 512 = .ok (.aload_n 0, 1) := by decide +kernel
theorem dL_law_513 : decode code 513 = .ok (.iload 4, 2) := by decide +kernel
theorem dL_law_515 : decode code 515 = .ok (.iconst 1, 1) := by decide +kernel
theorem dL_law_516 : decode code 516 = .ok (.iadd, 1) := by decide +kernel
theorem dL_law_517 : decode code 517 = .ok (.iaload, 1) := by decide +kernel
theorem dL_law_518 : decode code 518 = .ok (.aload_n 0, 1) := by decide +kernel
theorem dL_law_519 : decode code 519 = .ok (.iload 4, 2) := by decide +kernel
theorem dL_law_521 : decode code 521 = .ok (.iconst 2, 1) := by decide +kernel
theorem dL_law_522 : decode code 522 = .ok (.iadd, 1) := by decide +kernel
theorem dL_law_523 : decode code 523 = .ok (.iaload, 1) := by decide +kernel
theorem dL_law_524 : decode code 524 = .ok (.invokevirtual 63, 3) := by decide +kernel
theorem dL_law_527 : decode code 527 = .ok (.aload_n 2, 1) := by decide +kernel
theorem dL_law_528 : decode code 528 = .ok (.aload_n 0, 1) := by decide +kernel
theorem dL_law_529 : decode code 529 = .ok (.iload 4, 2) := by decide +kernel
theorem dL_law_531 : decode code 531 = .ok (.iconst 1, 1) := by decide +kernel
theorem dL_law_532 : decode code 532 = .ok (.iadd, 1) := by decide +kernel
theorem dL_law_533 : decode code 533 = .ok (.iaload, 1) := by decide +kernel
theorem dL_law_534 : decode code 534 = .ok (.aload_n 0, 1) := by decide +kernel
theorem dL_law_535 : decode code 535 = .ok (.iload 4, 2) := by decide +kernel
theorem dL_law_537 : decode code 537 = .ok (.iconst 2, 1) := by decide +kernel
theorem dL_law_538 : decode code 538 = .ok (.iadd, 1) := by decide +kernel
theorem dL_law_539 : decode code 539 = .ok (.iaload, 1) := by decide +kernel
theorem dL_law_540 : decode code 540 = .ok (.invokevirtual 66, 3) := by decide +kernel
theorem dL_law_543 : decode code 543 = .ok (.if_icmp .eq 884, 3) := by decide +kernel
theorem dL_law_546 : decode code 546 = .ok (.iconst 0, 1) := by decide +kernel
theorem dL_law_547 : decode code 547 = .ok (.ireturn, 1) := by decide +kernel
theorem dL_law_548 : decode code 548 = .ok (.aload_n 1, 1) := by decide +kernel
theorem dL_law_549 : decode code 549 = .ok (.aload_n 0, 1) := by decide +kernel
theorem dL_law_550 : decode code 550 = .ok (.iload 4, 2) := by decide +kernel
theorem dL_law_552 : decode code 552 = .ok (.iconst 1, 1) := by decide +kernel
theorem dL_law_553 : decode code 553 = .ok (.iadd, 1) := by decide +kernel
theorem dL_law_554 : decode code 554 = .ok (.iaload, 1) := by decide +kernel
theorem dL_law_555 : decode code 555 = .ok (.aload_n 0, 1) := by decide +kernel
theorem dL_law_556 : decode code 556 = .ok (.iload 4, 2) := by decide +kernel
theorem dL_law_558 : decode code 558 = .ok (.iconst 2, 1) := by decide +kernel
theorem dL_law_559 : decode code 559 = .ok (.iadd, 1) := by decide +kernel
theorem dL_law_560 : decode code 560 = .ok (.iaload, 1) := by decide +kernel
theorem dL_law_561 : decode code 561 = .ok (.invokevirtual 67, 3) := by decide +kernel
theorem dL_law_564 : decode code 564 = .ok (.aload_n 2, 1) := by decide +kernel
theorem dL_law_565 : decode code 565 = .ok (.aload_n 0, 1) := by decide +kernel
theorem dL_law_566 : decode code 566 = .ok (.iload 4, 2) := by decide +kernel
theorem dL_law_568 : decode code 568 = .ok (.iconst 1, 1) := by decide +kernel
theorem dL_law_569 : decode code 569 = .ok (.iadd, 1) := by decide +kernel
theorem dL_law_570 : decode code 570 = .ok (.iaload, 1) := by decide +kernel
theorem dL_law_571 : decode code 571 = .ok (.aload_n 0, 1) := by decide +kernel
theorem dL_law_572 : decode code 572 = .ok (.iload 4, 2) := by decide +kernel
theorem dL_law_574 : decode code 574 = .ok (.iconst 2, 1) := by decide +kernel
theorem dL_law_575 : decode code 575 = .ok (.iadd, 1) := by decide +kernel
theorem dL_law_576 : decode code 576 = .ok (.iaload, 1) := by decide +kernel
theorem dL_law_577 : decode code 577 = .ok (.invokevirtual 70, 3) := by decide +kernel
theorem dL_law_580 : decode code 580 = .ok (.if_icmp .eq 847, 3) := by decide +kernel
theorem dL_law_583 : decode code 583 = .ok (.iconst 0, 1) := by decide +kernel
theorem dL_law_584 : decode code 584 = .ok (.ireturn, 1) := by decide +kernel
theorem dL_law_585 : decode code 585 = .ok (.aload_n 1, 1) := by decide +kernel
theorem dL_law_586 : decode code 586 = .ok (.aload_n 0, 1) := by decide +kernel
theorem dL_law_587 : decode code 587 = .ok (.iload 4, 2) := by decide +kernel
theorem dL_law_589 : decode code 589 = .ok (.iconst 1, 1) := by decide +kernel
theorem dL_law_590 : decode code 590 = .ok (.iadd, 1) := by decide +kernel
theorem dL_law_591 : decode code 591 = .ok (.iaload, 1) := by decide +kernel
theorem dL_law_592 : decode code 592 = .ok (.aload_n 0, 1) := by decide +kernel
theorem dL_law_593 : decode code 593 = .ok (.iload 4, 2) := by decide +kernel
theorem dL_law_595 : decode code 595 = .ok (.iconst 2, 1) := by decide +kernel
theorem dL_law_596 : decode code 596 = .ok (.iadd, 1) := by decide +kernel
theorem dL_law_597 : decode code 597 = .ok (.iaload, 1) := by decide +kernel
theorem dL_law_598 : decode code 598 = .ok (.invokevirtual 71, 3) := by decide +kernel
theorem dL_law_601 : decode code 601 = .ok (.aload_n 2, 1) := by decide +kernel
theorem dL_law_602 : decode code 602 = .ok (.aload_n 0, 1) := by decide +kernel
theorem dL_law_603 : decode code 603 = .ok (.iload 4, 2) := by decide +kernel
theorem dL_law_605 : decode code 605 = .ok (.iconst 1, 1) := by decide +kernel
theorem dL_law_606 : decode code 606 = .ok (.iadd, 1) := by decide +kernel
theorem dL_law_607 : decode code 607 = .ok (.iaload, 1) := by decide +kernel
theorem dL_law_608 : decode code 608 = .ok (.aload_n 0, 1) := by decide +kernel
theorem dL_law_609 : decode code 609 = .ok (.iload 4, 2) := by decide +kernel
theorem dL_law_611 : decode code 611 = .ok (.iconst 2, 1) := by decide +kernel
theorem dL_law_612 : decode code 612 = .ok (.iadd, 1) := by decide +kernel
theorem dL_law_613 : decode code 613 = .ok (.iaload, 1) := by decide +kernel
theorem dL_law_614 : decode code 614 = .ok (.invokevirtual 74, 3) := by decide +kernel
theorem dL_law_617 : decode code 617 = .ok (.if_icmp .eq 810, 3) := by decide +kernel
theorem dL_law_620 : decode code 620 = .ok (.iconst 0, 1) := by decide +kernel
theorem dL_law_621 : decode code 621 = .ok (.ireturn, 1) := by decide +kernel
theorem dL_law_622 : decode code 622 = .ok (.aload_n 1, 1) := by decide +kernel
theorem dL_law_623 : decode code 623 = .ok (.aload_n 0, 1) := by decide +kernel
theorem dL_law_624 : decode code 624 = .ok (.iload 4, 2) := by decide +kernel
theorem dL_law_626 : decode code 626 = .ok (.iconst 1, 1) := by decide +kernel
theorem dL_law_627 : decode code 627 = .ok (.iadd, 1) := by decide +kernel
theorem dL_law_628 : decode code 628 = .ok (.iaload, 1) := by decide +kernel
theorem dL_law_629 : decode code 629 = .ok (.invokevirtual 75, 3) := by decide +kernel
theorem dL_law_632 : decode code 632 = .ok (.aload_n 2, 1) := by decide +kernel
theorem dL_law_633 : decode code 633 = .ok (.aload_n 0, 1) := by decide +kernel
theorem dL_law_634 : decode code 634 = .ok (.iload 4, 2) := by decide +kernel
theorem dL_law_636 : decode code 636 = .ok (.iconst 1, 1) := by decide +kernel
theorem dL_law_637 : decode code 637 = .ok (.iadd, 1) := by decide +kernel
theorem dL_law_638 : decode code 638 = .ok (.iaload, 1) := by decide +kernel
theorem dL_law_639 : decode code 639 = .ok (.invokevirtual 78, 3) := by decide +kernel
theorem dL_law_642 : decode code 642 = .ok (.if_icmp .eq 785, 3) := by decide +kernel
theorem dL_law_645 : decode code 645 = .ok (.iconst 0, 1) := by decide +kernel
theorem dL_law_646 : decode code 646 = .ok (.ireturn, 1) := by decide +kernel
theorem dL_law_647 : decode code 647 = .ok (.aload_n 1, 1) := by decide +kernel
theorem dL_law_648 : decode code 648 = .ok (.aload_n 0, 1) := by decide +kernel
theorem dL_law_649 : decode code 649 = .ok (.iload 4, 2) := by decide +kernel
theorem dL_law_651 : decode code 651 = .ok (.iconst 1, 1) := by decide +kernel
theorem dL_law_652 : decode code 652 = .ok (.iadd, 1) := by decide +kernel
theorem dL_law_653 : decode code 653 = .ok (.iaload, 1) := by decide +kernel
theorem dL_law_654 : decode code 654 = .ok (.invokevirtual 79, 3) := by decide +kernel
theorem dL_law_657 : decode code 657 = .ok (.aload_n 2, 1) := by decide +kernel
theorem dL_law_658 : decode code 658 = .ok (.aload_n 0, 1) := by decide +kernel
theorem dL_law_659 : decode code 659 = .ok (.iload 4, 2) := by decide +kernel
theorem dL_law_661 : decode code 661 = .ok (.iconst 1, 1) := by decide +kernel
theorem dL_law_662 : decode code 662 = .ok (.iadd, 1) := by decide +kernel
theorem dL_law_663 : decode code 663 = .ok (.iaload, 1) := by decide +kernel
theorem dL_law_664 : decode code 664 = .ok (.invokevirtual 82, 3) := by decide +kernel
theorem dL_law_667 : decode code 667 = .ok (.if_icmp .eq 760, 3) := by decide +kernel
theorem dL_law_670 : decode code 670 = .ok (.iconst 0, 1) := by decide +kernel
theorem dL_law_671 : decode code 671 = .ok (.ireturn, 1) := by decide +kernel
theorem dL_law_672 : decode code 672 = .ok (.aload_n 1, 1) := by decide +kernel
theorem dL_law_673 : decode code 673 = .ok (.aload_n 0, 1) := by decide +kernel
theorem dL_law_674 : decode code 674 = .ok (.iload 4, 2) := by decide +kernel
theorem dL_law_676 : decode code 676 = .ok (.iconst 1, 1) := by decide +kernel
theorem dL_law_677 : decode code 677 = .ok (.iadd, 1) := by decide +kernel
theorem dL_law_678 : decode code 678 = .ok (.iaload, 1) := by decide +kernel
theorem dL_law_679 : decode code 679 = .ok (.aload_n 0, 1) := by decide +kernel
theorem dL_law_680 : decode code 680 = .ok (.iload 4, 2) := by decide +kernel
theorem dL_law_682 : decode code 682 = .ok (.iconst 2, 1) := by decide +kernel
theorem dL_law_683 : decode code 683 = .ok (.iadd, 1) := by decide +kernel
theorem dL_law_684 : decode code 684 = .ok (.iaload, 1) := by decide +kernel
theorem dL_law_685 : decode code 685 = .ok (.invokevirtual 83, 3) := by decide +kernel
theorem dL_law_688 : decode code 688 = .ok (.aload_n 2, 1) := by decide +kernel
theorem dL_law_689 : decode code 689 = .ok (.aload_n 0, 1) := by decide +kernel
theorem dL_law_690 : decode code 690 = .ok (.iload 4, 2) := by decide +kernel
theorem dL_law_692 : decode code 692 = .ok (.iconst 1, 1) := by decide +kernel
theorem dL_law_693 : decode code 693 = .ok (.iadd, 1) := by decide +kernel
theorem dL_law_694 : decode code 694 = .ok (.iaload, 1) := by decide +kernel
theorem dL_law_695 : decode code 695 = .ok (.aload_n 0, 1) := by decide +kernel
theorem dL_law_696 : decode code 696 = .ok (.iload 4, 2) := by decide +kernel
theorem dL_law_698 : decode code 698 = .ok (.iconst 2, 1) := by decide +kernel
theorem dL_law_699 : decode code 699 = .ok (.iadd, 1) := by decide +kernel
theorem dL_law_700 : decode code 700 = .ok (.iaload, 1) := by decide +kernel
theorem dL_law_701 : decode code 701 = .ok (.invokevirtual 86, 3) := by decide +kernel
theorem dL_law_704 : decode code 704 = .ok (.if_icmp .eq 723, 3) := by decide +kernel
theorem dL_law_707 : decode code 707 = .ok (.iconst 0, 1) := by decide +kernel
theorem dL_law_708 : decode code 708 = .ok (.ireturn, 1) := by decide +kernel
theorem dL_law_709 : decode code 709 = .ok (.aload_n 1, 1) := by decide +kernel
theorem dL_law_710 : decode code 710 = .ok (.aload_n 0, 1) := by decide +kernel
theorem dL_law_711 : decode code 711 = .ok (.iload 4, 2) := by decide +kernel
theorem dL_law_713 : decode code 713 = .ok (.iconst 1, 1) := by decide +kernel
theorem dL_law_714 : decode code 714 = .ok (.iadd, 1) := by decide +kernel
theorem dL_law_715 : decode code 715 = .ok (.iaload, 1) := by decide +kernel
theorem dL_law_716 : decode code 716 = .ok (.invokevirtual 87, 3) := by decide +kernel
theorem dL_law_719 : decode code 719 = .ok (.aload_n 2, 1) := by decide +kernel
theorem dL_law_720 : decode code 720 = .ok (.aload_n 0, 1) := by decide +kernel
theorem dL_law_721 : decode code 721 = .ok (.iload 4, 2) := by decide +kernel
theorem dL_law_723 : decode code 723 = .ok (.iconst 1, 1) := by decide +kernel
theorem dL_law_724 : decode code 724 = .ok (.iadd, 1) := by decide +kernel
theorem dL_law_725 : decode code 725 = .ok (.iaload, 1) := by decide +kernel
theorem dL_law_726 : decode code 726 = .ok (.invokevirtual 90, 3) := by decide +kernel
theorem dL_law_729 : decode code 729 = .ok (.if_icmp .eq 698, 3) := by decide +kernel
theorem dL_law_732 : decode code 732 = .ok (.iconst 0, 1) := by decide +kernel
theorem dL_law_733 : decode code 733 = .ok (.ireturn, 1) := by decide +kernel
theorem dL_law_734 : decode code 734 = .ok (.aload_n 1, 1) := by decide +kernel
theorem dL_law_735 : decode code 735 = .ok (.aload_n 0, 1) := by decide +kernel
theorem dL_law_736 : decode code 736 = .ok (.iload 4, 2) := by decide +kernel
theorem dL_law_738 : decode code 738 = .ok (.iconst 1, 1) := by decide +kernel
theorem dL_law_739 : decode code 739 = .ok (.iadd, 1) := by decide +kernel
theorem dL_law_740 : decode code 740 = .ok (.iaload, 1) := by decide +kernel
theorem dL_law_741 : decode code 741 = .ok (.invokevirtual 91, 3) := by decide +kernel
theorem dL_law_744 : decode code 744 = .ok (.aload_n 2, 1) := by decide +kernel
theorem dL_law_745 : decode code 745 = .ok (.aload_n 0, 1) := by decide +kernel
theorem dL_law_746 : decode code 746 = .ok (.iload 4, 2) := by decide +kernel
theorem dL_law_748 : decode code 748 = .ok (.iconst 1, 1) := by decide +kernel
theorem dL_law_749 : decode code 749 = .ok (.iadd, 1) := by decide +kernel
theorem dL_law_750 : decode code 750 = .ok (.iaload, 1) := by decide +kernel
theorem dL_law_751 : decode code 751 = .ok (.invokevirtual 94, 3) := by decide +kernel
theorem dL_law_754 : decode code 754 = .ok (.if_icmp .eq 673, 3) := by decide +kernel
theorem dL_law_757 : decode code 757 = .ok (.iconst 0, 1) := by decide +kernel
theorem dL_law_758 : decode code 758 = .ok (.ireturn, 1) := by decide +kernel
theorem dL_law_759 : decode code 759 = .ok (.aload_n 1, 1) := by decide +kernel
theorem dL_law_760 : decode code 760 = .ok (.invokevirtual 95, 3) := by decide +kernel
theorem dL_law_763 : decode code 763 = .ok (.aload_n 2, 1) := by decide +kernel
theorem dL_law_764 : decode code 764 = .ok (.invokevirtual 98, 3) := by decide +kernel
theorem dL_law_767 : decode code 767 = .ok (.if_icmp .eq 660, 3) := by decide +kernel
theorem dL_law_770 : decode code 770 = .ok (.iconst 0, 1) := by decide +kernel
theorem dL_law_771 : decode code 771 = .ok (.ireturn, 1) := by decide +kernel
theorem dL_law_772 : decode code 772 = .ok (.aload_n 1, 1) := by decide +kernel
theorem dL_law_773 : decode code 773 = .ok (.aload_n 0, 1) := by decide +kernel
theorem dL_law_774 : decode code 774 = .ok (.iload 4, 2) := by decide +kernel
theorem dL_law_776 : decode code 776 = .ok (.iconst 1, 1) := by decide +kernel
theorem dL_law_777 : decode code 777 = .ok (.iadd, 1) := by decide +kernel
theorem dL_law_778 : decode code 778 = .ok (.iaload, 1) := by decide +kernel
theorem dL_law_779 : decode code 779 = .ok (.aload_n 0, 1) := by decide +kernel
theorem dL_law_780 : decode code 780 = .ok (.iload 4, 2) := by decide +kernel
theorem dL_law_782 : decode code 782 = .ok (.iconst 2, 1) := by decide +kernel
theorem dL_law_783 : decode code 783 = .ok (.iadd, 1) := by decide +kernel
theorem dL_law_784 : decode code 784 = .ok (.iaload, 1) := by decide +kernel
theorem dL_law_785 : decode code 785 = .ok (.invokevirtual 99, 3) := by decide +kernel
theorem dL_law_788 : decode code 788 = .ok (.aload_n 2, 1) := by decide +kernel
theorem dL_law_789 : decode code 789 = .ok (.aload_n 0, 1) := by decide +kernel
theorem dL_law_790 : decode code 790 = .ok (.iload 4, 2) := by decide +kernel
theorem dL_law_792 : decode code 792 = .ok (.iconst 1, 1) := by decide +kernel
theorem dL_law_793 : decode code 793 = .ok (.iadd, 1) := by decide +kernel
theorem dL_law_794 : decode code 794 = .ok (.iaload, 1) := by decide +kernel
theorem dL_law_795 : decode code 795 = .ok (.aload_n 0, 1) := by decide +kernel
theorem dL_law_796 : decode code 796 = .ok (.iload 4, 2) := by decide +kernel
theorem dL_law_798 : decode code 798 = .ok (.iconst 2, 1) := by decide +kernel
theorem dL_law_799 : decode code 799 = .ok (.iadd, 1) := by decide +kernel
theorem dL_law_800 : decode code 800 = .ok (.iaload, 1) := by decide +kernel
theorem dL_law_801 : decode code 801 = .ok (.invokevirtual 102, 3) := by decide +kernel
theorem dL_law_804 : decode code 804 = .ok (.if_icmp .eq 623, 3) := by decide +kernel
theorem dL_law_807 : decode code 807 = .ok (.iconst 0, 1) := by decide +kernel
theorem dL_law_808 : decode code 808 = .ok (.ireturn, 1) := by decide +kernel
theorem dL_law_809 : decode code 809 = .ok (.aload_n 1, 1) := by decide +kernel
theorem dL_law_810 : decode code 810 = .ok (.aload_n 0, 1) := by decide +kernel
theorem dL_law_811 : decode code 811 = .ok (.iload 4, 2) := by decide +kernel
theorem dL_law_813 : decode code 813 = .ok (.iconst 1, 1) := by decide +kernel
theorem dL_law_814 : decode code 814 = .ok (.iadd, 1) := by decide +kernel
theorem dL_law_815 : decode code 815 = .ok (.iaload, 1) := by decide +kernel
theorem dL_law_816 : decode code 816 = .ok (.aload_n 0, 1) := by decide +kernel
theorem dL_law_817 : decode code 817 = .ok (.iload 4, 2) := by decide +kernel
theorem dL_law_819 : decode code 819 = .ok (.iconst 2, 1) := by decide +kernel
theorem dL_law_820 : decode code 820 = .ok (.iadd, 1) := by decide +kernel
theorem dL_law_821 : decode code 821 = .ok (.iaload, 1) := by decide +kernel
theorem dL_law_822 : decode code 822 = .ok (.invokevirtual 103, 3) := by decide +kernel
theorem dL_law_825 : decode code 825 = .ok (.aload_n 2, 1) := by decide +kernel
theorem dL_law_826 : decode code 826 = .ok (.aload_n 0, 1) := by decide +kernel
theorem dL_law_827 : decode code 827 = .ok (.iload 4, 2) := by decide +kernel
theorem dL_law_829 : decode code 829 = .ok (.iconst 1, 1) := by decide +kernel
theorem dL_law_830 : decode code 830 = .ok (.iadd, 1) := by decide +kernel
theorem dL_law_831 : decode code 831 = .ok (.iaload, 1) := by decide +kernel
theorem dL_law_832 : decode code 832 = .ok (.aload_n 0, 1) := by decide +kernel
theorem dL_law_833 : decode code 833 = .ok (.iload 4, 2) := by decide +kernel
theorem dL_law_835 : decode code 835 = .ok (.iconst 2, 1) := by decide +kernel
theorem dL_law_836 : decode code 836 = .ok (.iadd, 1) := by decide +kernel
theorem dL_law_837 : decode code 837 = .ok (.iaload, 1) := by decide +kernel
theorem dL_law_838 : decode code 838 = .ok (.invokevirtual 106, 3) := by decide +kernel
theorem dL_law_841 : decode code 841 = .ok (.if_icmp .eq 586, 3) := by decide +kernel
theorem dL_law_844 : decode code 844 = .ok (.iconst 0, 1) := by decide +kernel
theorem dL_law_845 : decode code 845 = .ok (.ireturn, 1) := by decide +kernel
theorem dL_law_846 : decode code 846 = .ok (.aload_n 1, 1) := by decide +kernel
theorem dL_law_847 : decode code 847 = .ok (.aload_n 0, 1) := by decide +kernel
theorem dL_law_848 : decode code 848 = .ok (.iload 4, 2) := by decide +kernel
theorem dL_law_850 : decode code 850 = .ok (.iconst 1, 1) := by decide +kernel
theorem dL_law_851 : decode code 851 = .ok (.iadd, 1) := by decide +kernel
theorem dL_law_852 : decode code 852 = .ok (.iaload, 1) := by decide +kernel
theorem dL_law_853 : decode code 853 = .ok (.invokevirtual 107, 3) := by decide +kernel
theorem dL_law_856 : decode code 856 = .ok (.aload_n 2, 1) := by decide +kernel
theorem dL_law_857 : decode code 857 = .ok (.aload_n 0, 1) := by decide +kernel
theorem dL_law_858 : decode code 858 = .ok (.iload 4, 2) := by decide +kernel
theorem dL_law_860 : decode code 860 = .ok (.iconst 1, 1) := by decide +kernel
theorem dL_law_861 : decode code 861 = .ok (.iadd, 1) := by decide +kernel
theorem dL_law_862 : decode code 862 = .ok (.iaload, 1) := by decide +kernel
theorem dL_law_863 : decode code 863 = .ok (.invokevirtual 110, 3) := by decide +kernel
theorem dL_law_866 : decode code 866 = .ok (.if_icmp .eq 561, 3) := by decide +kernel
theorem dL_law_869 : decode code 869 = .ok (.iconst 0, 1) := by decide +kernel
theorem dL_law_870 : decode code 870 = .ok (.ireturn, 1) := by decide +kernel
theorem dL_law_871 : decode code 871 = .ok (.aload_n 1, 1) := by decide +kernel
theorem dL_law_872 : decode code 872 = .ok (.aload_n 0, 1) := by decide +kernel
theorem dL_law_873 : decode code 873 = .ok (.iload 4, 2) := by decide +kernel
theorem dL_law_875 : decode code 875 = .ok (.iconst 1, 1) := by decide +kernel
theorem dL_law_876 : decode code 876 = .ok (.iadd, 1) := by decide +kernel
theorem dL_law_877 : decode code 877 = .ok (.iaload, 1) := by decide +kernel
theorem dL_law_878 : decode code 878 = .ok (.invokevirtual 111, 3) := by decide +kernel
theorem dL_law_881 : decode code 881 = .ok (.aload_n 2, 1) := by decide +kernel
theorem dL_law_882 : decode code 882 = .ok (.aload_n 0, 1) := by decide +kernel
theorem dL_law_883 : decode code 883 = .ok (.iload 4, 2) := by decide +kernel
theorem dL_law_885 : decode code 885 = .ok (.iconst 1, 1) := by decide +kernel
theorem dL_law_886 : decode code 886 = .ok (.iadd, 1) := by decide +kernel
theorem dL_law_887 : decode code 887 = .ok (.iaload, 1) := by decide +kernel
theorem dL_law_888 : decode code 888 = .ok (.invokevirtual 114, 3) := by decide +kernel
theorem dL_law_891 : decode code 891 = .ok (.if_icmp .eq 536, 3) := by decide +kernel
theorem dL_law_894 : decode code 894 = .ok (.iconst 0, 1) := by decide +kernel
theorem dL_law_895 : decode code 895 = .ok (.ireturn, 1) := by decide +kernel
theorem dL_law_896 : decode code 896 = .ok (.aload_n 1, 1) := by decide +kernel
theorem dL_law_897 : decode code 897 = .ok (.aload_n 0, 1) := by decide +kernel
theorem dL_law_898 : decode code 898 = .ok (.iload 4, 2) := by decide +kernel
theorem dL_law_900 : decode code 900 = .ok (.iconst 1, 1) := by decide +kernel
theorem dL_law_901 : decode code 901 = .ok (.iadd, 1) := by decide +kernel
theorem dL_law_902 : decode code 902 = .ok (.iaload, 1) := by decide +kernel
theorem dL_law_903 : decode code 903 = .ok (.invokevirtual 115, 3) := by decide +kernel
theorem dL_law_906 : decode code 906 = .ok (.aload_n 2, 1) := by decide +kernel
theorem dL_law_907 : decode code 907 = .ok (.aload_n 0, 1) := by decide +kernel
theorem dL_law_908 : decode code 908 = .ok (.iload 4, 2) := by decide +kernel
theorem dL_law_910 : decode code 910 = .ok (.iconst 1, 1) := by decide +kernel
theorem dL_law_911 : decode code 911 = .ok (.iadd, 1) := by decide +kernel
theorem dL_law_912 : decode code 912 = .ok (.iaload, 1) := by decide +kernel
theorem dL_law_913 : decode code 913 = .ok (.invokevirtual 118, 3) := by decide +kernel
theorem dL_law_916 : decode code 916 = .ok (.if_icmp .eq 511, 3) := by decide +kernel
theorem dL_law_919 : decode code 919 = .ok (.iconst 0, 1) := by decide +kernel
theorem dL_law_920 : decode code 920 = .ok (.ireturn, 1) := by decide +kernel
theorem dL_law_921 : decode code 921 = .ok (.aload_n 1, 1) := by decide +kernel
theorem dL_law_922 : decode code 922 = .ok (.aload_n 0, 1) := by decide +kernel
theorem dL_law_923 : decode code 923 = .ok (.iload 4, 2) := by decide +kernel
theorem dL_law_925 : decode code 925 = .ok (.iconst 1, 1) := by decide +kernel
theorem dL_law_926 : decode code 926 = .ok (.iadd, 1) := by decide +kernel
theorem dL_law_927 : decode code 927 = .ok (.iaload, 1) := by decide +kernel
theorem dL_law_928 : decode code 928 = .ok (.invokevirtual 119, 3) := by decide +kernel
theorem dL_law_931 : decode code 931 = .ok (.aload_n 2, 1) := by decide +kernel
theorem dL_law_932 : decode code 932 = .ok (.aload_n 0, 1) := by decide +kernel
theorem dL_law_933 : decode code 933 = .ok (.iload 4, 2) := by decide +kernel
theorem dL_law_935 : decode code 935 = .ok (.iconst 1, 1) := by decide +kernel
theorem dL_law_936 : decode code 936 = .ok (.iadd, 1) := by decide +kernel
theorem dL_law_937 : decode code 937 = .ok (.iaload, 1) := by decide +kernel
theorem dL_law_938 : decode code 938 = .ok (.invokevirtual 122, 3) := by decide +kernel
theorem dL_law_941 : decode code 941 = .ok (.if_icmp .eq 486, 3) := by decide +kernel
theorem dL_law_944 : decode code 944 = .ok (.iconst 0, 1) := by decide +kernel
theorem dL_law_945 : decode code 945 = .ok (.ireturn, 1) := by decide +kernel
theorem dL_law_946 : decode code 946 = .ok (.aload_n 1, 1) := by decide +kernel
theorem dL_law_947 : decode code 947 = .ok (.aload_n 0, 1) := by decide +kernel
theorem dL_law_948 : decode code 948 = .ok (.iload 4, 2) := by decide +kernel
theorem dL_law_950 : decode code 950 = .ok (.iconst 1, 1) := by decide +kernel
theorem dL_law_951 : decode code 951 = .ok (.iadd, 1) := by decide +kernel
theorem dL_law_952 : decode code 952 = .ok (.iaload, 1) := by decide +kernel
theorem dL_law_953 : decode code 953 = .ok (.aload_n 0, 1) := by decide +kernel
theorem dL_law_954 : decode code 954 = .ok (.iload 4, 2) := by decide +kernel
theorem dL_law_956 : decode code 956 = .ok (.iconst 2, 1) := by decide +kernel
theorem dL_law_957 : decode code 957 = .ok (.iadd, 1) := by decide +kernel
theorem dL_law_958 : decode code 958 = .ok (.iaload, 1) := by decide +kernel
theorem dL_law_959 : decode code 959 = .ok (.invokevirtual 123, 3) := by decide +kernel
theorem dL_law_962 : decode code 962 = .ok (.aload_n 2, 1) := by decide +kernel
theorem dL_law_963 : decode code 963 = .ok (.aload_n 0, 1) := by decide +kernel
theorem dL_law_964 : decode code 964 = .ok (.iload 4, 2) := by decide +kernel
theorem dL_law_966 : decode code 966 = .ok (.iconst 1, 1) := by decide +kernel
theorem dL_law_967 : decode code 967 = .ok (.iadd, 1) := by decide +kernel
theorem dL_law_968 : decode code 968 = .ok (.iaload, 1) := by decide +kernel
theorem dL_law_969 : decode code 969 = .ok (.aload_n 0, 1) := by decide +kernel
theorem dL_law_970 : decode code 970 = .ok (.iload 4, 2) := by decide +kernel
theorem dL_law_972 : decode code 972 = .ok (.iconst 2, 1) := by decide +kernel
theorem dL_law_973 : decode code 973 = .ok (.iadd, 1) := by decide +kernel
theorem dL_law_974 : decode code 974 = .ok (.iaload, 1) := by decide +kernel
theorem dL_law_975 : decode code 975 = .ok (.invokevirtual 126, 3) := by decide +kernel
theorem dL_law_978 : decode code 978 = .ok (.if_icmp .eq 449, 3) := by decide +kernel
theorem dL_law_981 : decode code 981 = .ok (.iconst 0, 1) := by decide +kernel
theorem dL_law_982 : decode code 982 = .ok (.ireturn, 1) := by decide +kernel
theorem dL_law_983 : decode code 983 = .ok (.aload_n 1, 1) := by decide +kernel
theorem dL_law_984 : decode code 984 = .ok (.invokevirtual 127, 3) := by decide +kernel
theorem dL_law_987 : decode code 987 = .ok (.aload_n 2, 1) := by decide +kernel
theorem dL_law_988 : decode code 988 = .ok (.invokevirtual 130, 3) := by decide +kernel
theorem dL_law_991 : decode code 991 = .ok (.if_icmp .eq 436, 3) := by decide +kernel
theorem dL_law_994 : decode code 994 = .ok (.iconst 0, 1) := by decide +kernel
theorem dL_law_995 : decode code 995 = .ok (.ireturn, 1) := by decide +kernel
theorem dL_law_996 : decode code 996 = .ok (.aload_n 1, 1) := by decide +kernel
theorem dL_law_997 : decode code 997 = .ok (.aload_n 0, 1) := by decide +kernel
theorem dL_law_998 : decode code 998 = .ok (.iload 4, 2) := by decide +kernel
theorem dL_law_1000 : decode code 1000 = .ok (.iconst 1, 1) := by decide +kernel
theorem dL_law_1001 : decode code 1001 = .ok (.iadd, 1) := by decide +kernel
theorem dL_law_1002 : decode code 1002 = .ok (.iaload, 1) := by decide +kernel
theorem dL_law_1003 : decode code 1003 = .ok (.invokevirtual 131, 3) := by decide +kernel
theorem dL_law_1006 : decode code 1006 = .ok (.aload_n 2, 1) := by decide +kernel
theorem dL_law_1007 : decode code 1007 = .ok (.aload_n 0, 1) := by decide +kernel
theorem dL_law_1008 : decode code 1008 = .ok (.iload 4, 2) := by decide +kernel
theorem dL_law_1010 : decode code 1010 = .ok (.iconst 1, 1) := by decide +kernel
theorem dL_law_1011 : decode code 1011 = .ok (.iadd, 1) := by decide +kernel
theorem dL_law_1012 : decode code 1012 = .ok (.iaload, 1) := by decide +kernel
theorem dL_law_1013 : decode code 1013 = .ok (.invokevirtual 134, 3) := by decide +kernel
theorem dL_law_1016 : decode code 1016 = .ok (.if_icmp .eq 411, 3) := by decide +kernel
theorem dL_law_1019 : decode code 1019 = .ok (.iconst 0, 1) := by decide +kernel
theorem dL_law_1020 : decode code 1020 = .ok (.ireturn, 1) := by decide +kernel
theorem dL_law_1021 : decode code 1021 = .ok (.aload_n 1, 1) := by decide +kernel
theorem dL_law_1022 : decode code 1022 = .ok (.invokevirtual 135, 3) := by decide +kernel
theorem dL_law_1025 : decode code 1025 = .ok (.aload_n 2, 1) := by decide +kernel
theorem dL_law_1026 : decode code 1026 = .ok (.invokevirtual 138, 3) := by decide +kernel
theorem dL_law_1029 : decode code 1029 = .ok (.if_icmp .eq 398, 3) := by decide +kernel
theorem dL_law_1032 : decode code 1032 = .ok (.iconst 0, 1) := by decide +kernel
theorem dL_law_1033 : decode code 1033 = .ok (.ireturn, 1) := by decide +kernel
theorem dL_law_1034 : decode code 1034 = .ok (.aload_n 1, 1) := by decide +kernel
theorem dL_law_1035 : decode code 1035 = .ok (.invokevirtual 139, 3) := by decide +kernel
theorem dL_law_1038 : decode code 1038 = .ok (.aload_n 2, 1) := by decide +kernel
theorem dL_law_1039 : decode code 1039 = .ok (.invokevirtual 142, 3) := by decide +kernel
theorem dL_law_1042 : decode code 1042 = .ok (.if_icmp .eq 385, 3) := by decide +kernel
theorem dL_law_1045 : decode code 1045 = .ok (.iconst 0, 1) := by decide +kernel
theorem dL_law_1046 : decode code 1046 = .ok (.ireturn, 1) := by decide +kernel
theorem dL_law_1047 : decode code 1047 = .ok (.aload_n 1, 1) := by decide +kernel
theorem dL_law_1048 : decode code 1048 = .ok (.invokevirtual 143, 3) := by decide +kernel
theorem dL_law_1051 : decode code 1051 = .ok (.aload_n 2, 1) := by decide +kernel
theorem dL_law_1052 : decode code 1052 = .ok (.invokevirtual 146, 3) := by decide +kernel
theorem dL_law_1055 : decode code 1055 = .ok (.if_icmp .eq 372, 3) := by decide +kernel
theorem dL_law_1058 : decode code 1058 = .ok (.iconst 0, 1) := by decide +kernel
theorem dL_law_1059 : decode code 1059 = .ok (.ireturn, 1) := by decide +kernel
theorem dL_law_1060 : decode code 1060 = .ok (.aload_n 1, 1) := by decide +kernel
theorem dL_law_1061 : decode code 1061 = .ok (.aload_n 0, 1) := by decide +kernel
theorem dL_law_1062 : decode code 1062 = .ok (.iload 4, 2) := by decide +kernel
theorem dL_law_1064 : decode code 1064 = .ok (.iconst 1, 1) := by decide +kernel
theorem dL_law_1065 : decode code 1065 = .ok (.iadd, 1) := by decide +kernel
theorem dL_law_1066 : decode code 1066 = .ok (.iaload, 1) := by decide +kernel
theorem dL_law_1067 : decode code 1067 = .ok (.aload_n 0, 1) := by decide +kernel
theorem dL_law_1068 : decode code 1068 = .ok (.iload 4, 2) := by decide +kernel
theorem dL_law_1070 : decode code 1070 = .ok (.iconst 2, 1) := by decide +kernel
theorem dL_law_1071 : decode code 1071 = .ok (.iadd, 1) := by decide +kernel
theorem dL_law_1072 : decode code 1072 = .ok (.iaload, 1) := by decide +kernel
theorem dL_law_1073 : decode code 1073 = .ok (.aload_n 3, 1) := by decide +kernel
theorem dL_law_1074 : decode code 1074 = .ok (.invokestatic 147, 3) := by decide +kernel
theorem dL_law_1077 : decode code 1077 = .ok (.istore 5, 2) := by decide +kernel
theorem dL_law_1079 : decode code 1079 = .ok (.aload_n 2, 1) := by decide +kernel
theorem dL_law_1080 : decode code 1080 = .ok (.aload_n 0, 1) := by decide +kernel
theorem dL_law_1081 : decode code 1081 = .ok (.iload 4, 2) := by decide +kernel
theorem dL_law_1083 : decode code 1083 = .ok (.iconst 1, 1) := by decide +kernel
theorem dL_law_1084 : decode code 1084 = .ok (.iadd, 1) := by decide +kernel
theorem dL_law_1085 : decode code 1085 = .ok (.iaload, 1) := by decide +kernel
theorem dL_law_1086 : decode code 1086 = .ok (.aload_n 0, 1) := by decide +kernel
theorem dL_law_1087 : decode code 1087 = .ok (.iload 4, 2) := by decide +kernel
theorem dL_law_1089 : decode code 1089 = .ok (.iconst 2, 1) := by decide +kernel
theorem dL_law_1090 : decode code 1090 = .ok (.iadd, 1) := by decide +kernel
theorem dL_law_1091 : decode code 1091 = .ok (.iaload, 1) := by decide +kernel
theorem dL_law_1092 : decode code 1092 = .ok (.invokevirtual 149, 3) := by decide +kernel
theorem dL_law_1095 : decode code 1095 = .ok (.istore 6, 2) := by decide +kernel
theorem dL_law_1097 : decode code 1097 = .ok (.aload_n 2, 1) := by decide +kernel
theorem dL_law_1098 : decode code 1098 = .ok (.invokevirtual 47, 3) := by decide +kernel
theorem dL_law_1101 : decode code 1101 = .ok (.iload 5, 2) := by decide +kernel
theorem dL_law_1103 : decode code 1103 = .ok (.if_icmp .eq 5, 3) := by decide +kernel
theorem dL_law_1106 : decode code 1106 = .ok (.iconst 0, 1) := by decide +kernel
theorem dL_law_1107 : decode code 1107 = .ok (.ireturn, 1) := by decide +kernel
theorem dL_law_1108 : decode code 1108 = .ok (.iload 5, 2) := by decide +kernel
theorem dL_law_1110 : decode code 1110 = .ok (.ifCond .ne 15, 3) := by decide +kernel
theorem dL_law_1113 : decode code 1113 = .ok (.aload_n 3, 1) := by decide +kernel
theorem dL_law_1114 : decode code 1114 = .ok (.iconst 0, 1) := by decide +kernel
theorem dL_law_1115 : decode code 1115 = .ok (.laload, 1) := by decide +kernel
theorem dL_law_1116 : decode code 1116 = .ok (.iload 6, 2) := by decide +kernel
theorem dL_law_1118 : decode code 1118 = .ok (.i2l, 1) := by decide +kernel
theorem dL_law_1119 : decode code 1119 = .ok (.lcmp, 1) := by decide +kernel
theorem dL_law_1120 : decode code 1120 = .ok (.ifCond .eq 5, 3) := by decide +kernel
theorem dL_law_1123 : decode code 1123 = .ok (.iconst 0, 1) := by decide +kernel
theorem dL_law_1124 : decode code 1124 = .ok (.ireturn, 1) := by decide +kernel
theorem dL_law_1125 : decode code 1125 = .ok (.goto 302, 3) := by decide +kernel
theorem dL_law_1128 : decode code 1128 = .ok (.aload_n 1, 1) := by decide +kernel
theorem dL_law_1129 : decode code 1129 = .ok (.aload_n 0, 1) := by decide +kernel
theorem dL_law_1130 : decode code 1130 = .ok (.iload 4, 2) := by decide +kernel
theorem dL_law_1132 : decode code 1132 = .ok (.iconst 1, 1) := by decide +kernel
theorem dL_law_1133 : decode code 1133 = .ok (.iadd, 1) := by decide +kernel
theorem dL_law_1134 : decode code 1134 = .ok (.iaload, 1) := by decide +kernel
theorem dL_law_1135 : decode code 1135 = .ok (.invokevirtual 150, 3) := by decide +kernel
theorem dL_law_1138 : decode code 1138 = .ok (.aload_n 2, 1) := by decide +kernel
theorem dL_law_1139 : decode code 1139 = .ok (.aload_n 0, 1) := by decide +kernel
theorem dL_law_1140 : decode code 1140 = .ok (.iload 4, 2) := by decide +kernel
theorem dL_law_1142 : decode code 1142 = .ok (.iconst 1, 1) := by decide +kernel
theorem dL_law_1143 : decode code 1143 = .ok (.iadd, 1) := by decide +kernel
theorem dL_law_1144 : decode code 1144 = .ok (.iaload, 1) := by decide +kernel
theorem dL_law_1145 : decode code 1145 = .ok (.invokevirtual 153, 3) := by decide +kernel
theorem dL_law_1148 : decode code 1148 = .ok (.if_icmp .eq 279, 3) := by decide +kernel
theorem dL_law_1151 : decode code 1151 = .ok (.iconst 0, 1) := by decide +kernel
theorem dL_law_1152 : decode code 1152 = .ok (.ireturn, 1) := by decide +kernel
theorem dL_law_1153 : decode code 1153 = .ok (.aload_n 1, 1) := by decide +kernel
theorem dL_law_1154 : decode code 1154 = .ok (.aload_n 0, 1) := by decide +kernel
theorem dL_law_1155 : decode code 1155 = .ok (.iload 4, 2) := by decide +kernel
theorem dL_law_1157 : decode code 1157 = .ok (.iconst 1, 1) := by decide +kernel
theorem dL_law_1158 : decode code 1158 = .ok (.iadd, 1) := by decide +kernel
theorem dL_law_1159 : decode code 1159 = .ok (.iaload, 1) := by decide +kernel
theorem dL_law_1160 : decode code 1160 = .ok (.invokevirtual 154, 3) := by decide +kernel
theorem dL_law_1163 : decode code 1163 = .ok (.aload_n 2, 1) := by decide +kernel
theorem dL_law_1164 : decode code 1164 = .ok (.aload_n 0, 1) := by decide +kernel
theorem dL_law_1165 : decode code 1165 = .ok (.iload 4, 2) := by decide +kernel
theorem dL_law_1167 : decode code 1167 = .ok (.iconst 1, 1) := by decide +kernel
theorem dL_law_1168 : decode code 1168 = .ok (.iadd, 1) := by decide +kernel
theorem dL_law_1169 : decode code 1169 = .ok (.iaload, 1) := by decide +kernel
theorem dL_law_1170 : decode code 1170 = .ok (.invokevirtual 157, 3) := by decide +kernel
theorem dL_law_1173 : decode code 1173 = .ok (.if_icmp .eq 254, 3) := by decide +kernel
theorem dL_law_1176 : decode code 1176 = .ok (.iconst 0, 1) := by decide +kernel
theorem dL_law_1177 : decode code 1177 = .ok (.ireturn, 1) := by decide +kernel
theorem dL_law_1178 : decode code 1178 = .ok (.aload_n 1, 1) := by decide +kernel
theorem dL_law_1179 : decode code 1179 = .ok (.aload_n 0, 1) := by decide +kernel
theorem dL_law_1180 : decode code 1180 = .ok (.iload 4, 2) := by decide +kernel
theorem dL_law_1182 : decode code 1182 = .ok (.iconst 1, 1) := by decide +kernel
theorem dL_law_1183 : decode code 1183 = .ok (.iadd, 1) := by decide +kernel
theorem dL_law_1184 : decode code 1184 = .ok (.iaload, 1) := by decide +kernel
theorem dL_law_1185 : decode code 1185 = .ok (.aload_n 0, 1) := by decide +kernel
theorem dL_law_1186 : decode code 1186 = .ok (.iload 4, 2) := by decide +kernel
theorem dL_law_1188 : decode code 1188 = .ok (.iconst 2, 1) := by decide +kernel
theorem dL_law_1189 : decode code 1189 = .ok (.iadd, 1) := by decide +kernel
theorem dL_law_1190 : decode code 1190 = .ok (.iaload, 1) := by decide +kernel
theorem dL_law_1191 : decode code 1191 = .ok (.invokevirtual 158, 3) := by decide +kernel
theorem dL_law_1194 : decode code 1194 = .ok (.aload_n 2, 1) := by decide +kernel
theorem dL_law_1195 : decode code 1195 = .ok (.aload_n 0, 1) := by decide +kernel
theorem dL_law_1196 : decode code 1196 = .ok (.iload 4, 2) := by decide +kernel
theorem dL_law_1198 : decode code 1198 = .ok (.iconst 1, 1) := by decide +kernel
theorem dL_law_1199 : decode code 1199 = .ok (.iadd, 1) := by decide +kernel
theorem dL_law_1200 : decode code 1200 = .ok (.iaload, 1) := by decide +kernel
theorem dL_law_1201 : decode code 1201 = .ok (.aload_n 0, 1) := by decide +kernel
theorem dL_law_1202 : decode code 1202 = .ok (.iload 4, 2) := by decide +kernel
theorem dL_law_1204 : decode code 1204 = .ok (.iconst 2, 1) := by decide +kernel
theorem dL_law_1205 : decode code 1205 = .ok (.iadd, 1) := by decide +kernel
theorem dL_law_1206 : decode code 1206 = .ok (.iaload, 1) := by decide +kernel
theorem dL_law_1207 : decode code 1207 = .ok (.invokevirtual 161, 3) := by decide +kernel
theorem dL_law_1210 : decode code 1210 = .ok (.if_icmp .eq 217, 3) := by decide +kernel
theorem dL_law_1213 : decode code 1213 = .ok (.iconst 0, 1) := by decide +kernel
theorem dL_law_1214 : decode code 1214 = .ok (.ireturn, 1) := by decide +kernel
theorem dL_law_1215 : decode code 1215 = .ok (.aload_n 1, 1) := by decide +kernel
theorem dL_law_1216 : decode code 1216 = .ok (.aload_n 0, 1) := by decide +kernel
theorem dL_law_1217 : decode code 1217 = .ok (.iload 4, 2) := by decide +kernel
theorem dL_law_1219 : decode code 1219 = .ok (.iconst 1, 1) := by decide +kernel
theorem dL_law_1220 : decode code 1220 = .ok (.iadd, 1) := by decide +kernel
theorem dL_law_1221 : decode code 1221 = .ok (.iaload, 1) := by decide +kernel
theorem dL_law_1222 : decode code 1222 = .ok (.aload_n 0, 1) := by decide +kernel
theorem dL_law_1223 : decode code 1223 = .ok (.iload 4, 2) := by decide +kernel
theorem dL_law_1225 : decode code 1225 = .ok (.iconst 2, 1) := by decide +kernel
theorem dL_law_1226 : decode code 1226 = .ok (.iadd, 1) := by decide +kernel
theorem dL_law_1227 : decode code 1227 = .ok (.iaload, 1) := by decide +kernel
theorem dL_law_1228 : decode code 1228 = .ok (.aload_n 0, 1) := by decide +kernel
theorem dL_law_1229 : decode code 1229 = .ok (.iload 4, 2) := by decide +kernel
theorem dL_law_1231 : decode code 1231 = .ok (.iconst 3, 1) := by decide +kernel
theorem dL_law_1232 : decode code 1232 = .ok (.iadd, 1) := by decide +kernel
theorem dL_law_1233 : decode code 1233 = .ok (.iaload, 1) := by decide +kernel
theorem dL_law_1234 : decode code 1234 = .ok (.invokevirtual 162, 3) := by decide +kernel
theorem dL_law_1237 : decode code 1237 = .ok (.aload_n 2, 1) := by decide +kernel
theorem dL_law_1238 : decode code 1238 = .ok (.aload_n 0, 1) := by decide +kernel
theorem dL_law_1239 : decode code 1239 = .ok (.iload 4, 2) := by decide +kernel
theorem dL_law_1241 : decode code 1241 = .ok (.iconst 1, 1) := by decide +kernel
theorem dL_law_1242 : decode code 1242 = .ok (.iadd, 1) := by decide +kernel
theorem dL_law_1243 : decode code 1243 = .ok (.iaload, 1) := by decide +kernel
theorem dL_law_1244 : decode code 1244 = .ok (.aload_n 0, 1) := by decide +kernel
theorem dL_law_1245 : decode code 1245 = .ok (.iload 4, 2) := by decide +kernel
theorem dL_law_1247 : decode code 1247 = .ok (.iconst 2, 1) := by decide +kernel
theorem dL_law_1248 : decode code 1248 = .ok (.iadd, 1) := by decide +kernel
theorem dL_law_1249 : decode code 1249 = .ok (.iaload, 1) := by decide +kernel
theorem dL_law_1250 : decode code 1250 = .ok (.aload_n 0, 1) := by decide +kernel
theorem dL_law_1251 : decode code 1251 = .ok (.iload 4, 2) := by decide +kernel
theorem dL_law_1253 : decode code 1253 = .ok (.iconst 3, 1) := by decide +kernel
theorem dL_law_1254 : decode code 1254 = .ok (.iadd, 1) := by decide +kernel
theorem dL_law_1255 : decode code 1255 = .ok (.iaload, 1) := by decide +kernel
theorem dL_law_1256 : decode code 1256 = .ok (.invokevirtual 166, 3) := by decide +kernel
theorem dL_law_1259 : decode code 1259 = .ok (.if_icmp .eq 168, 3) := by decide +kernel
theorem dL_law_1262 : decode code 1262 = .ok (.iconst 0, 1) := by decide +kernel
theorem dL_law_1263 : decode code 1263 = .ok (.ireturn, 1) := by decide +kernel
theorem dL_law_1264 : decode code 1264 = .ok (.aload_n 1, 1) := by decide +kernel
theorem dL_law_1265 : decode code 1265 = .ok (.aload_n 0, 1) := by decide +kernel
theorem dL_law_1266 : decode code 1266 = .ok (.iload 4, 2) := by decide +kernel
theorem dL_law_1268 : decode code 1268 = .ok (.iconst 1, 1) := by decide +kernel
theorem dL_law_1269 : decode code 1269 = .ok (.iadd, 1) := by decide +kernel
theorem dL_law_1270 : decode code 1270 = .ok (.iaload, 1) := by decide +kernel
theorem dL_law_1271 : decode code 1271 = .ok (.invokevirtual 167, 3) := by decide +kernel
theorem dL_law_1274 : decode code 1274 = .ok (.aload_n 2, 1) := by decide +kernel
theorem dL_law_1275 : decode code 1275 = .ok (.aload_n 0, 1) := by decide +kernel
theorem dL_law_1276 : decode code 1276 = .ok (.iload 4, 2) := by decide +kernel
theorem dL_law_1278 : decode code 1278 = .ok (.iconst 1, 1) := by decide +kernel
theorem dL_law_1279 : decode code 1279 = .ok (.iadd, 1) := by decide +kernel
theorem dL_law_1280 : decode code 1280 = .ok (.iaload, 1) := by decide +kernel
theorem dL_law_1281 : decode code 1281 = .ok (.invokevirtual 170, 3) := by decide +kernel
theorem dL_law_1284 : decode code 1284 = .ok (.if_icmp .eq 143, 3) := by decide +kernel
theorem dL_law_1287 : decode code 1287 = .ok (.iconst 0, 1) := by decide +kernel
theorem dL_law_1288 : decode code 1288 = .ok (.ireturn, 1) := by decide +kernel
theorem dL_law_1289 : decode code 1289 = .ok (.aload_n 1, 1) := by decide +kernel
theorem dL_law_1290 : decode code 1290 = .ok (.aload_n 0, 1) := by decide +kernel
theorem dL_law_1291 : decode code 1291 = .ok (.iload 4, 2) := by decide +kernel
theorem dL_law_1293 : decode code 1293 = .ok (.iconst 1, 1) := by decide +kernel
theorem dL_law_1294 : decode code 1294 = .ok (.iadd, 1) := by decide +kernel
theorem dL_law_1295 : decode code 1295 = .ok (.iaload, 1) := by decide +kernel
theorem dL_law_1296 : decode code 1296 = .ok (.invokevirtual 171, 3) := by decide +kernel
theorem dL_law_1299 : decode code 1299 = .ok (.aload_n 2, 1) := by decide +kernel
theorem dL_law_1300 : decode code 1300 = .ok (.aload_n 0, 1) := by decide +kernel
theorem dL_law_1301 : decode code 1301 = .ok (.iload 4, 2) := by decide +kernel
theorem dL_law_1303 : decode code 1303 = .ok (.iconst 1, 1) := by decide +kernel
theorem dL_law_1304 : decode code 1304 = .ok (.iadd, 1) := by decide +kernel
theorem dL_law_1305 : decode code 1305 = .ok (.iaload, 1) := by decide +kernel
theorem dL_law_1306 : decode code 1306 = .ok (.invokevirtual 174, 3) := by decide +kernel
theorem dL_law_1309 : decode code 1309 = .ok (.if_icmp .eq 118, 3) := by decide +kernel
theorem dL_law_1312 : decode code 1312 = .ok (.iconst 0, 1) := by decide +kernel
theorem dL_law_1313 : decode code 1313 = .ok (.ireturn, 1) := by decide +kernel
theorem dL_law_1314 : decode code 1314 = .ok (.aload_n 1, 1) := by decide +kernel
theorem dL_law_1315 : decode code 1315 = .ok (.invokevirtual 175, 3) := by decide +kernel
theorem dL_law_1318 : decode code 1318 = .ok (.aload_n 2, 1) := by decide +kernel
theorem dL_law_1319 : decode code 1319 = .ok (.invokevirtual 178, 3) := by decide +kernel
theorem dL_law_1322 : decode code 1322 = .ok (.if_icmp .eq 105, 3) := by decide +kernel
theorem dL_law_1325 : decode code 1325 = .ok (.iconst 0, 1) := by decide +kernel
theorem dL_law_1326 : decode code 1326 = .ok (.ireturn, 1) := by decide +kernel
theorem dL_law_1327 : decode code 1327 = .ok (.aload_n 1, 1) := by decide +kernel
theorem dL_law_1328 : decode code 1328 = .ok (.aload_n 0, 1) := by decide +kernel
theorem dL_law_1329 : decode code 1329 = .ok (.iload 4, 2) := by decide +kernel
theorem dL_law_1331 : decode code 1331 = .ok (.iconst 1, 1) := by decide +kernel
theorem dL_law_1332 : decode code 1332 = .ok (.iadd, 1) := by decide +kernel
theorem dL_law_1333 : decode code 1333 = .ok (.iaload, 1) := by decide +kernel
theorem dL_law_1334 : decode code 1334 = .ok (.invokevirtual 179, 3) := by decide +kernel
theorem dL_law_1337 : decode code 1337 = .ok (.aload_n 2, 1) := by decide +kernel
theorem dL_law_1338 : decode code 1338 = .ok (.aload_n 0, 1) := by decide +kernel
theorem dL_law_1339 : decode code 1339 = .ok (.iload 4, 2) := by decide +kernel
theorem dL_law_1341 : decode code 1341 = .ok (.iconst 1, 1) := by decide +kernel
theorem dL_law_1342 : decode code 1342 = .ok (.iadd, 1) := by decide +kernel
theorem dL_law_1343 : decode code 1343 = .ok (.iaload, 1) := by decide +kernel
theorem dL_law_1344 : decode code 1344 = .ok (.invokevirtual 182, 3) := by decide +kernel
theorem dL_law_1347 : decode code 1347 = .ok (.if_icmp .eq 80, 3) := by decide +kernel
theorem dL_law_1350 : decode code 1350 = .ok (.iconst 0, 1) := by decide +kernel
theorem dL_law_1351 : decode code 1351 = .ok (.ireturn, 1) := by decide +kernel
theorem dL_law_1352 : decode code 1352 = .ok (.aload_n 1, 1) := by decide +kernel
theorem dL_law_1353 : decode code 1353 = .ok (.aload_n 0, 1) := by decide +kernel
theorem dL_law_1354 : decode code 1354 = .ok (.iload 4, 2) := by decide +kernel
theorem dL_law_1356 : decode code 1356 = .ok (.iconst 1, 1) := by decide +kernel
theorem dL_law_1357 : decode code 1357 = .ok (.iadd, 1) := by decide +kernel
theorem dL_law_1358 : decode code 1358 = .ok (.iaload, 1) := by decide +kernel
theorem dL_law_1359 : decode code 1359 = .ok (.invokevirtual 183, 3) := by decide +kernel
theorem dL_law_1362 : decode code 1362 = .ok (.aload_n 2, 1) := by decide +kernel
theorem dL_law_1363 : decode code 1363 = .ok (.aload_n 0, 1) := by decide +kernel
theorem dL_law_1364 : decode code 1364 = .ok (.iload 4, 2) := by decide +kernel
theorem dL_law_1366 : decode code 1366 = .ok (.iconst 1, 1) := by decide +kernel
theorem dL_law_1367 : decode code 1367 = .ok (.iadd, 1) := by decide +kernel
theorem dL_law_1368 : decode code 1368 = .ok (.iaload, 1) := by decide +kernel
theorem dL_law_1369 : decode code 1369 = .ok (.invokevirtual 186, 3) := by decide +kernel
theorem dL_law_1372 : decode code 1372 = .ok (.if_icmp .eq 55, 3) := by decide +kernel
theorem dL_law_1375 : decode code 1375 = .ok (.iconst 0, 1) := by decide +kernel
theorem dL_law_1376 : decode code 1376 = .ok (.ireturn, 1) := by decide +kernel
theorem dL_law_1377 : decode code 1377 = .ok (.aload_n 1, 1) := by decide +kernel
theorem dL_law_1378 : decode code 1378 = .ok (.aload_n 0, 1) := by decide +kernel
theorem dL_law_1379 : decode code 1379 = .ok (.iload 4, 2) := by decide +kernel
theorem dL_law_1381 : decode code 1381 = .ok (.iconst 1, 1) := by decide +kernel
theorem dL_law_1382 : decode code 1382 = .ok (.iadd, 1) := by decide +kernel
theorem dL_law_1383 : decode code 1383 = .ok (.iaload, 1) := by decide +kernel
theorem dL_law_1384 : decode code 1384 = .ok (.invokevirtual 187, 3) := by decide +kernel
theorem dL_law_1387 : decode code 1387 = .ok (.aload_n 2, 1) := by decide +kernel
theorem dL_law_1388 : decode code 1388 = .ok (.aload_n 0, 1) := by decide +kernel
theorem dL_law_1389 : decode code 1389 = .ok (.iload 4, 2) := by decide +kernel
theorem dL_law_1391 : decode code 1391 = .ok (.iconst 1, 1) := by decide +kernel
theorem dL_law_1392 : decode code 1392 = .ok (.iadd, 1) := by decide +kernel
theorem dL_law_1393 : decode code 1393 = .ok (.iaload, 1) := by decide +kernel
theorem dL_law_1394 : decode code 1394 = .ok (.invokevirtual 190, 3) := by decide +kernel
theorem dL_law_1397 : decode code 1397 = .ok (.if_icmp .eq 30, 3) := by decide +kernel
theorem dL_law_1400 : decode code 1400 = .ok (.iconst 0, 1) := by decide +kernel
theorem dL_law_1401 : decode code 1401 = .ok (.ireturn, 1) := by decide +kernel
theorem dL_law_1402 : decode code 1402 = .ok (.aload_n 1, 1) := by decide +kernel
theorem dL_law_1403 : decode code 1403 = .ok (.aload_n 0, 1) := by decide +kernel
theorem dL_law_1404 : decode code 1404 = .ok (.iload 4, 2) := by decide +kernel
theorem dL_law_1406 : decode code 1406 = .ok (.iconst 1, 1) := by decide +kernel
theorem dL_law_1407 : decode code 1407 = .ok (.iadd, 1) := by decide +kernel
theorem dL_law_1408 : decode code 1408 = .ok (.iaload, 1) := by decide +kernel
theorem dL_law_1409 : decode code 1409 = .ok (.invokevirtual 191, 3) := by decide +kernel
theorem dL_law_1412 : decode code 1412 = .ok (.aload_n 2, 1) := by decide +kernel
theorem dL_law_1413 : decode code 1413 = .ok (.aload_n 0, 1) := by decide +kernel
theorem dL_law_1414 : decode code 1414 = .ok (.iload 4, 2) := by decide +kernel
theorem dL_law_1416 : decode code 1416 = .ok (.iconst 1, 1) := by decide +kernel
theorem dL_law_1417 : decode code 1417 = .ok (.iadd, 1) := by decide +kernel
theorem dL_law_1418 : decode code 1418 = .ok (.iaload, 1) := by decide +kernel
theorem dL_law_1419 : decode code 1419 = .ok (.invokevirtual 194, 3) := by decide +kernel
theorem dL_law_1422 : decode code 1422 = .ok (.if_icmp .eq 5, 3) := by decide +kernel
theorem dL_law_1425 : decode code 1425 = .ok (.iconst 0, 1) := by decide +kernel
theorem dL_law_1426 : decode code 1426 = .ok (.ireturn, 1) := by decide +kernel
theorem dL_law_1427 : decode code 1427 = .ok (.iinc 4 6, 3) := by decide +kernel
theorem dL_law_1430 : decode code 1430 = .ok (.goto (-1407), 3) := by decide +kernel
theorem dL_law_1433 : decode code 1433 = .ok (.iconst 1, 1) := by decide +kernel
theorem dL_law_1434 : decode code 1434 = .ok (.ireturn, 1) := by decide +kernel
def f_L_law_1427 (L : Nat) (xs : Nat → Int32) (k23 : XM → XM → XM → Int32 → Option (Int32)) (w0 : XM) (w1 : XM) (w2 : XM) (l4 : Int32) : Option (Int32) :=
  k23 w0 w1 w2 (l4 + 6)
def f_L_law_220 (L : Nat) (xs : Nat → Int32) (k23 : XM → XM → XM → Int32 → Option (Int32)) (w0 : XM) (w1 : XM) (w2 : XM) (l4 : Int32) : Option (Int32) :=
  x_ck (l4 + (1 : Int32)) L (
  x_ck (l4 + (2 : Int32)) L (
  x_ck (l4 + (3 : Int32)) L (
  x_ck (l4 + (4 : Int32)) L (
  x_ck (l4 + (5 : Int32)) L (
  x_bo (f_X11_feed w0 (xs (l4 + (1 : Int32)).toNatClampNeg) (xs (l4 + (2 : Int32)).toNatClampNeg) (xs (l4 + (3 : Int32)).toNatClampNeg) (xs (l4 + (4 : Int32)).toNatClampNeg) (xs (l4 + (5 : Int32)).toNatClampNeg)) (fun y1 =>
  x_ck (l4 + (1 : Int32)) L (
  x_ck (l4 + (2 : Int32)) L (
  x_ck (l4 + (3 : Int32)) L (
  x_ck (l4 + (4 : Int32)) L (
  x_ck (l4 + (5 : Int32)) L (
  x_bo (f_X12_feed w1 (xs (l4 + (1 : Int32)).toNatClampNeg) (xs (l4 + (2 : Int32)).toNatClampNeg) (xs (l4 + (3 : Int32)).toNatClampNeg) (xs (l4 + (4 : Int32)).toNatClampNeg) (xs (l4 + (5 : Int32)).toNatClampNeg)) (fun y2 =>
  if (y1.1 : Int32) = y2.1 then
  (f_L_law_1427 L xs k23 y1.2 y2.2 w2 l4)
  else (some (0 : Int32))))))))))))))
def f_L_law_293 (L : Nat) (xs : Nat → Int32) (k23 : XM → XM → XM → Int32 → Option (Int32)) (w0 : XM) (w1 : XM) (w2 : XM) (l4 : Int32) : Option (Int32) :=
  x_ck (l4 + (1 : Int32)) L (
  x_lt (f_X11_end w0 (xs (l4 + (1 : Int32)).toNatClampNeg)) (fun y3 =>
  x_ck (l4 + (1 : Int32)) L (
  x_lt (f_X12_end w1 (xs (l4 + (1 : Int32)).toNatClampNeg)) (fun y4 =>
  if (y3.1 : Int32) = y4.1 then
  (f_L_law_1427 L xs k23 y3.2 y4.2 w2 l4)
  else (some (0 : Int32))))))
def f_L_law_318 (L : Nat) (xs : Nat → Int32) (k23 : XM → XM → XM → Int32 → Option (Int32)) (w0 : XM) (w1 : XM) (w2 : XM) (l4 : Int32) : Option (Int32) :=
  x_bo (f_X11_valley w0) (fun y5 =>
  x_bo (f_X12_valley w1) (fun y6 =>
  if (y5.1 : Int32) = y6.1 then
  (f_L_law_1427 L xs k23 y5.2 y6.2 w2 l4)
  else (some (0 : Int32))))
def f_L_law_331 (L : Nat) (xs : Nat → Int32) (k23 : XM → XM → XM → Int32 → Option (Int32)) (w0 : XM) (w1 : XM) (w2 : XM) (l4 : Int32) : Option (Int32) :=
  x_lt (f_X11_fault w0) (fun y7 =>
  x_lt (f_X12_fault w1) (fun y8 =>
  if (y7 : Int32) = y8.1 then
  (f_L_law_1427 L xs k23 w0 y8.2 w2 l4)
  else (some (0 : Int32))))
def f_L_law_409 (L : Nat) (xs : Nat → Int32) (k23 : XM → XM → XM → Int32 → Option (Int32)) (w0 : XM) (w1 : XM) (w2 : XM) (l4 : Int32) : Option (Int32) :=
  f_L_law_1427 L xs k23 w0 w1 w2 l4
def f_L_law_344 (L : Nat) (xs : Nat → Int32) (k23 : XM → XM → XM → Int32 → Option (Int32)) (w0 : XM) (w1 : XM) (w2 : XM) (l4 : Int32) : Option (Int32) :=
  x_ck (l4 + (1 : Int32)) L (
  x_ck (l4 + (2 : Int32)) L (
  x_bo (f_L_walker w0 w2 (xs (l4 + (1 : Int32)).toNatClampNeg) (xs (l4 + (2 : Int32)).toNatClampNeg)) (fun y9 =>
  x_ck (l4 + (1 : Int32)) L (
  x_ck (l4 + (2 : Int32)) L (
  x_bo (f_X12_walker w1 (xs (l4 + (1 : Int32)).toNatClampNeg) (xs (l4 + (2 : Int32)).toNatClampNeg)) (fun y10 =>
  x_lt (f_X12_thrown y10.2) (fun y11 =>
  if (y11 : Int32) = y9.1 then
  (if y9.1 = (0 : Int32) then
  (if (lg_cmp (x_gl y9.2.2 0 (0 : Int32)) ((y10.1 : Int32).toInt64)) = (0 : Int32) then
  (f_L_law_409 L xs k23 y9.2.1 y10.2 y9.2.2 l4)
  else (some (0 : Int32)))
  else (f_L_law_409 L xs k23 y9.2.1 y10.2 y9.2.2 l4))
  else (some (0 : Int32)))))))))
def f_L_law_412 (L : Nat) (xs : Nat → Int32) (k23 : XM → XM → XM → Int32 → Option (Int32)) (w0 : XM) (w1 : XM) (w2 : XM) (l4 : Int32) : Option (Int32) :=
  x_ck (l4 + (1 : Int32)) L (
  x_ck (l4 + (2 : Int32)) L (
  x_bo (f_X11_fold w0 (xs (l4 + (1 : Int32)).toNatClampNeg) (xs (l4 + (2 : Int32)).toNatClampNeg)) (fun y12 =>
  x_ck (l4 + (1 : Int32)) L (
  x_ck (l4 + (2 : Int32)) L (
  x_bo (f_X12_fold w1 (xs (l4 + (1 : Int32)).toNatClampNeg) (xs (l4 + (2 : Int32)).toNatClampNeg)) (fun y13 =>
  if (y12 : Int32) = y13.1 then
  (f_L_law_1427 L xs k23 w0 y13.2 w2 l4)
  else (some (0 : Int32))))))))
def f_L_law_449 (L : Nat) (xs : Nat → Int32) (k23 : XM → XM → XM → Int32 → Option (Int32)) (w0 : XM) (w1 : XM) (w2 : XM) (l4 : Int32) : Option (Int32) :=
  x_ck (l4 + (1 : Int32)) L (
  x_ck (l4 + (2 : Int32)) L (
  x_bo (f_X11_spot w0 (xs (l4 + (1 : Int32)).toNatClampNeg) (xs (l4 + (2 : Int32)).toNatClampNeg)) (fun y14 =>
  x_ck (l4 + (1 : Int32)) L (
  x_ck (l4 + (2 : Int32)) L (
  x_bo (f_X12_spot w1 (xs (l4 + (1 : Int32)).toNatClampNeg) (xs (l4 + (2 : Int32)).toNatClampNeg)) (fun y15 =>
  if (y14 : Int32) = y15.1 then
  (f_L_law_1427 L xs k23 w0 y15.2 w2 l4)
  else (some (0 : Int32))))))))
def f_L_law_486 (L : Nat) (xs : Nat → Int32) (k23 : XM → XM → XM → Int32 → Option (Int32)) (w0 : XM) (w1 : XM) (w2 : XM) (l4 : Int32) : Option (Int32) :=
  x_ck (l4 + (1 : Int32)) L (
  x_bo (f_X11_now w0 (xs (l4 + (1 : Int32)).toNatClampNeg)) (fun y16 =>
  x_ck (l4 + (1 : Int32)) L (
  x_bo (f_X12_now w1 (xs (l4 + (1 : Int32)).toNatClampNeg)) (fun y17 =>
  if (y16.1 : Int32) = y17.1 then
  (f_L_law_1427 L xs k23 y16.2 y17.2 w2 l4)
  else (some (0 : Int32))))))
def f_L_law_511 (L : Nat) (xs : Nat → Int32) (k23 : XM → XM → XM → Int32 → Option (Int32)) (w0 : XM) (w1 : XM) (w2 : XM) (l4 : Int32) : Option (Int32) :=
  x_ck (l4 + (1 : Int32)) L (
  x_ck (l4 + (2 : Int32)) L (
  x_bo (f_X11_walk w0 (xs (l4 + (1 : Int32)).toNatClampNeg) (xs (l4 + (2 : Int32)).toNatClampNeg)) (fun y18 =>
  x_ck (l4 + (1 : Int32)) L (
  x_ck (l4 + (2 : Int32)) L (
  x_bo (f_X12_walk w1 (xs (l4 + (1 : Int32)).toNatClampNeg) (xs (l4 + (2 : Int32)).toNatClampNeg)) (fun y19 =>
  if (y18.1 : Int32) = y19.1 then
  (f_L_law_1427 L xs k23 y18.2 y19.2 w2 l4)
  else (some (0 : Int32))))))))
def f_L_law_548 (L : Nat) (xs : Nat → Int32) (k23 : XM → XM → XM → Int32 → Option (Int32)) (w0 : XM) (w1 : XM) (w2 : XM) (l4 : Int32) : Option (Int32) :=
  x_ck (l4 + (1 : Int32)) L (
  x_ck (l4 + (2 : Int32)) L (
  x_bo (f_X11_learn w0 (xs (l4 + (1 : Int32)).toNatClampNeg) (xs (l4 + (2 : Int32)).toNatClampNeg)) (fun y20 =>
  x_ck (l4 + (1 : Int32)) L (
  x_ck (l4 + (2 : Int32)) L (
  x_bo (f_X12_learn w1 (xs (l4 + (1 : Int32)).toNatClampNeg) (xs (l4 + (2 : Int32)).toNatClampNeg)) (fun y21 =>
  if (y20.1 : Int32) = y21.1 then
  (f_L_law_1427 L xs k23 y20.2 y21.2 w2 l4)
  else (some (0 : Int32))))))))
def f_L_law_585 (L : Nat) (xs : Nat → Int32) (k23 : XM → XM → XM → Int32 → Option (Int32)) (w0 : XM) (w1 : XM) (w2 : XM) (l4 : Int32) : Option (Int32) :=
  x_ck (l4 + (1 : Int32)) L (
  x_ck (l4 + (2 : Int32)) L (
  x_bo (f_X11_tell w0 (xs (l4 + (1 : Int32)).toNatClampNeg) (xs (l4 + (2 : Int32)).toNatClampNeg)) (fun y22 =>
  x_ck (l4 + (1 : Int32)) L (
  x_ck (l4 + (2 : Int32)) L (
  x_bo (f_X12_tell w1 (xs (l4 + (1 : Int32)).toNatClampNeg) (xs (l4 + (2 : Int32)).toNatClampNeg)) (fun y23 =>
  if (y22.1 : Int32) = y23.1 then
  (f_L_law_1427 L xs k23 y22.2 y23.2 w2 l4)
  else (some (0 : Int32))))))))
def f_L_law_622 (L : Nat) (xs : Nat → Int32) (k23 : XM → XM → XM → Int32 → Option (Int32)) (w0 : XM) (w1 : XM) (w2 : XM) (l4 : Int32) : Option (Int32) :=
  x_ck (l4 + (1 : Int32)) L (
  x_bo (f_X11_rest w0 (xs (l4 + (1 : Int32)).toNatClampNeg)) (fun y24 =>
  x_ck (l4 + (1 : Int32)) L (
  x_bo (f_X12_rest w1 (xs (l4 + (1 : Int32)).toNatClampNeg)) (fun y25 =>
  if (y24.1 : Int32) = y25.1 then
  (f_L_law_1427 L xs k23 y24.2 y25.2 w2 l4)
  else (some (0 : Int32))))))
def f_L_law_647 (L : Nat) (xs : Nat → Int32) (k23 : XM → XM → XM → Int32 → Option (Int32)) (w0 : XM) (w1 : XM) (w2 : XM) (l4 : Int32) : Option (Int32) :=
  x_ck (l4 + (1 : Int32)) L (
  x_bo (f_X11_cream w0 (xs (l4 + (1 : Int32)).toNatClampNeg)) (fun y26 =>
  x_ck (l4 + (1 : Int32)) L (
  x_bo (f_X12_cream w1 (xs (l4 + (1 : Int32)).toNatClampNeg)) (fun y27 =>
  if (y26.1 : Int32) = y27.1 then
  (f_L_law_1427 L xs k23 y26.2 y27.2 w2 l4)
  else (some (0 : Int32))))))
def f_L_law_672 (L : Nat) (xs : Nat → Int32) (k23 : XM → XM → XM → Int32 → Option (Int32)) (w0 : XM) (w1 : XM) (w2 : XM) (l4 : Int32) : Option (Int32) :=
  x_ck (l4 + (1 : Int32)) L (
  x_ck (l4 + (2 : Int32)) L (
  x_bo (f_X11_slip w0 (xs (l4 + (1 : Int32)).toNatClampNeg) (xs (l4 + (2 : Int32)).toNatClampNeg)) (fun y28 =>
  x_ck (l4 + (1 : Int32)) L (
  x_ck (l4 + (2 : Int32)) L (
  x_bo (f_X12_slip w1 (xs (l4 + (1 : Int32)).toNatClampNeg) (xs (l4 + (2 : Int32)).toNatClampNeg)) (fun y29 =>
  if (y28.1 : Int32) = y29.1 then
  (f_L_law_1427 L xs k23 y28.2 y29.2 w2 l4)
  else (some (0 : Int32))))))))
def f_L_law_709 (L : Nat) (xs : Nat → Int32) (k23 : XM → XM → XM → Int32 → Option (Int32)) (w0 : XM) (w1 : XM) (w2 : XM) (l4 : Int32) : Option (Int32) :=
  x_ck (l4 + (1 : Int32)) L (
  x_bo (f_X11_mood w0 (xs (l4 + (1 : Int32)).toNatClampNeg)) (fun y30 =>
  x_ck (l4 + (1 : Int32)) L (
  x_bo (f_X12_mood w1 (xs (l4 + (1 : Int32)).toNatClampNeg)) (fun y31 =>
  if (y30.1 : Int32) = y31.1 then
  (f_L_law_1427 L xs k23 y30.2 y31.2 w2 l4)
  else (some (0 : Int32))))))
def f_L_law_734 (L : Nat) (xs : Nat → Int32) (k23 : XM → XM → XM → Int32 → Option (Int32)) (w0 : XM) (w1 : XM) (w2 : XM) (l4 : Int32) : Option (Int32) :=
  x_ck (l4 + (1 : Int32)) L (
  x_bo (f_X11_hours w0 (xs (l4 + (1 : Int32)).toNatClampNeg)) (fun y32 =>
  x_ck (l4 + (1 : Int32)) L (
  x_bo (f_X12_hours w1 (xs (l4 + (1 : Int32)).toNatClampNeg)) (fun y33 =>
  if (y32.1 : Int32) = y33.1 then
  (f_L_law_1427 L xs k23 y32.2 y33.2 w2 l4)
  else (some (0 : Int32))))))
def f_L_law_759 (L : Nat) (xs : Nat → Int32) (k23 : XM → XM → XM → Int32 → Option (Int32)) (w0 : XM) (w1 : XM) (w2 : XM) (l4 : Int32) : Option (Int32) :=
  x_lt (f_X11_undo w0) (fun y34 =>
  x_bo (f_X12_undo w1) (fun y35 =>
  if (y34.1 : Int32) = y35.1 then
  (f_L_law_1427 L xs k23 y34.2 y35.2 w2 l4)
  else (some (0 : Int32))))
def f_L_law_772 (L : Nat) (xs : Nat → Int32) (k23 : XM → XM → XM → Int32 → Option (Int32)) (w0 : XM) (w1 : XM) (w2 : XM) (l4 : Int32) : Option (Int32) :=
  x_ck (l4 + (1 : Int32)) L (
  x_ck (l4 + (2 : Int32)) L (
  x_bo (f_X11_takes w0 (xs (l4 + (1 : Int32)).toNatClampNeg) (xs (l4 + (2 : Int32)).toNatClampNeg)) (fun y36 =>
  x_ck (l4 + (1 : Int32)) L (
  x_ck (l4 + (2 : Int32)) L (
  x_bo (f_X12_takes w1 (xs (l4 + (1 : Int32)).toNatClampNeg) (xs (l4 + (2 : Int32)).toNatClampNeg)) (fun y37 =>
  if (y36 : Int32) = y37.1 then
  (f_L_law_1427 L xs k23 w0 y37.2 w2 l4)
  else (some (0 : Int32))))))))
def f_L_law_809 (L : Nat) (xs : Nat → Int32) (k23 : XM → XM → XM → Int32 → Option (Int32)) (w0 : XM) (w1 : XM) (w2 : XM) (l4 : Int32) : Option (Int32) :=
  x_ck (l4 + (1 : Int32)) L (
  x_ck (l4 + (2 : Int32)) L (
  x_bo (f_X11_way w0 (xs (l4 + (1 : Int32)).toNatClampNeg) (xs (l4 + (2 : Int32)).toNatClampNeg)) (fun y38 =>
  x_ck (l4 + (1 : Int32)) L (
  x_ck (l4 + (2 : Int32)) L (
  x_bo (f_X12_way w1 (xs (l4 + (1 : Int32)).toNatClampNeg) (xs (l4 + (2 : Int32)).toNatClampNeg)) (fun y39 =>
  if (y38.1 : Int32) = y39.1 then
  (f_L_law_1427 L xs k23 y38.2 y39.2 w2 l4)
  else (some (0 : Int32))))))))
def f_L_law_846 (L : Nat) (xs : Nat → Int32) (k23 : XM → XM → XM → Int32 → Option (Int32)) (w0 : XM) (w1 : XM) (w2 : XM) (l4 : Int32) : Option (Int32) :=
  x_ck (l4 + (1 : Int32)) L (
  x_lt (f_X11_wayAt w0 (xs (l4 + (1 : Int32)).toNatClampNeg)) (fun y40 =>
  x_ck (l4 + (1 : Int32)) L (
  x_bo (f_X12_wayAt w1 (xs (l4 + (1 : Int32)).toNatClampNeg)) (fun y41 =>
  if (y40 : Int32) = y41.1 then
  (f_L_law_1427 L xs k23 w0 y41.2 w2 l4)
  else (some (0 : Int32))))))
def f_L_law_871 (L : Nat) (xs : Nat → Int32) (k23 : XM → XM → XM → Int32 → Option (Int32)) (w0 : XM) (w1 : XM) (w2 : XM) (l4 : Int32) : Option (Int32) :=
  x_ck (l4 + (1 : Int32)) L (
  x_bo (f_X11_reaches w0 (xs (l4 + (1 : Int32)).toNatClampNeg)) (fun y42 =>
  x_ck (l4 + (1 : Int32)) L (
  x_bo (f_X12_reaches w1 (xs (l4 + (1 : Int32)).toNatClampNeg)) (fun y43 =>
  if (y42.1 : Int32) = y43.1 then
  (f_L_law_1427 L xs k23 y42.2 y43.2 w2 l4)
  else (some (0 : Int32))))))
def f_L_law_896 (L : Nat) (xs : Nat → Int32) (k23 : XM → XM → XM → Int32 → Option (Int32)) (w0 : XM) (w1 : XM) (w2 : XM) (l4 : Int32) : Option (Int32) :=
  x_ck (l4 + (1 : Int32)) L (
  x_bo (f_X11_gather w0 (xs (l4 + (1 : Int32)).toNatClampNeg)) (fun y44 =>
  x_ck (l4 + (1 : Int32)) L (
  x_bo (f_X12_gather w1 (xs (l4 + (1 : Int32)).toNatClampNeg)) (fun y45 =>
  if (y44.1 : Int32) = y45.1 then
  (f_L_law_1427 L xs k23 y44.2 y45.2 w2 l4)
  else (some (0 : Int32))))))
def f_L_law_921 (L : Nat) (xs : Nat → Int32) (k23 : XM → XM → XM → Int32 → Option (Int32)) (w0 : XM) (w1 : XM) (w2 : XM) (l4 : Int32) : Option (Int32) :=
  x_ck (l4 + (1 : Int32)) L (
  x_lt (f_X11_gatherAt w0 (xs (l4 + (1 : Int32)).toNatClampNeg)) (fun y46 =>
  x_ck (l4 + (1 : Int32)) L (
  x_bo (f_X12_gatherAt w1 (xs (l4 + (1 : Int32)).toNatClampNeg)) (fun y47 =>
  if (y46 : Int32) = y47.1 then
  (f_L_law_1427 L xs k23 w0 y47.2 w2 l4)
  else (some (0 : Int32))))))
def f_L_law_946 (L : Nat) (xs : Nat → Int32) (k23 : XM → XM → XM → Int32 → Option (Int32)) (w0 : XM) (w1 : XM) (w2 : XM) (l4 : Int32) : Option (Int32) :=
  x_ck (l4 + (1 : Int32)) L (
  x_ck (l4 + (2 : Int32)) L (
  x_bo (f_X11_meet w0 (xs (l4 + (1 : Int32)).toNatClampNeg) (xs (l4 + (2 : Int32)).toNatClampNeg)) (fun y48 =>
  x_ck (l4 + (1 : Int32)) L (
  x_ck (l4 + (2 : Int32)) L (
  x_bo (f_X12_meet w1 (xs (l4 + (1 : Int32)).toNatClampNeg) (xs (l4 + (2 : Int32)).toNatClampNeg)) (fun y49 =>
  if (y48.1 : Int32) = y49.1 then
  (f_L_law_1427 L xs k23 y48.2 y49.2 w2 l4)
  else (some (0 : Int32))))))))
def f_L_law_983 (L : Nat) (xs : Nat → Int32) (k23 : XM → XM → XM → Int32 → Option (Int32)) (w0 : XM) (w1 : XM) (w2 : XM) (l4 : Int32) : Option (Int32) :=
  x_lt (f_X11_meetAt w0) (fun y50 =>
  x_lt (f_X12_meetAt w1) (fun y51 =>
  if (y50 : Int32) = y51.1 then
  (f_L_law_1427 L xs k23 w0 y51.2 w2 l4)
  else (some (0 : Int32))))
def f_L_law_996 (L : Nat) (xs : Nat → Int32) (k23 : XM → XM → XM → Int32 → Option (Int32)) (w0 : XM) (w1 : XM) (w2 : XM) (l4 : Int32) : Option (Int32) :=
  x_ck (l4 + (1 : Int32)) L (
  x_bo (f_X11_inns w0 (xs (l4 + (1 : Int32)).toNatClampNeg)) (fun y52 =>
  x_ck (l4 + (1 : Int32)) L (
  x_bo (f_X12_inns w1 (xs (l4 + (1 : Int32)).toNatClampNeg)) (fun y53 =>
  if (y52.1 : Int32) = y53.1 then
  (f_L_law_1427 L xs k23 y52.2 y53.2 w2 l4)
  else (some (0 : Int32))))))
def f_L_law_1021 (L : Nat) (xs : Nat → Int32) (k23 : XM → XM → XM → Int32 → Option (Int32)) (w0 : XM) (w1 : XM) (w2 : XM) (l4 : Int32) : Option (Int32) :=
  x_lt (f_X11_innsAt w0) (fun y54 =>
  x_lt (f_X12_innsAt w1) (fun y55 =>
  if (y54 : Int32) = y55.1 then
  (f_L_law_1427 L xs k23 w0 y55.2 w2 l4)
  else (some (0 : Int32))))
def f_L_law_1034 (L : Nat) (xs : Nat → Int32) (k23 : XM → XM → XM → Int32 → Option (Int32)) (w0 : XM) (w1 : XM) (w2 : XM) (l4 : Int32) : Option (Int32) :=
  x_bo (f_X11_came w0) (fun y56 =>
  x_bo (f_X12_came w1) (fun y57 =>
  if (y56.1 : Int32) = y57.1 then
  (f_L_law_1427 L xs k23 y56.2 y57.2 w2 l4)
  else (some (0 : Int32))))
def f_L_law_1047 (L : Nat) (xs : Nat → Int32) (k23 : XM → XM → XM → Int32 → Option (Int32)) (w0 : XM) (w1 : XM) (w2 : XM) (l4 : Int32) : Option (Int32) :=
  x_lt (f_X11_ask w0) (fun y58 =>
  x_lt (f_X12_ask w1) (fun y59 =>
  if (y58 : Int32) = y59.1 then
  (f_L_law_1427 L xs k23 w0 y59.2 w2 l4)
  else (some (0 : Int32))))
def f_L_law_1125 (L : Nat) (xs : Nat → Int32) (k23 : XM → XM → XM → Int32 → Option (Int32)) (w0 : XM) (w1 : XM) (w2 : XM) (l4 : Int32) : Option (Int32) :=
  f_L_law_1427 L xs k23 w0 w1 w2 l4
def f_L_law_1060 (L : Nat) (xs : Nat → Int32) (k23 : XM → XM → XM → Int32 → Option (Int32)) (w0 : XM) (w1 : XM) (w2 : XM) (l4 : Int32) : Option (Int32) :=
  x_ck (l4 + (1 : Int32)) L (
  x_ck (l4 + (2 : Int32)) L (
  x_bo (f_L_mean w0 w2 (xs (l4 + (1 : Int32)).toNatClampNeg) (xs (l4 + (2 : Int32)).toNatClampNeg)) (fun y60 =>
  x_ck (l4 + (1 : Int32)) L (
  x_ck (l4 + (2 : Int32)) L (
  x_bo (f_X12_mean w1 (xs (l4 + (1 : Int32)).toNatClampNeg) (xs (l4 + (2 : Int32)).toNatClampNeg)) (fun y61 =>
  x_lt (f_X12_thrown y61.2) (fun y62 =>
  if (y62 : Int32) = y60.1 then
  (if y60.1 = (0 : Int32) then
  (if (lg_cmp (x_gl y60.2.2 0 (0 : Int32)) ((y61.1 : Int32).toInt64)) = (0 : Int32) then
  (f_L_law_1125 L xs k23 y60.2.1 y61.2 y60.2.2 l4)
  else (some (0 : Int32)))
  else (f_L_law_1125 L xs k23 y60.2.1 y61.2 y60.2.2 l4))
  else (some (0 : Int32)))))))))
def f_L_law_1128 (L : Nat) (xs : Nat → Int32) (k23 : XM → XM → XM → Int32 → Option (Int32)) (w0 : XM) (w1 : XM) (w2 : XM) (l4 : Int32) : Option (Int32) :=
  x_ck (l4 + (1 : Int32)) L (
  x_bo (f_X11_tag w0 (xs (l4 + (1 : Int32)).toNatClampNeg)) (fun y63 =>
  x_ck (l4 + (1 : Int32)) L (
  x_bo (f_X12_tag w1 (xs (l4 + (1 : Int32)).toNatClampNeg)) (fun y64 =>
  if (y63.1 : Int32) = y64.1 then
  (f_L_law_1427 L xs k23 y63.2 y64.2 w2 l4)
  else (some (0 : Int32))))))
def f_L_law_1153 (L : Nat) (xs : Nat → Int32) (k23 : XM → XM → XM → Int32 → Option (Int32)) (w0 : XM) (w1 : XM) (w2 : XM) (l4 : Int32) : Option (Int32) :=
  x_ck (l4 + (1 : Int32)) L (
  x_lt (f_X11_byteAt w0 (xs (l4 + (1 : Int32)).toNatClampNeg)) (fun y65 =>
  x_ck (l4 + (1 : Int32)) L (
  x_bo (f_X12_byteAt w1 (xs (l4 + (1 : Int32)).toNatClampNeg)) (fun y66 =>
  if (y65 : Int32) = y66.1 then
  (f_L_law_1427 L xs k23 w0 y66.2 w2 l4)
  else (some (0 : Int32))))))
def f_L_law_1178 (L : Nat) (xs : Nat → Int32) (k23 : XM → XM → XM → Int32 → Option (Int32)) (w0 : XM) (w1 : XM) (w2 : XM) (l4 : Int32) : Option (Int32) :=
  x_ck (l4 + (1 : Int32)) L (
  x_ck (l4 + (2 : Int32)) L (
  x_bo (f_X11_drawn w0 (xs (l4 + (1 : Int32)).toNatClampNeg) (xs (l4 + (2 : Int32)).toNatClampNeg)) (fun y67 =>
  x_ck (l4 + (1 : Int32)) L (
  x_ck (l4 + (2 : Int32)) L (
  x_bo (f_X12_drawn w1 (xs (l4 + (1 : Int32)).toNatClampNeg) (xs (l4 + (2 : Int32)).toNatClampNeg)) (fun y68 =>
  if (y67.1 : Int32) = y68.1 then
  (f_L_law_1427 L xs k23 y67.2 y68.2 w2 l4)
  else (some (0 : Int32))))))))
def f_L_law_1215 (L : Nat) (xs : Nat → Int32) (k23 : XM → XM → XM → Int32 → Option (Int32)) (w0 : XM) (w1 : XM) (w2 : XM) (l4 : Int32) : Option (Int32) :=
  x_ck (l4 + (1 : Int32)) L (
  x_ck (l4 + (2 : Int32)) L (
  x_ck (l4 + (3 : Int32)) L (
  x_bo (f_X11_odds w0 (xs (l4 + (1 : Int32)).toNatClampNeg) (xs (l4 + (2 : Int32)).toNatClampNeg) (xs (l4 + (3 : Int32)).toNatClampNeg)) (fun y69 =>
  x_ck (l4 + (1 : Int32)) L (
  x_ck (l4 + (2 : Int32)) L (
  x_ck (l4 + (3 : Int32)) L (
  x_bo (f_X12_odds w1 (xs (l4 + (1 : Int32)).toNatClampNeg) (xs (l4 + (2 : Int32)).toNatClampNeg) (xs (l4 + (3 : Int32)).toNatClampNeg)) (fun y70 =>
  if (y69.1 : Int32) = y70.1 then
  (f_L_law_1427 L xs k23 y69.2 y70.2 w2 l4)
  else (some (0 : Int32))))))))))
def f_L_law_1264 (L : Nat) (xs : Nat → Int32) (k23 : XM → XM → XM → Int32 → Option (Int32)) (w0 : XM) (w1 : XM) (w2 : XM) (l4 : Int32) : Option (Int32) :=
  x_ck (l4 + (1 : Int32)) L (
  x_bo (f_X11_book w0 (xs (l4 + (1 : Int32)).toNatClampNeg)) (fun y71 =>
  x_ck (l4 + (1 : Int32)) L (
  x_bo (f_X12_book w1 (xs (l4 + (1 : Int32)).toNatClampNeg)) (fun y72 =>
  if (y71.1 : Int32) = y72.1 then
  (f_L_law_1427 L xs k23 y71.2 y72.2 w2 l4)
  else (some (0 : Int32))))))
def f_L_law_1289 (L : Nat) (xs : Nat → Int32) (k23 : XM → XM → XM → Int32 → Option (Int32)) (w0 : XM) (w1 : XM) (w2 : XM) (l4 : Int32) : Option (Int32) :=
  x_ck (l4 + (1 : Int32)) L (
  x_lt (f_X11_told w0 (xs (l4 + (1 : Int32)).toNatClampNeg)) (fun y73 =>
  x_ck (l4 + (1 : Int32)) L (
  x_bo (f_X12_told w1 (xs (l4 + (1 : Int32)).toNatClampNeg)) (fun y74 =>
  if (y73 : Int32) = y74.1 then
  (f_L_law_1427 L xs k23 w0 y74.2 w2 l4)
  else (some (0 : Int32))))))
def f_L_law_1314 (L : Nat) (xs : Nat → Int32) (k23 : XM → XM → XM → Int32 → Option (Int32)) (w0 : XM) (w1 : XM) (w2 : XM) (l4 : Int32) : Option (Int32) :=
  x_bo (f_X11_sentence w0) (fun y75 =>
  x_bo (f_X12_sentence w1) (fun y76 =>
  if (y75.1 : Int32) = y76.1 then
  (f_L_law_1427 L xs k23 y75.2 y76.2 w2 l4)
  else (some (0 : Int32))))
def f_L_law_1327 (L : Nat) (xs : Nat → Int32) (k23 : XM → XM → XM → Int32 → Option (Int32)) (w0 : XM) (w1 : XM) (w2 : XM) (l4 : Int32) : Option (Int32) :=
  x_ck (l4 + (1 : Int32)) L (
  x_bo (f_X11_said w0 (xs (l4 + (1 : Int32)).toNatClampNeg)) (fun y77 =>
  x_ck (l4 + (1 : Int32)) L (
  x_bo (f_X12_said w1 (xs (l4 + (1 : Int32)).toNatClampNeg)) (fun y78 =>
  if (y77.1 : Int32) = y78.1 then
  (f_L_law_1427 L xs k23 y77.2 y78.2 w2 l4)
  else (some (0 : Int32))))))
def f_L_law_1352 (L : Nat) (xs : Nat → Int32) (k23 : XM → XM → XM → Int32 → Option (Int32)) (w0 : XM) (w1 : XM) (w2 : XM) (l4 : Int32) : Option (Int32) :=
  x_ck (l4 + (1 : Int32)) L (
  x_bo (f_X11_image w0 (xs (l4 + (1 : Int32)).toNatClampNeg)) (fun y79 =>
  x_ck (l4 + (1 : Int32)) L (
  x_bo (f_X12_image w1 (xs (l4 + (1 : Int32)).toNatClampNeg)) (fun y80 =>
  if (y79.1 : Int32) = y80.1 then
  (f_L_law_1427 L xs k23 y79.2 y80.2 w2 l4)
  else (some (0 : Int32))))))
def f_L_law_1377 (L : Nat) (xs : Nat → Int32) (k23 : XM → XM → XM → Int32 → Option (Int32)) (w0 : XM) (w1 : XM) (w2 : XM) (l4 : Int32) : Option (Int32) :=
  x_ck (l4 + (1 : Int32)) L (
  x_bo (f_X11_restore w0 (xs (l4 + (1 : Int32)).toNatClampNeg)) (fun y81 =>
  x_ck (l4 + (1 : Int32)) L (
  x_bo (f_X12_restore w1 (xs (l4 + (1 : Int32)).toNatClampNeg)) (fun y82 =>
  if (y81.1 : Int32) = y82.1 then
  (f_L_law_1427 L xs k23 y81.2 y82.2 w2 l4)
  else (some (0 : Int32))))))
def f_L_law_1402 (L : Nat) (xs : Nat → Int32) (k23 : XM → XM → XM → Int32 → Option (Int32)) (w0 : XM) (w1 : XM) (w2 : XM) (l4 : Int32) : Option (Int32) :=
  x_ck (l4 + (1 : Int32)) L (
  x_lt (f_X11_count w0 (xs (l4 + (1 : Int32)).toNatClampNeg)) (fun y83 =>
  x_ck (l4 + (1 : Int32)) L (
  x_lt (f_X12_count w1 (xs (l4 + (1 : Int32)).toNatClampNeg)) (fun y84 =>
  if (y83 : Int32) = y84.1 then
  (f_L_law_1427 L xs k23 w0 y84.2 w2 l4)
  else (some (0 : Int32))))))
def f_L_law_23 (L : Nat) (xs : Nat → Int32) (k23 : XM → XM → XM → Int32 → Option (Int32)) (w0 : XM) (w1 : XM) (w2 : XM) (l4 : Int32) : Option (Int32) :=
  if (((Int32.ofNat L) - (6 : Int32)) : Int32) < l4 then
  (some (1 : Int32))
  else (x_ck l4 L (
  if ((xs l4.toNatClampNeg) &&& (63 : Int32)) = (0 : Int32) then
  (f_L_law_220 L xs k23 w0 w1 w2 l4)
  else (if ((xs l4.toNatClampNeg) &&& (63 : Int32)) = (1 : Int32) then
  (f_L_law_293 L xs k23 w0 w1 w2 l4)
  else (if ((xs l4.toNatClampNeg) &&& (63 : Int32)) = (2 : Int32) then
  (f_L_law_318 L xs k23 w0 w1 w2 l4)
  else (if ((xs l4.toNatClampNeg) &&& (63 : Int32)) = (3 : Int32) then
  (f_L_law_331 L xs k23 w0 w1 w2 l4)
  else (if ((xs l4.toNatClampNeg) &&& (63 : Int32)) = (4 : Int32) then
  (f_L_law_344 L xs k23 w0 w1 w2 l4)
  else (if ((xs l4.toNatClampNeg) &&& (63 : Int32)) = (5 : Int32) then
  (f_L_law_412 L xs k23 w0 w1 w2 l4)
  else (if ((xs l4.toNatClampNeg) &&& (63 : Int32)) = (6 : Int32) then
  (f_L_law_449 L xs k23 w0 w1 w2 l4)
  else (if ((xs l4.toNatClampNeg) &&& (63 : Int32)) = (7 : Int32) then
  (f_L_law_486 L xs k23 w0 w1 w2 l4)
  else (if ((xs l4.toNatClampNeg) &&& (63 : Int32)) = (8 : Int32) then
  (f_L_law_511 L xs k23 w0 w1 w2 l4)
  else (if ((xs l4.toNatClampNeg) &&& (63 : Int32)) = (9 : Int32) then
  (f_L_law_548 L xs k23 w0 w1 w2 l4)
  else (if ((xs l4.toNatClampNeg) &&& (63 : Int32)) = (10 : Int32) then
  (f_L_law_585 L xs k23 w0 w1 w2 l4)
  else (if ((xs l4.toNatClampNeg) &&& (63 : Int32)) = (11 : Int32) then
  (f_L_law_622 L xs k23 w0 w1 w2 l4)
  else (if ((xs l4.toNatClampNeg) &&& (63 : Int32)) = (12 : Int32) then
  (f_L_law_647 L xs k23 w0 w1 w2 l4)
  else (if ((xs l4.toNatClampNeg) &&& (63 : Int32)) = (13 : Int32) then
  (f_L_law_672 L xs k23 w0 w1 w2 l4)
  else (if ((xs l4.toNatClampNeg) &&& (63 : Int32)) = (14 : Int32) then
  (f_L_law_709 L xs k23 w0 w1 w2 l4)
  else (if ((xs l4.toNatClampNeg) &&& (63 : Int32)) = (15 : Int32) then
  (f_L_law_734 L xs k23 w0 w1 w2 l4)
  else (if ((xs l4.toNatClampNeg) &&& (63 : Int32)) = (16 : Int32) then
  (f_L_law_759 L xs k23 w0 w1 w2 l4)
  else (if ((xs l4.toNatClampNeg) &&& (63 : Int32)) = (17 : Int32) then
  (f_L_law_772 L xs k23 w0 w1 w2 l4)
  else (if ((xs l4.toNatClampNeg) &&& (63 : Int32)) = (18 : Int32) then
  (f_L_law_809 L xs k23 w0 w1 w2 l4)
  else (if ((xs l4.toNatClampNeg) &&& (63 : Int32)) = (19 : Int32) then
  (f_L_law_846 L xs k23 w0 w1 w2 l4)
  else (if ((xs l4.toNatClampNeg) &&& (63 : Int32)) = (20 : Int32) then
  (f_L_law_871 L xs k23 w0 w1 w2 l4)
  else (if ((xs l4.toNatClampNeg) &&& (63 : Int32)) = (21 : Int32) then
  (f_L_law_896 L xs k23 w0 w1 w2 l4)
  else (if ((xs l4.toNatClampNeg) &&& (63 : Int32)) = (22 : Int32) then
  (f_L_law_921 L xs k23 w0 w1 w2 l4)
  else (if ((xs l4.toNatClampNeg) &&& (63 : Int32)) = (23 : Int32) then
  (f_L_law_946 L xs k23 w0 w1 w2 l4)
  else (if ((xs l4.toNatClampNeg) &&& (63 : Int32)) = (24 : Int32) then
  (f_L_law_983 L xs k23 w0 w1 w2 l4)
  else (if ((xs l4.toNatClampNeg) &&& (63 : Int32)) = (25 : Int32) then
  (f_L_law_996 L xs k23 w0 w1 w2 l4)
  else (if ((xs l4.toNatClampNeg) &&& (63 : Int32)) = (26 : Int32) then
  (f_L_law_1021 L xs k23 w0 w1 w2 l4)
  else (if ((xs l4.toNatClampNeg) &&& (63 : Int32)) = (27 : Int32) then
  (f_L_law_1034 L xs k23 w0 w1 w2 l4)
  else (if ((xs l4.toNatClampNeg) &&& (63 : Int32)) = (28 : Int32) then
  (f_L_law_1047 L xs k23 w0 w1 w2 l4)
  else (if ((xs l4.toNatClampNeg) &&& (63 : Int32)) = (29 : Int32) then
  (f_L_law_1060 L xs k23 w0 w1 w2 l4)
  else (if ((xs l4.toNatClampNeg) &&& (63 : Int32)) = (30 : Int32) then
  (f_L_law_1128 L xs k23 w0 w1 w2 l4)
  else (if ((xs l4.toNatClampNeg) &&& (63 : Int32)) = (31 : Int32) then
  (f_L_law_1153 L xs k23 w0 w1 w2 l4)
  else (if ((xs l4.toNatClampNeg) &&& (63 : Int32)) = (32 : Int32) then
  (f_L_law_1178 L xs k23 w0 w1 w2 l4)
  else (if ((xs l4.toNatClampNeg) &&& (63 : Int32)) = (33 : Int32) then
  (f_L_law_1215 L xs k23 w0 w1 w2 l4)
  else (if ((xs l4.toNatClampNeg) &&& (63 : Int32)) = (34 : Int32) then
  (f_L_law_1264 L xs k23 w0 w1 w2 l4)
  else (if ((xs l4.toNatClampNeg) &&& (63 : Int32)) = (35 : Int32) then
  (f_L_law_1289 L xs k23 w0 w1 w2 l4)
  else (if ((xs l4.toNatClampNeg) &&& (63 : Int32)) = (36 : Int32) then
  (f_L_law_1314 L xs k23 w0 w1 w2 l4)
  else (if ((xs l4.toNatClampNeg) &&& (63 : Int32)) = (37 : Int32) then
  (f_L_law_1327 L xs k23 w0 w1 w2 l4)
  else (if ((xs l4.toNatClampNeg) &&& (63 : Int32)) = (38 : Int32) then
  (f_L_law_1352 L xs k23 w0 w1 w2 l4)
  else (if ((xs l4.toNatClampNeg) &&& (63 : Int32)) = (39 : Int32) then
  (f_L_law_1377 L xs k23 w0 w1 w2 l4)
  else (if ((xs l4.toNatClampNeg) &&& (63 : Int32)) = (40 : Int32) then
  (f_L_law_1402 L xs k23 w0 w1 w2 l4)
  else (f_L_law_1427 L xs k23 w0 w1 w2 l4)))))))))))))))))))))))))))))))))))))))))))
