theorem dX5_goFrom_262 : decode cX5_goFrom 262 = .ok (.invokevirtual 115, 3) := by decide +kernel
theorem dX5_goFrom_265 : decode cX5_goFrom 265 = .ok (.aload_n 0, 1) := by decide +kernel
theorem dX5_goFrom_266 : decode cX5_goFrom 266 = .ok (.iconst 2, 1) := by decide +kernel
theorem dX5_goFrom_267 : decode cX5_goFrom 267 = .ok (.aload_n 0, 1) := by decide +kernel
theorem dX5_goFrom_268 : decode cX5_goFrom 268 = .ok (.getfield 7, 3) := by decide +kernel
theorem dX5_goFrom_271 : decode cX5_goFrom 271 = .ok (.iload_n 3, 1) := by decide +kernel
theorem dX5_goFrom_272 : decode cX5_goFrom 272 = .ok (.isub, 1) := by decide +kernel
theorem dX5_goFrom_273 : decode cX5_goFrom 273 = .ok (.iload 4, 2) := by decide +kernel
theorem dX5_goFrom_275 : decode cX5_goFrom 275 = .ok (.invokevirtual 115, 3) := by decide +kernel
theorem dX5_goFrom_278 : decode cX5_goFrom 278 = .ok (.goto 107, 3) := by decide +kernel
theorem dX5_goFrom_281 : decode cX5_goFrom 281 = .ok (.aload_n 0, 1) := by decide +kernel
theorem dX5_goFrom_282 : decode cX5_goFrom 282 = .ok (.iconst 1, 1) := by decide +kernel
theorem dX5_goFrom_283 : decode cX5_goFrom 283 = .ok (.iload_n 3, 1) := by decide +kernel
theorem dX5_goFrom_284 : decode cX5_goFrom 284 = .ok (.iload_n 2, 1) := by decide +kernel
theorem dX5_goFrom_285 : decode cX5_goFrom 285 = .ok (.iload 4, 2) := by decide +kernel
theorem dX5_goFrom_287 : decode cX5_goFrom 287 = .ok (.invokevirtual 129, 3) := by decide +kernel
theorem dX5_goFrom_290 : decode cX5_goFrom 290 = .ok (.istore 8, 2) := by decide +kernel
theorem dX5_goFrom_292 : decode cX5_goFrom 292 = .ok (.aload_n 0, 1) := by decide +kernel
theorem dX5_goFrom_293 : decode cX5_goFrom 293 = .ok (.iconst 2, 1) := by decide +kernel
theorem dX5_goFrom_294 : decode cX5_goFrom 294 = .ok (.aload_n 0, 1) := by decide +kernel
theorem dX5_goFrom_295 : decode cX5_goFrom 295 = .ok (.getfield 7, 3) := by decide +kernel
theorem dX5_goFrom_298 : decode cX5_goFrom 298 = .ok (.iload_n 3, 1) := by decide +kernel
theorem dX5_goFrom_299 : decode cX5_goFrom 299 = .ok (.isub, 1) := by decide +kernel
theorem dX5_goFrom_300 : decode cX5_goFrom 300 = .ok (.iload_n 2, 1) := by decide +kernel
theorem dX5_goFrom_301 : decode cX5_goFrom 301 = .ok (.ineg, 1) := by decide +kernel
theorem dX5_goFrom_302 : decode cX5_goFrom 302 = .ok (.iload 4, 2) := by decide +kernel
theorem dX5_goFrom_304 : decode cX5_goFrom 304 = .ok (.invokevirtual 129, 3) := by decide +kernel
theorem dX5_goFrom_307 : decode cX5_goFrom 307 = .ok (.istore 9, 2) := by decide +kernel
theorem dX5_goFrom_309 : decode cX5_goFrom 309 = .ok (.iload 8, 2) := by decide +kernel
theorem dX5_goFrom_311 : decode cX5_goFrom 311 = .ok (.ifCond .ne 11, 3) := by decide +kernel
theorem dX5_goFrom_314 : decode cX5_goFrom 314 = .ok (.iload 9, 2) := by decide +kernel
theorem dX5_goFrom_316 : decode cX5_goFrom 316 = .ok (.ifCond .ne 6, 3) := by decide +kernel
theorem dX5_goFrom_319 : decode cX5_goFrom 319 = .ok (.goto 60, 3) := by decide +kernel
theorem dX5_goFrom_322 : decode cX5_goFrom 322 = .ok (.aload_n 0, 1) := by decide +kernel
theorem dX5_goFrom_323 : decode cX5_goFrom 323 = .ok (.getfield 48, 3) := by decide +kernel
theorem dX5_goFrom_326 : decode cX5_goFrom 326 = .ok (.iconst 0, 1) := by decide +kernel
theorem dX5_goFrom_327 : decode cX5_goFrom 327 = .ok (.dup2, 1) := by decide +kernel
theorem dX5_goFrom_328 : decode cX5_goFrom 328 = .ok (.iaload, 1) := by decide +kernel
theorem dX5_goFrom_329 : decode cX5_goFrom 329 = .ok (.iconst 1, 1) := by decide +kernel
theorem dX5_goFrom_330 : decode cX5_goFrom 330 = .ok (.iadd, 1) := by decide +kernel
theorem dX5_goFrom_331 : decode cX5_goFrom 331 = .ok (.iastore, 1) := by decide +kernel
theorem dX5_goFrom_332 : decode cX5_goFrom 332 = .ok (.iload 8, 2) := by decide +kernel
theorem dX5_goFrom_334 : decode cX5_goFrom 334 = .ok (.ifCond .eq 8, 3) := by decide +kernel
theorem dX5_goFrom_337 : decode cX5_goFrom 337 = .ok (.iload 9, 2) := by decide +kernel
theorem dX5_goFrom_339 : decode cX5_goFrom 339 = .ok (.ifCond .ne 13, 3) := by decide +kernel
theorem dX5_goFrom_342 : decode cX5_goFrom 342 = .ok (.aload_n 0, 1) := by decide +kernel
theorem dX5_goFrom_343 : decode cX5_goFrom 343 = .ok (.getfield 48, 3) := by decide +kernel
theorem dX5_goFrom_346 : decode cX5_goFrom 346 = .ok (.iconst 1, 1) := by decide +kernel
theorem dX5_goFrom_347 : decode cX5_goFrom 347 = .ok (.dup2, 1) := by decide +kernel
theorem dX5_goFrom_348 : decode cX5_goFrom 348 = .ok (.iaload, 1) := by decide +kernel
theorem dX5_goFrom_349 : decode cX5_goFrom 349 = .ok (.iconst 1, 1) := by decide +kernel
theorem dX5_goFrom_350 : decode cX5_goFrom 350 = .ok (.iadd, 1) := by decide +kernel
theorem dX5_goFrom_351 : decode cX5_goFrom 351 = .ok (.iastore, 1) := by decide +kernel
theorem dX5_goFrom_352 : decode cX5_goFrom 352 = .ok (.aload_n 0, 1) := by decide +kernel
theorem dX5_goFrom_353 : decode cX5_goFrom 353 = .ok (.iconst 1, 1) := by decide +kernel
theorem dX5_goFrom_354 : decode cX5_goFrom 354 = .ok (.iload_n 3, 1) := by decide +kernel
theorem dX5_goFrom_355 : decode cX5_goFrom 355 = .ok (.iload_n 2, 1) := by decide +kernel
theorem dX5_goFrom_356 : decode cX5_goFrom 356 = .ok (.iload 4, 2) := by decide +kernel
theorem dX5_goFrom_358 : decode cX5_goFrom 358 = .ok (.invokevirtual 123, 3) := by decide +kernel
theorem dX5_goFrom_361 : decode cX5_goFrom 361 = .ok (.aload_n 0, 1) := by decide +kernel
theorem dX5_goFrom_362 : decode cX5_goFrom 362 = .ok (.iconst 2, 1) := by decide +kernel
theorem dX5_goFrom_363 : decode cX5_goFrom 363 = .ok (.aload_n 0, 1) := by decide +kernel
theorem dX5_goFrom_364 : decode cX5_goFrom 364 = .ok (.getfield 7, 3) := by decide +kernel
theorem dX5_goFrom_367 : decode cX5_goFrom 367 = .ok (.iload_n 3, 1) := by decide +kernel
theorem dX5_goFrom_368 : decode cX5_goFrom 368 = .ok (.isub, 1) := by decide +kernel
theorem dX5_goFrom_369 : decode cX5_goFrom 369 = .ok (.iload_n 2, 1) := by decide +kernel
theorem dX5_goFrom_370 : decode cX5_goFrom 370 = .ok (.ineg, 1) := by decide +kernel
theorem dX5_goFrom_371 : decode cX5_goFrom 371 = .ok (.iload 4, 2) := by decide +kernel
theorem dX5_goFrom_373 : decode cX5_goFrom 373 = .ok (.invokevirtual 123, 3) := by decide +kernel
theorem dX5_goFrom_376 : decode cX5_goFrom 376 = .ok (.iinc 4 1, 3) := by decide +kernel
theorem dX5_goFrom_379 : decode cX5_goFrom 379 = .ok (.iinc 5 1, 3) := by decide +kernel
theorem dX5_goFrom_382 : decode cX5_goFrom 382 = .ok (.goto (-298), 3) := by decide +kernel
theorem dX5_goFrom_385 : decode cX5_goFrom 385 = .ok (.aload_n 0, 1) := by decide +kernel
theorem dX5_goFrom_386 : decode cX5_goFrom 386 = .ok (.getfield 48, 3) := by decide +kernel
theorem dX5_goFrom_389 : decode cX5_goFrom 389 = .ok (.bipush 6, 2) := by decide +kernel
theorem dX5_goFrom_391 : decode cX5_goFrom 391 = .ok (.iload 4, 2) := by decide +kernel
theorem dX5_goFrom_393 : decode cX5_goFrom 393 = .ok (.iload_n 1, 1) := by decide +kernel
theorem dX5_goFrom_394 : decode cX5_goFrom 394 = .ok (.isub, 1) := by decide +kernel
theorem dX5_goFrom_395 : decode cX5_goFrom 395 = .ok (.iastore, 1) := by decide +kernel
theorem dX5_goFrom_396 : decode cX5_goFrom 396 = .ok (.aload_n 0, 1) := by decide +kernel
theorem dX5_goFrom_397 : decode cX5_goFrom 397 = .ok (.iload_n 3, 1) := by decide +kernel
theorem dX5_goFrom_398 : decode cX5_goFrom 398 = .ok (.putfield 79, 3) := by decide +kernel
theorem dX5_goFrom_401 : decode cX5_goFrom 401 = .ok (.aload_n 0, 1) := by decide +kernel
theorem dX5_goFrom_402 : decode cX5_goFrom 402 = .ok (.iload 4, 2) := by decide +kernel
theorem dX5_goFrom_404 : decode cX5_goFrom 404 = .ok (.putfield 82, 3) := by decide +kernel
theorem dX5_goFrom_407 : decode cX5_goFrom 407 = .ok (.aload_n 0, 1) := by decide +kernel
theorem dX5_goFrom_408 : decode cX5_goFrom 408 = .ok (.dup, 1) := by decide +kernel
theorem dX5_goFrom_409 : decode cX5_goFrom 409 = .ok (.getfield 85, 3) := by decide +kernel
theorem dX5_goFrom_412 : decode cX5_goFrom 412 = .ok (.iconst 1, 1) := by decide +kernel
theorem dX5_goFrom_413 : decode cX5_goFrom 413 = .ok (.iadd, 1) := by decide +kernel
theorem dX5_goFrom_414 : decode cX5_goFrom 414 = .ok (.putfield 85, 3) := by decide +kernel
theorem dX5_goFrom_417 : decode cX5_goFrom 417 = .ok (.return_, 1) := by decide +kernel
set_option maxRecDepth 20000 in
theorem ggX5_ride_X5_goFrom : GoodIn wsX5_ride wsX5_goFrom := goodIn_r _ [7, 8, 9, 10, 11, 12, 13, 14, 2, 15, 16, 17, 18, 6, 19, 20, 21, 22, 23, 24, 25, 26, 27, 28, 29, 30, 31, 32, 33, 34, 35, 36, 37, 38, 39, 40, 41, 42, 43, 44, 45, 46, 47, 48, 49, 50, 51, 52, 53, 54, 55, 56, 57, 58, 59, 60, 61, 62, 63, 64, 65, 66, 67, 68, 69, 70, 71, 72, 73, 74, 75, 76] (by decide +kernel) (by decide +kernel)
set_option maxRecDepth 20000 in
theorem gX5_ride_X5_goFrom : GoodIn wsX5_ride (wsV RX5 132 RX5 yX5_goFrom wsX5_goFrom) := goodIn_app (goodIn_of _ (by decide +kernel)) ggX5_ride_X5_goFrom
theorem dX5_ride_0 : decode cX5_ride 0 = .ok (.aload_n 0, 1) := by decide +kernel
theorem dX5_ride_1 : decode cX5_ride 1 = .ok (.iconst 0, 1) := by decide +kernel
theorem dX5_ride_2 : decode cX5_ride 2 = .ok (.putfield 70, 3) := by decide +kernel
theorem dX5_ride_5 : decode cX5_ride 5 = .ok (.iload_n 1, 1) := by decide +kernel
theorem dX5_ride_6 : decode cX5_ride 6 = .ok (.aload_n 0, 1) := by decide +kernel
theorem dX5_ride_7 : decode cX5_ride 7 = .ok (.getfield 82, 3) := by decide +kernel
theorem dX5_ride_10 : decode cX5_ride 10 = .ok (.if_icmp .lt 10, 3) := by decide +kernel
theorem dX5_ride_13 : decode cX5_ride 13 = .ok (.iload_n 1, 1) := by decide +kernel
theorem dX5_ride_14 : decode cX5_ride 14 = .ok (.sipush 2000, 3) := by decide +kernel
theorem dX5_ride_17 : decode cX5_ride 17 = .ok (.if_icmp .le 5, 3) := by decide +kernel
theorem dX5_ride_20 : decode cX5_ride 20 = .ok (.iconst (-1), 1) := by decide +kernel
theorem dX5_ride_21 : decode cX5_ride 21 = .ok (.ireturn, 1) := by decide +kernel
theorem dX5_ride_22 : decode cX5_ride 22 = .ok (.aload_n 0, 1) := by decide +kernel
theorem dX5_ride_23 : decode cX5_ride 23 = .ok (.iload_n 1, 1) := by decide +kernel
theorem dX5_ride_24 : decode cX5_ride 24 = .ok (.invokevirtual 132, 3) := by decide +kernel
theorem dX5_ride_27 : decode cX5_ride 27 = .ok (.aload_n 0, 1) := by decide +kernel
theorem dX5_ride_28 : decode cX5_ride 28 = .ok (.getfield 82, 3) := by decide +kernel
theorem dX5_ride_31 : decode cX5_ride 31 = .ok (.ireturn, 1) := by decide +kernel
theorem dX5_inState_0 : decode cX5_inState 0 = .ok (.iconst 0, 1) := by decide +kernel
theorem dX5_inState_1 : decode cX5_inState 1 = .ok (.istore_n 2, 1) := by decide +kernel
theorem dX5_inState_2 : decode cX5_inState 2 = .ok (.iconst 0, 1) := by decide +kernel
theorem dX5_inState_3 : decode cX5_inState 3 = .ok (.istore_n 3, 1) := by decide +kernel
theorem dX5_inState_4 : decode cX5_inState 4 = .ok (.iload_n 3, 1) := by decide +kernel
theorem dX5_inState_5 : decode cX5_inState 5 = .ok (.aload_n 0, 1) := by decide +kernel
theorem dX5_inState_6 : decode cX5_inState 6 = .ok (.getfield 73, 3) := by decide +kernel
theorem dX5_inState_9 : decode cX5_inState 9 = .ok (.if_icmp .ge 22, 3) := by decide +kernel
theorem dX5_inState_12 : decode cX5_inState 12 = .ok (.aload_n 0, 1) := by decide +kernel
theorem dX5_inState_13 : decode cX5_inState 13 = .ok (.getfield 33, 3) := by decide +kernel
theorem dX5_inState_16 : decode cX5_inState 16 = .ok (.iload_n 3, 1) := by decide +kernel
theorem dX5_inState_17 : decode cX5_inState 17 = .ok (.iaload, 1) := by decide +kernel
theorem dX5_inState_18 : decode cX5_inState 18 = .ok (.iload_n 1, 1) := by decide +kernel
theorem dX5_inState_19 : decode cX5_inState 19 = .ok (.if_icmp .ne 6, 3) := by decide +kernel
theorem dX5_inState_22 : decode cX5_inState 22 = .ok (.iinc 2 1, 3) := by decide +kernel
theorem dX5_inState_25 : decode cX5_inState 25 = .ok (.iinc 3 1, 3) := by decide +kernel
theorem dX5_inState_28 : decode cX5_inState 28 = .ok (.goto (-24), 3) := by decide +kernel
theorem dX5_inState_31 : decode cX5_inState 31 = .ok (.iload_n 2, 1) := by decide +kernel
theorem dX5_inState_32 : decode cX5_inState 32 = .ok (.ireturn, 1) := by decide +kernel
theorem dX5_waits_0 : decode cX5_waits 0 = .ok (.iconst 0, 1) := by decide +kernel
theorem dX5_waits_1 : decode cX5_waits 1 = .ok (.istore_n 1, 1) := by decide +kernel
theorem dX5_waits_2 : decode cX5_waits 2 = .ok (.iconst 0, 1) := by decide +kernel
theorem dX5_waits_3 : decode cX5_waits 3 = .ok (.istore_n 2, 1) := by decide +kernel
theorem dX5_waits_4 : decode cX5_waits 4 = .ok (.iload_n 2, 1) := by decide +kernel
theorem dX5_waits_5 : decode cX5_waits 5 = .ok (.aload_n 0, 1) := by decide +kernel
theorem dX5_waits_6 : decode cX5_waits 6 = .ok (.getfield 73, 3) := by decide +kernel
theorem dX5_waits_9 : decode cX5_waits 9 = .ok (.if_icmp .ge 35, 3) := by decide +kernel
theorem dX5_waits_12 : decode cX5_waits 12 = .ok (.aload_n 0, 1) := by decide +kernel
theorem dX5_waits_13 : decode cX5_waits 13 = .ok (.getfield 36, 3) := by decide +kernel
theorem dX5_waits_16 : decode cX5_waits 16 = .ok (.iload_n 2, 1) := by decide +kernel
theorem dX5_waits_17 : decode cX5_waits 17 = .ok (.iaload, 1) := by decide +kernel
theorem dX5_waits_18 : decode cX5_waits 18 = .ok (.iconst (-1), 1) := by decide +kernel
theorem dX5_waits_19 : decode cX5_waits 19 = .ok (.if_icmp .eq 19, 3) := by decide +kernel
theorem dX5_waits_22 : decode cX5_waits 22 = .ok (.iload_n 1, 1) := by decide +kernel
theorem dX5_waits_23 : decode cX5_waits 23 = .ok (.aload_n 0, 1) := by decide +kernel
theorem dX5_waits_24 : decode cX5_waits 24 = .ok (.getfield 36, 3) := by decide +kernel
theorem dX5_waits_27 : decode cX5_waits 27 = .ok (.iload_n 2, 1) := by decide +kernel
theorem dX5_waits_28 : decode cX5_waits 28 = .ok (.iaload, 1) := by decide +kernel
theorem dX5_waits_29 : decode cX5_waits 29 = .ok (.aload_n 0, 1) := by decide +kernel
theorem dX5_waits_30 : decode cX5_waits 30 = .ok (.getfield 30, 3) := by decide +kernel
theorem dX5_waits_33 : decode cX5_waits 33 = .ok (.iload_n 2, 1) := by decide +kernel
theorem dX5_waits_34 : decode cX5_waits 34 = .ok (.iaload, 1) := by decide +kernel
theorem dX5_waits_35 : decode cX5_waits 35 = .ok (.isub, 1) := by decide +kernel
theorem dX5_waits_36 : decode cX5_waits 36 = .ok (.iadd, 1) := by decide +kernel
theorem dX5_waits_37 : decode cX5_waits 37 = .ok (.istore_n 1, 1) := by decide +kernel
theorem dX5_waits_38 : decode cX5_waits 38 = .ok (.iinc 2 1, 3) := by decide +kernel
theorem dX5_waits_41 : decode cX5_waits 41 = .ok (.goto (-37), 3) := by decide +kernel
theorem dX5_waits_44 : decode cX5_waits 44 = .ok (.iload_n 1, 1) := by decide +kernel
theorem dX5_waits_45 : decode cX5_waits 45 = .ok (.ireturn, 1) := by decide +kernel
set_option maxRecDepth 20000 in
theorem ggX5_count_X5_inState : GoodIn wsX5_count wsX5_inState := goodIn_r _ [11, 3, 12, 19, 20, 21, 22, 23, 24, 25, 26, 27, 28, 29, 30, 31, 32, 33, 34, 35, 36, 37, 38, 39, 40, 41, 42, 43] (by decide +kernel) (by decide +kernel)
set_option maxRecDepth 20000 in
theorem gX5_count_X5_inState : GoodIn wsX5_count (wsV RX5 135 RX5 yX5_inState wsX5_inState) := goodIn_app (goodIn_of _ (by decide +kernel)) ggX5_count_X5_inState
set_option maxRecDepth 20000 in
theorem ggX5_count_X5_waits : GoodIn wsX5_count wsX5_waits := goodIn_r _ [16, 3, 17, 18, 19, 20, 21, 22, 23, 24, 25, 26, 27, 28, 29, 30, 31, 32, 33, 34, 35, 36, 37, 38, 39, 40, 41, 42, 43] (by decide +kernel) (by decide +kernel)
set_option maxRecDepth 20000 in
theorem gX5_count_X5_waits : GoodIn wsX5_count (wsV RX5 138 RX5 yX5_waits wsX5_waits) := goodIn_app (goodIn_of _ (by decide +kernel)) ggX5_count_X5_waits
theorem dX5_count_0 : decode cX5_count 0 = .ok (.aload_n 0, 1) := by decide +kernel
theorem dX5_count_1 : decode cX5_count 1 = .ok (.iconst 0, 1) := by decide +kernel
theorem dX5_count_2 : decode cX5_count 2 = .ok (.putfield 70, 3) := by decide +kernel
theorem dX5_count_5 : decode cX5_count 5 = .ok (.iload_n 1, 1) := by decide +kernel
theorem dX5_count_6 : decode cX5_count 6 = .ok (.tableswitch 92 0 9 #[54, 59, 64, 69, 74, 74, 74, 74, 82, 87], 54) := by decide +kernel
theorem dX5_count_60 : decode cX5_count 60 = .ok (.aload_n 0, 1) := by decide +kernel
theorem dX5_count_61 : decode cX5_count 61 = .ok (.getfield 7, 3) := by decide +kernel
theorem dX5_count_64 : decode cX5_count 64 = .ok (.ireturn, 1) := by decide +kernel
theorem dX5_count_65 : decode cX5_count 65 = .ok (.aload_n 0, 1) := by decide +kernel
theorem dX5_count_66 : decode cX5_count 66 = .ok (.getfield 73, 3) := by decide +kernel
theorem dX5_count_69 : decode cX5_count 69 = .ok (.ireturn, 1) := by decide +kernel
theorem dX5_count_70 : decode cX5_count 70 = .ok (.aload_n 0, 1) := by decide +kernel
theorem dX5_count_71 : decode cX5_count 71 = .ok (.getfield 79, 3) := by decide +kernel
theorem dX5_count_74 : decode cX5_count 74 = .ok (.ireturn, 1) := by decide +kernel
theorem dX5_count_75 : decode cX5_count 75 = .ok (.aload_n 0, 1) := by decide +kernel
theorem dX5_count_76 : decode cX5_count 76 = .ok (.getfield 82, 3) := by decide +kernel
theorem dX5_count_79 : decode cX5_count 79 = .ok (.ireturn, 1) := by decide +kernel
theorem dX5_count_80 : decode cX5_count 80 = .ok (.aload_n 0, 1) := by decide +kernel
theorem dX5_count_81 : decode cX5_count 81 = .ok (.iload_n 1, 1) := by decide +kernel
theorem dX5_count_82 : decode cX5_count 82 = .ok (.iconst 4, 1) := by decide +kernel
theorem dX5_count_83 : decode cX5_count 83 = .ok (.isub, 1) := by decide +kernel
theorem dX5_count_84 : decode cX5_count 84 = .ok (.invokevirtual 135, 3) := by decide +kernel
theorem dX5_count_87 : decode cX5_count 87 = .ok (.ireturn, 1) := by decide +kernel
theorem dX5_count_88 : decode cX5_count 88 = .ok (.aload_n 0, 1) := by decide +kernel
theorem dX5_count_89 : decode cX5_count 89 = .ok (.getfield 85, 3) := by decide +kernel
theorem dX5_count_92 : decode cX5_count 92 = .ok (.ireturn, 1) := by decide +kernel
theorem dX5_count_93 : decode cX5_count 93 = .ok (.aload_n 0, 1) := by decide +kernel
theorem dX5_count_94 : decode cX5_count 94 = .ok (.invokevirtual 138, 3) := by decide +kernel
theorem dX5_count_97 : decode cX5_count 97 = .ok (.ireturn, 1) := by decide +kernel
theorem dX5_count_98 : decode cX5_count 98 = .ok (.iconst (-1), 1) := by decide +kernel
theorem dX5_count_99 : decode cX5_count 99 = .ok (.ireturn, 1) := by decide +kernel
set_option maxRecDepth 20000 in
theorem ggX5_of_X5_in : GoodIn wsX5_of wsX5_in := goodIn_r _ [12] (by decide +kernel) (by decide +kernel)
set_option maxRecDepth 20000 in
theorem gX5_of_X5_in : GoodIn wsX5_of (va_wsS RX5 95 yX5_in wsX5_in) := goodIn_app (goodIn_of _ (by decide +kernel)) ggX5_of_X5_in
theorem dX5_of_0 : decode cX5_of 0 = .ok (.aload_n 0, 1) := by decide +kernel
theorem dX5_of_1 : decode cX5_of 1 = .ok (.iconst 0, 1) := by decide +kernel
theorem dX5_of_2 : decode cX5_of 2 = .ok (.putfield 70, 3) := by decide +kernel
theorem dX5_of_5 : decode cX5_of 5 = .ok (.iload_n 1, 1) := by decide +kernel
theorem dX5_of_6 : decode cX5_of 6 = .ok (.iconst 0, 1) := by decide +kernel
theorem dX5_of_7 : decode cX5_of 7 = .ok (.aload_n 0, 1) := by decide +kernel
theorem dX5_of_8 : decode cX5_of 8 = .ok (.getfield 73, 3) := by decide +kernel
theorem dX5_of_11 : decode cX5_of 11 = .ok (.iconst 1, 1) := by decide +kernel
theorem dX5_of_12 : decode cX5_of 12 = .ok (.isub, 1) := by decide +kernel
theorem dX5_of_13 : decode cX5_of 13 = .ok (.invokestatic 95, 3) := by decide +kernel
theorem dX5_of_16 : decode cX5_of 16 = .ok (.ifCond .eq 12, 3) := by decide +kernel
theorem dX5_of_19 : decode cX5_of 19 = .ok (.iload_n 2, 1) := by decide +kernel
theorem dX5_of_20 : decode cX5_of 20 = .ok (.iconst 0, 1) := by decide +kernel
theorem dX5_of_21 : decode cX5_of 21 = .ok (.iconst 5, 1) := by decide +kernel
theorem dX5_of_22 : decode cX5_of 22 = .ok (.invokestatic 95, 3) := by decide +kernel
theorem dX5_of_25 : decode cX5_of 25 = .ok (.ifCond .ne 10, 3) := by decide +kernel
theorem dX5_of_28 : decode cX5_of 28 = .ok (.aload_n 0, 1) := by decide +kernel
theorem dX5_of_29 : decode cX5_of 29 = .ok (.iconst 1, 1) := by decide +kernel
theorem dX5_of_30 : decode cX5_of 30 = .ok (.putfield 70, 3) := by decide +kernel
theorem dX5_of_33 : decode cX5_of 33 = .ok (.iconst 0, 1) := by decide +kernel
theorem dX5_of_34 : decode cX5_of 34 = .ok (.ireturn, 1) := by decide +kernel
theorem dX5_of_35 : decode cX5_of 35 = .ok (.iload_n 2, 1) := by decide +kernel
theorem dX5_of_36 : decode cX5_of 36 = .ok (.tableswitch 71 0 4 #[36, 43, 50, 57, 64], 36) := by decide +kernel
theorem dX5_of_72 : decode cX5_of 72 = .ok (.aload_n 0, 1) := by decide +kernel
theorem dX5_of_73 : decode cX5_of 73 = .ok (.getfield 33, 3) := by decide +kernel
theorem dX5_of_76 : decode cX5_of 76 = .ok (.iload_n 1, 1) := by decide +kernel
theorem dX5_of_77 : decode cX5_of 77 = .ok (.iaload, 1) := by decide +kernel
theorem dX5_of_78 : decode cX5_of 78 = .ok (.ireturn, 1) := by decide +kernel
theorem dX5_of_79 : decode cX5_of 79 = .ok (.aload_n 0, 1) := by decide +kernel
theorem dX5_of_80 : decode cX5_of 80 = .ok (.getfield 24, 3) := by decide +kernel
theorem dX5_of_83 : decode cX5_of 83 = .ok (.iload_n 1, 1) := by decide +kernel
theorem dX5_of_84 : decode cX5_of 84 = .ok (.iaload, 1) := by decide +kernel
theorem dX5_of_85 : decode cX5_of 85 = .ok (.ireturn, 1) := by decide +kernel
theorem dX5_of_86 : decode cX5_of 86 = .ok (.aload_n 0, 1) := by decide +kernel
theorem dX5_of_87 : decode cX5_of 87 = .ok (.getfield 27, 3) := by decide +kernel
theorem dX5_of_90 : decode cX5_of 90 = .ok (.iload_n 1, 1) := by decide +kernel
theorem dX5_of_91 : decode cX5_of 91 = .ok (.iaload, 1) := by decide +kernel
theorem dX5_of_92 : decode cX5_of 92 = .ok (.ireturn, 1) := by decide +kernel
theorem dX5_of_93 : decode cX5_of 93 = .ok (.aload_n 0, 1) := by decide +kernel
theorem dX5_of_94 : decode cX5_of 94 = .ok (.getfield 30, 3) := by decide +kernel
theorem dX5_of_97 : decode cX5_of 97 = .ok (.iload_n 1, 1) := by decide +kernel
theorem dX5_of_98 : decode cX5_of 98 = .ok (.iaload, 1) := by decide +kernel
theorem dX5_of_99 : decode cX5_of 99 = .ok (.ireturn, 1) := by decide +kernel
theorem dX5_of_100 : decode cX5_of 100 = .ok (.aload_n 0, 1) := by decide +kernel
theorem dX5_of_101 : decode cX5_of 101 = .ok (.getfield 36, 3) := by decide +kernel
theorem dX5_of_104 : decode cX5_of 104 = .ok (.iload_n 1, 1) := by decide +kernel
theorem dX5_of_105 : decode cX5_of 105 = .ok (.iaload, 1) := by decide +kernel
theorem dX5_of_106 : decode cX5_of 106 = .ok (.ireturn, 1) := by decide +kernel
theorem dX5_of_107 : decode cX5_of 107 = .ok (.aload_n 0, 1) := by decide +kernel
theorem dX5_of_108 : decode cX5_of 108 = .ok (.getfield 39, 3) := by decide +kernel
theorem dX5_of_111 : decode cX5_of 111 = .ok (.iload_n 1, 1) := by decide +kernel
theorem dX5_of_112 : decode cX5_of 112 = .ok (.iaload, 1) := by decide +kernel
theorem dX5_of_113 : decode cX5_of 113 = .ok (.ireturn, 1) := by decide +kernel
set_option maxRecDepth 20000 in
theorem ggX5_rode_X5_in : GoodIn wsX5_rode wsX5_in := goodIn_r _ [7] (by decide +kernel) (by decide +kernel)
set_option maxRecDepth 20000 in
theorem gX5_rode_X5_in : GoodIn wsX5_rode (va_wsS RX5 95 yX5_in wsX5_in) := goodIn_app (goodIn_of _ (by decide +kernel)) ggX5_rode_X5_in
theorem dX5_rode_0 : decode cX5_rode 0 = .ok (.aload_n 0, 1) := by decide +kernel
theorem dX5_rode_1 : decode cX5_rode 1 = .ok (.iconst 0, 1) := by decide +kernel
theorem dX5_rode_2 : decode cX5_rode 2 = .ok (.putfield 70, 3) := by decide +kernel
theorem dX5_rode_5 : decode cX5_rode 5 = .ok (.aload_n 0, 1) := by decide +kernel
theorem dX5_rode_6 : decode cX5_rode 6 = .ok (.getfield 88, 3) := by decide +kernel
theorem dX5_rode_9 : decode cX5_rode 9 = .ok (.ifCond .eq 22, 3) := by decide +kernel
theorem dX5_rode_12 : decode cX5_rode 12 = .ok (.iload_n 1, 1) := by decide +kernel
theorem dX5_rode_13 : decode cX5_rode 13 = .ok (.iconst 0, 1) := by decide +kernel
theorem dX5_rode_14 : decode cX5_rode 14 = .ok (.bipush 6, 2) := by decide +kernel
theorem dX5_rode_16 : decode cX5_rode 16 = .ok (.invokestatic 95, 3) := by decide +kernel
theorem dX5_rode_19 : decode cX5_rode 19 = .ok (.ifCond .eq 12, 3) := by decide +kernel
theorem dX5_rode_22 : decode cX5_rode 22 = .ok (.aload_n 0, 1) := by decide +kernel
theorem dX5_rode_23 : decode cX5_rode 23 = .ok (.getfield 48, 3) := by decide +kernel
theorem dX5_rode_26 : decode cX5_rode 26 = .ok (.iload_n 1, 1) := by decide +kernel
theorem dX5_rode_27 : decode cX5_rode 27 = .ok (.iaload, 1) := by decide +kernel
theorem dX5_rode_28 : decode cX5_rode 28 = .ok (.goto 4, 3) := by decide +kernel
theorem dX5_rode_31 : decode cX5_rode 31 = .ok (.iconst (-1), 1) := by decide +kernel
theorem dX5_rode_32 : decode cX5_rode 32 = .ok (.ireturn, 1) := by decide +kernel
set_option maxRecDepth 20000 in
theorem ggX5_again_X5_rest : GoodIn wsX5_again wsX5_rest := goodIn_r _ [7, 8, 9, 10, 11, 2, 12, 13, 14, 15, 6, 16, 17, 18, 19, 20, 21, 22, 23, 24, 25, 26, 27, 28, 29, 30, 31, 32, 33, 34, 35, 36, 37, 38, 39, 40, 41, 42, 43, 44] (by decide +kernel) (by decide +kernel)
set_option maxRecDepth 20000 in
theorem gX5_again_X5_rest : GoodIn wsX5_again (wsV RX5 76 RX5 yX5_rest wsX5_rest) := goodIn_app (goodIn_of _ (by decide +kernel)) ggX5_again_X5_rest
theorem dX5_again_0 : decode cX5_again 0 = .ok (.aload_n 0, 1) := by decide +kernel
theorem dX5_again_1 : decode cX5_again 1 = .ok (.iconst 0, 1) := by decide +kernel
theorem dX5_again_2 : decode cX5_again 2 = .ok (.putfield 70, 3) := by decide +kernel
theorem dX5_again_5 : decode cX5_again 5 = .ok (.aload_n 0, 1) := by decide +kernel
theorem dX5_again_6 : decode cX5_again 6 = .ok (.invokevirtual 76, 3) := by decide +kernel
theorem dX5_again_9 : decode cX5_again 9 = .ok (.aload_n 0, 1) := by decide +kernel
theorem dX5_again_10 : decode cX5_again 10 = .ok (.getfield 73, 3) := by decide +kernel
theorem dX5_again_13 : decode cX5_again 13 = .ok (.ireturn, 1) := by decide +kernel
set_option maxRecDepth 20000 in
theorem ggX5_at_X5_in : GoodIn wsX5_at wsX5_in := goodIn_r _ [7] (by decide +kernel) (by decide +kernel)
set_option maxRecDepth 20000 in
theorem gX5_at_X5_in : GoodIn wsX5_at (va_wsS RX5 95 yX5_in wsX5_in) := goodIn_app (goodIn_of _ (by decide +kernel)) ggX5_at_X5_in
theorem dX5_at_0 : decode cX5_at 0 = .ok (.aload_n 0, 1) := by decide +kernel
theorem dX5_at_1 : decode cX5_at 1 = .ok (.iconst 0, 1) := by decide +kernel
theorem dX5_at_2 : decode cX5_at 2 = .ok (.putfield 70, 3) := by decide +kernel
theorem dX5_at_5 : decode cX5_at 5 = .ok (.iload_n 1, 1) := by decide +kernel
theorem dX5_at_6 : decode cX5_at 6 = .ok (.iconst 0, 1) := by decide +kernel
theorem dX5_at_7 : decode cX5_at 7 = .ok (.sipush 2000, 3) := by decide +kernel
theorem dX5_at_10 : decode cX5_at 10 = .ok (.invokestatic 95, 3) := by decide +kernel
theorem dX5_at_13 : decode cX5_at 13 = .ok (.ifCond .eq 12, 3) := by decide +kernel
theorem dX5_at_16 : decode cX5_at 16 = .ok (.aload_n 0, 1) := by decide +kernel
theorem dX5_at_17 : decode cX5_at 17 = .ok (.getfield 142, 3) := by decide +kernel
theorem dX5_at_20 : decode cX5_at 20 = .ok (.bipush 8, 2) := by decide +kernel
theorem dX5_at_22 : decode cX5_at 22 = .ok (.if_icmp .ne 5, 3) := by decide +kernel
theorem dX5_at_25 : decode cX5_at 25 = .ok (.iconst (-1), 1) := by decide +kernel
theorem dX5_at_26 : decode cX5_at 26 = .ok (.ireturn, 1) := by decide +kernel
theorem dX5_at_27 : decode cX5_at 27 = .ok (.aload_n 0, 1) := by decide +kernel
theorem dX5_at_28 : decode cX5_at 28 = .ok (.getfield 51, 3) := by decide +kernel
theorem dX5_at_31 : decode cX5_at 31 = .ok (.aload_n 0, 1) := by decide +kernel
theorem dX5_at_32 : decode cX5_at 32 = .ok (.getfield 142, 3) := by decide +kernel
theorem dX5_at_35 : decode cX5_at 35 = .ok (.iload_n 1, 1) := by decide +kernel
theorem dX5_at_36 : decode cX5_at 36 = .ok (.iastore, 1) := by decide +kernel
theorem dX5_at_37 : decode cX5_at 37 = .ok (.aload_n 0, 1) := by decide +kernel
theorem dX5_at_38 : decode cX5_at 38 = .ok (.dup, 1) := by decide +kernel
theorem dX5_at_39 : decode cX5_at 39 = .ok (.getfield 142, 3) := by decide +kernel
theorem dX5_at_42 : decode cX5_at 42 = .ok (.iconst 1, 1) := by decide +kernel
theorem dX5_at_43 : decode cX5_at 43 = .ok (.iadd, 1) := by decide +kernel
theorem dX5_at_44 : decode cX5_at 44 = .ok (.putfield 142, 3) := by decide +kernel
theorem dX5_at_47 : decode cX5_at 47 = .ok (.aload_n 0, 1) := by decide +kernel
theorem dX5_at_48 : decode cX5_at 48 = .ok (.getfield 142, 3) := by decide +kernel
theorem dX5_at_51 : decode cX5_at 51 = .ok (.ireturn, 1) := by decide +kernel
theorem dX5_clear_0 : decode cX5_clear 0 = .ok (.aload_n 0, 1) := by decide +kernel
theorem dX5_clear_1 : decode cX5_clear 1 = .ok (.iconst 0, 1) := by decide +kernel
theorem dX5_clear_2 : decode cX5_clear 2 = .ok (.putfield 70, 3) := by decide +kernel
theorem dX5_clear_5 : decode cX5_clear 5 = .ok (.aload_n 0, 1) := by decide +kernel
theorem dX5_clear_6 : decode cX5_clear 6 = .ok (.getfield 142, 3) := by decide +kernel
theorem dX5_clear_9 : decode cX5_clear 9 = .ok (.istore_n 1, 1) := by decide +kernel
theorem dX5_clear_10 : decode cX5_clear 10 = .ok (.aload_n 0, 1) := by decide +kernel
theorem dX5_clear_11 : decode cX5_clear 11 = .ok (.iconst 0, 1) := by decide +kernel
theorem dX5_clear_12 : decode cX5_clear 12 = .ok (.putfield 142, 3) := by decide +kernel
theorem dX5_clear_15 : decode cX5_clear 15 = .ok (.iload_n 1, 1) := by decide +kernel
theorem dX5_clear_16 : decode cX5_clear 16 = .ok (.ireturn, 1) := by decide +kernel
theorem dX5_putAside_0 : decode cX5_putAside 0 = .ok (.iconst 0, 1) := by decide +kernel
theorem dX5_putAside_1 : decode cX5_putAside 1 = .ok (.istore_n 1, 1) := by decide +kernel
theorem dX5_putAside_2 : decode cX5_putAside 2 = .ok (.iload_n 1, 1) := by decide +kernel
theorem dX5_putAside_3 : decode cX5_putAside 3 = .ok (.aload_n 0, 1) := by decide +kernel
theorem dX5_putAside_4 : decode cX5_putAside 4 = .ok (.getfield 73, 3) := by decide +kernel
theorem dX5_putAside_7 : decode cX5_putAside 7 = .ok (.if_icmp .ge 55, 3) := by decide +kernel
theorem dX5_putAside_10 : decode cX5_putAside 10 = .ok (.aload_n 0, 1) := by decide +kernel
theorem dX5_putAside_11 : decode cX5_putAside 11 = .ok (.getfield 54, 3) := by decide +kernel
theorem dX5_putAside_14 : decode cX5_putAside 14 = .ok (.iconst 3, 1) := by decide +kernel
theorem dX5_putAside_15 : decode cX5_putAside 15 = .ok (.iload_n 1, 1) := by decide +kernel
theorem dX5_putAside_16 : decode cX5_putAside 16 = .ok (.imul, 1) := by decide +kernel
theorem dX5_putAside_17 : decode cX5_putAside 17 = .ok (.aload_n 0, 1) := by decide +kernel
theorem dX5_putAside_18 : decode cX5_putAside 18 = .ok (.getfield 33, 3) := by decide +kernel
theorem dX5_putAside_21 : decode cX5_putAside 21 = .ok (.iload_n 1, 1) := by decide +kernel
theorem dX5_putAside_22 : decode cX5_putAside 22 = .ok (.iaload, 1) := by decide +kernel
theorem dX5_putAside_23 : decode cX5_putAside 23 = .ok (.iastore, 1) := by decide +kernel
theorem dX5_putAside_24 : decode cX5_putAside 24 = .ok (.aload_n 0, 1) := by decide +kernel
theorem dX5_putAside_25 : decode cX5_putAside 25 = .ok (.getfield 54, 3) := by decide +kernel
theorem dX5_putAside_28 : decode cX5_putAside 28 = .ok (.iconst 3, 1) := by decide +kernel
theorem dX5_putAside_29 : decode cX5_putAside 29 = .ok (.iload_n 1, 1) := by decide +kernel
theorem dX5_putAside_30 : decode cX5_putAside 30 = .ok (.imul, 1) := by decide +kernel
theorem dX5_putAside_31 : decode cX5_putAside 31 = .ok (.iconst 1, 1) := by decide +kernel
theorem dX5_putAside_32 : decode cX5_putAside 32 = .ok (.iadd, 1) := by decide +kernel
theorem dX5_putAside_33 : decode cX5_putAside 33 = .ok (.aload_n 0, 1) := by decide +kernel
theorem dX5_putAside_34 : decode cX5_putAside 34 = .ok (.getfield 36, 3) := by decide +kernel
theorem dX5_putAside_37 : decode cX5_putAside 37 = .ok (.iload_n 1, 1) := by decide +kernel
theorem dX5_putAside_38 : decode cX5_putAside 38 = .ok (.iaload, 1) := by decide +kernel
theorem dX5_putAside_39 : decode cX5_putAside 39 = .ok (.iastore, 1) := by decide +kernel
theorem dX5_putAside_40 : decode cX5_putAside 40 = .ok (.aload_n 0, 1) := by decide +kernel
theorem dX5_putAside_41 : decode cX5_putAside 41 = .ok (.getfield 54, 3) := by decide +kernel
theorem dX5_putAside_44 : decode cX5_putAside 44 = .ok (.iconst 3, 1) := by decide +kernel
theorem dX5_putAside_45 : decode cX5_putAside 45 = .ok (.iload_n 1, 1) := by decide +kernel
theorem dX5_putAside_46 : decode cX5_putAside 46 = .ok (.imul, 1) := by decide +kernel
theorem dX5_putAside_47 : decode cX5_putAside 47 = .ok (.iconst 2, 1) := by decide +kernel
theorem dX5_putAside_48 : decode cX5_putAside 48 = .ok (.iadd, 1) := by decide +kernel
theorem dX5_putAside_49 : decode cX5_putAside 49 = .ok (.aload_n 0, 1) := by decide +kernel
theorem dX5_putAside_50 : decode cX5_putAside 50 = .ok (.getfield 39, 3) := by decide +kernel
theorem dX5_putAside_53 : decode cX5_putAside 53 = .ok (.iload_n 1, 1) := by decide +kernel
theorem dX5_putAside_54 : decode cX5_putAside 54 = .ok (.iaload, 1) := by decide +kernel
theorem dX5_putAside_55 : decode cX5_putAside 55 = .ok (.iastore, 1) := by decide +kernel
theorem dX5_putAside_56 : decode cX5_putAside 56 = .ok (.iinc 1 1, 3) := by decide +kernel
theorem dX5_putAside_59 : decode cX5_putAside 59 = .ok (.goto (-57), 3) := by decide +kernel
theorem dX5_putAside_62 : decode cX5_putAside 62 = .ok (.iconst 0, 1) := by decide +kernel
theorem dX5_putAside_63 : decode cX5_putAside 63 = .ok (.istore_n 1, 1) := by decide +kernel
theorem dX5_putAside_64 : decode cX5_putAside 64 = .ok (.iload_n 1, 1) := by decide +kernel
theorem dX5_putAside_65 : decode cX5_putAside 65 = .ok (.bipush 17, 2) := by decide +kernel
theorem dX5_putAside_67 : decode cX5_putAside 67 = .ok (.if_icmp .ge 21, 3) := by decide +kernel
theorem dX5_putAside_70 : decode cX5_putAside 70 = .ok (.aload_n 0, 1) := by decide +kernel
theorem dX5_putAside_71 : decode cX5_putAside 71 = .ok (.getfield 57, 3) := by decide +kernel
theorem dX5_putAside_74 : decode cX5_putAside 74 = .ok (.iload_n 1, 1) := by decide +kernel
theorem dX5_putAside_75 : decode cX5_putAside 75 = .ok (.aload_n 0, 1) := by decide +kernel
theorem dX5_putAside_76 : decode cX5_putAside 76 = .ok (.getfield 42, 3) := by decide +kernel
theorem dX5_putAside_79 : decode cX5_putAside 79 = .ok (.iload_n 1, 1) := by decide +kernel
theorem dX5_putAside_80 : decode cX5_putAside 80 = .ok (.iaload, 1) := by decide +kernel
theorem dX5_putAside_81 : decode cX5_putAside 81 = .ok (.iastore, 1) := by decide +kernel
theorem dX5_putAside_82 : decode cX5_putAside 82 = .ok (.iinc 1 1, 3) := by decide +kernel
theorem dX5_putAside_85 : decode cX5_putAside 85 = .ok (.goto (-21), 3) := by decide +kernel
theorem dX5_putAside_88 : decode cX5_putAside 88 = .ok (.iconst 0, 1) := by decide +kernel
theorem dX5_putAside_89 : decode cX5_putAside 89 = .ok (.istore_n 1, 1) := by decide +kernel
theorem dX5_putAside_90 : decode cX5_putAside 90 = .ok (.iload_n 1, 1) := by decide +kernel
theorem dX5_putAside_91 : decode cX5_putAside 91 = .ok (.bipush 7, 2) := by decide +kernel
theorem dX5_putAside_93 : decode cX5_putAside 93 = .ok (.if_icmp .ge 21, 3) := by decide +kernel
theorem dX5_putAside_96 : decode cX5_putAside 96 = .ok (.aload_n 0, 1) := by decide +kernel
theorem dX5_putAside_97 : decode cX5_putAside 97 = .ok (.getfield 60, 3) := by decide +kernel
theorem dX5_putAside_100 : decode cX5_putAside 100 = .ok (.iload_n 1, 1) := by decide +kernel
theorem dX5_putAside_101 : decode cX5_putAside 101 = .ok (.aload_n 0, 1) := by decide +kernel
theorem dX5_putAside_102 : decode cX5_putAside 102 = .ok (.getfield 48, 3) := by decide +kernel
theorem dX5_putAside_105 : decode cX5_putAside 105 = .ok (.iload_n 1, 1) := by decide +kernel
theorem dX5_putAside_106 : decode cX5_putAside 106 = .ok (.iaload, 1) := by decide +kernel
theorem dX5_putAside_107 : decode cX5_putAside 107 = .ok (.iastore, 1) := by decide +kernel
theorem dX5_putAside_108 : decode cX5_putAside 108 = .ok (.iinc 1 1, 3) := by decide +kernel
theorem dX5_putAside_111 : decode cX5_putAside 111 = .ok (.goto (-21), 3) := by decide +kernel
theorem dX5_putAside_114 : decode cX5_putAside 114 = .ok (.aload_n 0, 1) := by decide +kernel
theorem dX5_putAside_115 : decode cX5_putAside 115 = .ok (.getfield 63, 3) := by decide +kernel
theorem dX5_putAside_118 : decode cX5_putAside 118 = .ok (.iconst 0, 1) := by decide +kernel
theorem dX5_putAside_119 : decode cX5_putAside 119 = .ok (.aload_n 0, 1) := by decide +kernel
theorem dX5_putAside_120 : decode cX5_putAside 120 = .ok (.getfield 79, 3) := by decide +kernel
theorem dX5_putAside_123 : decode cX5_putAside 123 = .ok (.iastore, 1) := by decide +kernel
theorem dX5_putAside_124 : decode cX5_putAside 124 = .ok (.aload_n 0, 1) := by decide +kernel
theorem dX5_putAside_125 : decode cX5_putAside 125 = .ok (.getfield 63, 3) := by decide +kernel
theorem dX5_putAside_128 : decode cX5_putAside 128 = .ok (.iconst 1, 1) := by decide +kernel
theorem dX5_putAside_129 : decode cX5_putAside 129 = .ok (.aload_n 0, 1) := by decide +kernel
theorem dX5_putAside_130 : decode cX5_putAside 130 = .ok (.getfield 82, 3) := by decide +kernel
theorem dX5_putAside_133 : decode cX5_putAside 133 = .ok (.iastore, 1) := by decide +kernel
theorem dX5_putAside_134 : decode cX5_putAside 134 = .ok (.aload_n 0, 1) := by decide +kernel
theorem dX5_putAside_135 : decode cX5_putAside 135 = .ok (.getfield 63, 3) := by decide +kernel
theorem dX5_putAside_138 : decode cX5_putAside 138 = .ok (.iconst 2, 1) := by decide +kernel
theorem dX5_putAside_139 : decode cX5_putAside 139 = .ok (.aload_n 0, 1) := by decide +kernel
theorem dX5_putAside_140 : decode cX5_putAside 140 = .ok (.getfield 85, 3) := by decide +kernel
theorem dX5_putAside_143 : decode cX5_putAside 143 = .ok (.iastore, 1) := by decide +kernel
theorem dX5_putAside_144 : decode cX5_putAside 144 = .ok (.aload_n 0, 1) := by decide +kernel
theorem dX5_putAside_145 : decode cX5_putAside 145 = .ok (.getfield 63, 3) := by decide +kernel
theorem dX5_putAside_148 : decode cX5_putAside 148 = .ok (.iconst 3, 1) := by decide +kernel
theorem dX5_putAside_149 : decode cX5_putAside 149 = .ok (.aload_n 0, 1) := by decide +kernel
theorem dX5_putAside_150 : decode cX5_putAside 150 = .ok (.getfield 88, 3) := by decide +kernel
theorem dX5_putAside_153 : decode cX5_putAside 153 = .ok (.ifCond .eq 7, 3) := by decide +kernel
theorem dX5_putAside_156 : decode cX5_putAside 156 = .ok (.iconst 1, 1) := by decide +kernel
theorem dX5_putAside_157 : decode cX5_putAside 157 = .ok (.goto 4, 3) := by decide +kernel
theorem dX5_putAside_160 : decode cX5_putAside 160 = .ok (.iconst 0, 1) := by decide +kernel
theorem dX5_putAside_161 : decode cX5_putAside 161 = .ok (.iastore, 1) := by decide +kernel
theorem dX5_putAside_162 : decode cX5_putAside 162 = .ok (.return_, 1) := by decide +kernel
theorem dX5_putBack_0 : decode cX5_putBack 0 = .ok (.iconst 0, 1) := by decide +kernel
theorem dX5_putBack_1 : decode cX5_putBack 1 = .ok (.istore_n 1, 1) := by decide +kernel
theorem dX5_putBack_2 : decode cX5_putBack 2 = .ok (.iload_n 1, 1) := by decide +kernel
theorem dX5_putBack_3 : decode cX5_putBack 3 = .ok (.aload_n 0, 1) := by decide +kernel
theorem dX5_putBack_4 : decode cX5_putBack 4 = .ok (.getfield 73, 3) := by decide +kernel
theorem dX5_putBack_7 : decode cX5_putBack 7 = .ok (.if_icmp .ge 55, 3) := by decide +kernel
theorem dX5_putBack_10 : decode cX5_putBack 10 = .ok (.aload_n 0, 1) := by decide +kernel
theorem dX5_putBack_11 : decode cX5_putBack 11 = .ok (.getfield 33, 3) := by decide +kernel
theorem dX5_putBack_14 : decode cX5_putBack 14 = .ok (.iload_n 1, 1) := by decide +kernel
theorem dX5_putBack_15 : decode cX5_putBack 15 = .ok (.aload_n 0, 1) := by decide +kernel
theorem dX5_putBack_16 : decode cX5_putBack 16 = .ok (.getfield 54, 3) := by decide +kernel
theorem dX5_putBack_19 : decode cX5_putBack 19 = .ok (.iconst 3, 1) := by decide +kernel
theorem dX5_putBack_20 : decode cX5_putBack 20 = .ok (.iload_n 1, 1) := by decide +kernel
theorem dX5_putBack_21 : decode cX5_putBack 21 = .ok (.imul, 1) := by decide +kernel
theorem dX5_putBack_22 : decode cX5_putBack 22 = .ok (.iaload, 1) := by decide +kernel
theorem dX5_putBack_23 : decode cX5_putBack 23 = .ok (.iastore, 1) := by decide +kernel
theorem dX5_putBack_24 : decode cX5_putBack 24 = .ok (.aload_n 0, 1) := by decide +kernel
theorem dX5_putBack_25 : decode cX5_putBack 25 = .ok (.getfield 36, 3) := by decide +kernel
theorem dX5_putBack_28 : decode cX5_putBack 28 = .ok (.iload_n 1, 1) := by decide +kernel
theorem dX5_putBack_29 : decode cX5_putBack 29 = .ok (.aload_n 0, 1) := by decide +kernel
theorem dX5_putBack_30 : decode cX5_putBack 30 = .ok (.getfield 54, 3) := by decide +kernel
theorem dX5_putBack_33 : decode cX5_putBack 33 = .ok (.iconst 3, 1) := by decide +kernel
theorem dX5_putBack_34 : decode cX5_putBack 34 = .ok (.iload_n 1, 1) := by decide +kernel
theorem dX5_putBack_35 : decode cX5_putBack 35 = .ok (.imul, 1) := by decide +kernel
theorem dX5_putBack_36 : decode cX5_putBack 36 = .ok (.iconst 1, 1) := by decide +kernel
theorem dX5_putBack_37 : decode cX5_putBack 37 = .ok (.iadd, 1) := by decide +kernel
theorem dX5_putBack_38 : decode cX5_putBack 38 = .ok (.iaload, 1) := by decide +kernel
theorem dX5_putBack_39 : decode cX5_putBack 39 = .ok (.iastore, 1) := by decide +kernel
theorem dX5_putBack_40 : decode cX5_putBack 40 = .ok (.aload_n 0, 1) := by decide +kernel
theorem dX5_putBack_41 : decode cX5_putBack 41 = .ok (.getfield 39, 3) := by decide +kernel
theorem dX5_putBack_44 : decode cX5_putBack 44 = .ok (.iload_n 1, 1) := by decide +kernel
theorem dX5_putBack_45 : decode cX5_putBack 45 = .ok (.aload_n 0, 1) := by decide +kernel
theorem dX5_putBack_46 : decode cX5_putBack 46 = .ok (.getfield 54, 3) := by decide +kernel
theorem dX5_putBack_49 : decode cX5_putBack 49 = .ok (.iconst 3, 1) := by decide +kernel
theorem dX5_putBack_50 : decode cX5_putBack 50 = .ok (.iload_n 1, 1) := by decide +kernel
theorem dX5_putBack_51 : decode cX5_putBack 51 = .ok (.imul, 1) := by decide +kernel
theorem dX5_putBack_52 : decode cX5_putBack 52 = .ok (.iconst 2, 1) := by decide +kernel
theorem dX5_putBack_53 : decode cX5_putBack 53 = .ok (.iadd, 1) := by decide +kernel
theorem dX5_putBack_54 : decode cX5_putBack 54 = .ok (.iaload, 1) := by decide +kernel
theorem dX5_putBack_55 : decode cX5_putBack 55 = .ok (.iastore, 1) := by decide +kernel
theorem dX5_putBack_56 : decode cX5_putBack 56 = .ok (.iinc 1 1, 3) := by decide +kernel
theorem dX5_putBack_59 : decode cX5_putBack 59 = .ok (.goto (-57), 3) := by decide +kernel
theorem dX5_putBack_62 : decode cX5_putBack 62 = .ok (.iconst 0, 1) := by decide +kernel
theorem dX5_putBack_63 : decode cX5_putBack 63 = .ok (.istore_n 1, 1) := by decide +kernel
theorem dX5_putBack_64 : decode cX5_putBack 64 = .ok (.iload_n 1, 1) := by decide +kernel
theorem dX5_putBack_65 : decode cX5_putBack 65 = .ok (.bipush 17, 2) := by decide +kernel
theorem dX5_putBack_67 : decode cX5_putBack 67 = .ok (.if_icmp .ge 21, 3) := by decide +kernel
theorem dX5_putBack_70 : decode cX5_putBack 70 = .ok (.aload_n 0, 1) := by decide +kernel
theorem dX5_putBack_71 : decode cX5_putBack 71 = .ok (.getfield 42, 3) := by decide +kernel
theorem dX5_putBack_74 : decode cX5_putBack 74 = .ok (.iload_n 1, 1) := by decide +kernel
theorem dX5_putBack_75 : decode cX5_putBack 75 = .ok (.aload_n 0, 1) := by decide +kernel
theorem dX5_putBack_76 : decode cX5_putBack 76 = .ok (.getfield 57, 3) := by decide +kernel
theorem dX5_putBack_79 : decode cX5_putBack 79 = .ok (.iload_n 1, 1) := by decide +kernel
theorem dX5_putBack_80 : decode cX5_putBack 80 = .ok (.iaload, 1) := by decide +kernel
theorem dX5_putBack_81 : decode cX5_putBack 81 = .ok (.iastore, 1) := by decide +kernel
theorem dX5_putBack_82 : decode cX5_putBack 82 = .ok (.iinc 1 1, 3) := by decide +kernel
theorem dX5_putBack_85 : decode cX5_putBack 85 = .ok (.goto (-21), 3) := by decide +kernel
theorem dX5_putBack_88 : decode cX5_putBack 88 = .ok (.iconst 0, 1) := by decide +kernel
theorem dX5_putBack_89 : decode cX5_putBack 89 = .ok (.istore_n 1, 1) := by decide +kernel
theorem dX5_putBack_90 : decode cX5_putBack 90 = .ok (.iload_n 1, 1) := by decide +kernel
theorem dX5_putBack_91 : decode cX5_putBack 91 = .ok (.bipush 7, 2) := by decide +kernel
theorem dX5_putBack_93 : decode cX5_putBack 93 = .ok (.if_icmp .ge 21, 3) := by decide +kernel
theorem dX5_putBack_96 : decode cX5_putBack 96 = .ok (.aload_n 0, 1) := by decide +kernel
theorem dX5_putBack_97 : decode cX5_putBack 97 = .ok (.getfield 48, 3) := by decide +kernel
theorem dX5_putBack_100 : decode cX5_putBack 100 = .ok (.iload_n 1, 1) := by decide +kernel
theorem dX5_putBack_101 : decode cX5_putBack 101 = .ok (.aload_n 0, 1) := by decide +kernel
theorem dX5_putBack_102 : decode cX5_putBack 102 = .ok (.getfield 60, 3) := by decide +kernel
theorem dX5_putBack_105 : decode cX5_putBack 105 = .ok (.iload_n 1, 1) := by decide +kernel
theorem dX5_putBack_106 : decode cX5_putBack 106 = .ok (.iaload, 1) := by decide +kernel
theorem dX5_putBack_107 : decode cX5_putBack 107 = .ok (.iastore, 1) := by decide +kernel
theorem dX5_putBack_108 : decode cX5_putBack 108 = .ok (.iinc 1 1, 3) := by decide +kernel
theorem dX5_putBack_111 : decode cX5_putBack 111 = .ok (.goto (-21), 3) := by decide +kernel
theorem dX5_putBack_114 : decode cX5_putBack 114 = .ok (.aload_n 0, 1) := by decide +kernel
theorem dX5_putBack_115 : decode cX5_putBack 115 = .ok (.aload_n 0, 1) := by decide +kernel
theorem dX5_putBack_116 : decode cX5_putBack 116 = .ok (.getfield 63, 3) := by decide +kernel
theorem dX5_putBack_119 : decode cX5_putBack 119 = .ok (.iconst 0, 1) := by decide +kernel
theorem dX5_putBack_120 : decode cX5_putBack 120 = .ok (.iaload, 1) := by decide +kernel
theorem dX5_putBack_121 : decode cX5_putBack 121 = .ok (.putfield 79, 3) := by decide +kernel
theorem dX5_putBack_124 : decode cX5_putBack 124 = .ok (.aload_n 0, 1) := by decide +kernel
theorem dX5_putBack_125 : decode cX5_putBack 125 = .ok (.aload_n 0, 1) := by decide +kernel
theorem dX5_putBack_126 : decode cX5_putBack 126 = .ok (.getfield 63, 3) := by decide +kernel
theorem dX5_putBack_129 : decode cX5_putBack 129 = .ok (.iconst 1, 1) := by decide +kernel
theorem dX5_putBack_130 : decode cX5_putBack 130 = .ok (.iaload, 1) := by decide +kernel
theorem dX5_putBack_131 : decode cX5_putBack 131 = .ok (.putfield 82, 3) := by decide +kernel
theorem dX5_putBack_134 : decode cX5_putBack 134 = .ok (.aload_n 0, 1) := by decide +kernel
theorem dX5_putBack_135 : decode cX5_putBack 135 = .ok (.aload_n 0, 1) := by decide +kernel
theorem dX5_putBack_136 : decode cX5_putBack 136 = .ok (.getfield 63, 3) := by decide +kernel
theorem dX5_putBack_139 : decode cX5_putBack 139 = .ok (.iconst 2, 1) := by decide +kernel
theorem dX5_putBack_140 : decode cX5_putBack 140 = .ok (.iaload, 1) := by decide +kernel
theorem dX5_putBack_141 : decode cX5_putBack 141 = .ok (.putfield 85, 3) := by decide +kernel
theorem dX5_putBack_144 : decode cX5_putBack 144 = .ok (.aload_n 0, 1) := by decide +kernel
theorem dX5_putBack_145 : decode cX5_putBack 145 = .ok (.aload_n 0, 1) := by decide +kernel
theorem dX5_putBack_146 : decode cX5_putBack 146 = .ok (.getfield 63, 3) := by decide +kernel
theorem dX5_putBack_149 : decode cX5_putBack 149 = .ok (.iconst 3, 1) := by decide +kernel
theorem dX5_putBack_150 : decode cX5_putBack 150 = .ok (.iaload, 1) := by decide +kernel
theorem dX5_putBack_151 : decode cX5_putBack 151 = .ok (.iconst 1, 1) := by decide +kernel
theorem dX5_putBack_152 : decode cX5_putBack 152 = .ok (.if_icmp .ne 7, 3) := by decide +kernel
theorem dX5_putBack_155 : decode cX5_putBack 155 = .ok (.iconst 1, 1) := by decide +kernel
theorem dX5_putBack_156 : decode cX5_putBack 156 = .ok (.goto 4, 3) := by decide +kernel
theorem dX5_putBack_159 : decode cX5_putBack 159 = .ok (.iconst 0, 1) := by decide +kernel
theorem dX5_putBack_160 : decode cX5_putBack 160 = .ok (.putfield 88, 3) := by decide +kernel
theorem dX5_putBack_163 : decode cX5_putBack 163 = .ok (.return_, 1) := by decide +kernel
theorem dX5_leastOf_0 : decode cX5_leastOf 0 = .ok (.iconst (-1), 1) := by decide +kernel
theorem dX5_leastOf_1 : decode cX5_leastOf 1 = .ok (.istore_n 2, 1) := by decide +kernel
theorem dX5_leastOf_2 : decode cX5_leastOf 2 = .ok (.iconst 0, 1) := by decide +kernel
theorem dX5_leastOf_3 : decode cX5_leastOf 3 = .ok (.istore_n 3, 1) := by decide +kernel
theorem dX5_leastOf_4 : decode cX5_leastOf 4 = .ok (.iload_n 3, 1) := by decide +kernel
theorem dX5_leastOf_5 : decode cX5_leastOf 5 = .ok (.aload_n 0, 1) := by decide +kernel
theorem dX5_leastOf_6 : decode cX5_leastOf 6 = .ok (.getfield 142, 3) := by decide +kernel
theorem dX5_leastOf_9 : decode cX5_leastOf 9 = .ok (.if_icmp .ge 40, 3) := by decide +kernel
theorem dX5_leastOf_12 : decode cX5_leastOf 12 = .ok (.iload_n 1, 1) := by decide +kernel
theorem dX5_leastOf_13 : decode cX5_leastOf 13 = .ok (.iload_n 3, 1) := by decide +kernel
theorem dX5_leastOf_14 : decode cX5_leastOf 14 = .ok (.ishr, 1) := by decide +kernel
theorem dX5_leastOf_15 : decode cX5_leastOf 15 = .ok (.iconst 1, 1) := by decide +kernel
theorem dX5_leastOf_16 : decode cX5_leastOf 16 = .ok (.iand, 1) := by decide +kernel
theorem dX5_leastOf_17 : decode cX5_leastOf 17 = .ok (.iconst 1, 1) := by decide +kernel
theorem dX5_leastOf_18 : decode cX5_leastOf 18 = .ok (.if_icmp .ne 25, 3) := by decide +kernel
theorem dX5_leastOf_21 : decode cX5_leastOf 21 = .ok (.iload_n 2, 1) := by decide +kernel
theorem dX5_leastOf_22 : decode cX5_leastOf 22 = .ok (.iconst (-1), 1) := by decide +kernel
theorem dX5_leastOf_23 : decode cX5_leastOf 23 = .ok (.if_icmp .eq 18, 3) := by decide +kernel
theorem dX5_leastOf_26 : decode cX5_leastOf 26 = .ok (.aload_n 0, 1) := by decide +kernel
theorem dX5_leastOf_27 : decode cX5_leastOf 27 = .ok (.getfield 51, 3) := by decide +kernel
theorem dX5_leastOf_30 : decode cX5_leastOf 30 = .ok (.iload_n 3, 1) := by decide +kernel
theorem dX5_leastOf_31 : decode cX5_leastOf 31 = .ok (.iaload, 1) := by decide +kernel
theorem dX5_leastOf_32 : decode cX5_leastOf 32 = .ok (.aload_n 0, 1) := by decide +kernel
theorem dX5_leastOf_33 : decode cX5_leastOf 33 = .ok (.getfield 51, 3) := by decide +kernel
theorem dX5_leastOf_36 : decode cX5_leastOf 36 = .ok (.iload_n 2, 1) := by decide +kernel
theorem dX5_leastOf_37 : decode cX5_leastOf 37 = .ok (.iaload, 1) := by decide +kernel
theorem dX5_leastOf_38 : decode cX5_leastOf 38 = .ok (.if_icmp .ge 5, 3) := by decide +kernel
theorem dX5_leastOf_41 : decode cX5_leastOf 41 = .ok (.iload_n 3, 1) := by decide +kernel
theorem dX5_leastOf_42 : decode cX5_leastOf 42 = .ok (.istore_n 2, 1) := by decide +kernel
theorem dX5_leastOf_43 : decode cX5_leastOf 43 = .ok (.iinc 3 1, 3) := by decide +kernel
theorem dX5_leastOf_46 : decode cX5_leastOf 46 = .ok (.goto (-42), 3) := by decide +kernel
theorem dX5_leastOf_49 : decode cX5_leastOf 49 = .ok (.iload_n 2, 1) := by decide +kernel
theorem dX5_leastOf_50 : decode cX5_leastOf 50 = .ok (.ireturn, 1) := by decide +kernel
set_option maxRecDepth 20000 in
theorem ggX5_dayOf_X5_putAside : GoodIn wsX5_dayOf wsX5_putAside := goodIn_r _ [10, 3, 11, 4, 12, 13, 14, 15, 16, 17, 18, 19, 2, 20, 21, 81, 82, 83, 84, 85, 86, 87, 88, 89, 90, 91, 92, 93, 94, 95, 96, 97, 98, 99, 100, 101, 102, 103, 104, 105] (by decide +kernel) (by decide +kernel)
set_option maxRecDepth 20000 in
theorem gX5_dayOf_X5_putAside : GoodIn wsX5_dayOf (wsV RX5 145 RX5 yX5_putAside wsX5_putAside) := goodIn_app (goodIn_of _ (by decide +kernel)) ggX5_dayOf_X5_putAside
set_option maxRecDepth 20000 in
theorem ggX5_dayOf_X5_rest : GoodIn wsX5_dayOf wsX5_rest := goodIn_r _ [25, 19, 2, 20, 21, 3, 15, 26, 27, 28, 9, 29, 4, 12, 13, 81, 82, 83, 84, 85, 86, 87, 88, 89, 90, 91, 92, 93, 94, 95, 96, 97, 98, 99, 100, 101, 102, 103, 104, 105] (by decide +kernel) (by decide +kernel)
set_option maxRecDepth 20000 in
theorem gX5_dayOf_X5_rest : GoodIn wsX5_dayOf (wsV RX5 76 RX5 yX5_rest wsX5_rest) := goodIn_app (goodIn_of _ (by decide +kernel)) ggX5_dayOf_X5_rest
set_option maxRecDepth 20000 in
theorem ggX5_dayOf_X5_leastOf : GoodIn wsX5_dayOf wsX5_leastOf := goodIn_r _ [33, 34, 1, 81, 82, 83, 84, 85, 86, 87, 88, 89, 90, 91, 92, 93, 94, 95, 96, 97, 98, 99, 100, 101, 102, 103, 104, 105] (by decide +kernel) (by decide +kernel)
set_option maxRecDepth 20000 in
theorem gX5_dayOf_X5_leastOf : GoodIn wsX5_dayOf (wsV RX5 148 RX5 yX5_leastOf wsX5_leastOf) := goodIn_app (goodIn_of _ (by decide +kernel)) ggX5_dayOf_X5_leastOf
set_option maxRecDepth 20000 in
theorem ggX5_dayOf_X5_goFrom : GoodIn wsX5_dayOf wsX5_goFrom := goodIn_r _ [38, 19, 21, 17, 39, 40, 41, 15, 2, 20, 42, 43, 44, 9, 45, 46, 47, 48, 49, 50, 3, 4, 51, 13, 52, 53, 54, 55, 5, 12, 56, 57, 58, 59, 60, 61, 62, 63, 64, 65, 66, 67, 68, 69, 70, 71, 72, 81, 82, 83, 84, 85, 86, 87, 88, 89, 90, 91, 92, 93, 94, 95, 96, 97, 98, 99, 100, 101, 102, 103, 104, 105] (by decide +kernel) (by decide +kernel)
set_option maxRecDepth 20000 in
theorem gX5_dayOf_X5_goFrom : GoodIn wsX5_dayOf (wsV RX5 132 RX5 yX5_goFrom wsX5_goFrom) := goodIn_app (goodIn_of _ (by decide +kernel)) ggX5_dayOf_X5_goFrom
set_option maxRecDepth 20000 in
theorem ggX5_dayOf_X5_waits : GoodIn wsX5_dayOf wsX5_waits := goodIn_r _ [76, 3, 12, 5, 81, 82, 83, 84, 85, 86, 87, 88, 89, 90, 91, 92, 93, 94, 95, 96, 97, 98, 99, 100, 101, 102, 103, 104, 105] (by decide +kernel) (by decide +kernel)
set_option maxRecDepth 20000 in
theorem gX5_dayOf_X5_waits : GoodIn wsX5_dayOf (wsV RX5 138 RX5 yX5_waits wsX5_waits) := goodIn_app (goodIn_of _ (by decide +kernel)) ggX5_dayOf_X5_waits
set_option maxRecDepth 20000 in
theorem ggX5_dayOf_X5_putBack : GoodIn wsX5_dayOf wsX5_putBack := goodIn_r _ [80, 3, 4, 11, 12, 13, 15, 14, 17, 16, 18, 19, 2, 20, 21, 81, 82, 83, 84, 85, 86, 87, 88, 89, 90, 91, 92, 93, 94, 95, 96, 97, 98, 99, 100, 101, 102, 103, 104, 105] (by decide +kernel) (by decide +kernel)
set_option maxRecDepth 20000 in
theorem gX5_dayOf_X5_putBack : GoodIn wsX5_dayOf (wsV RX5 151 RX5 yX5_putBack wsX5_putBack) := goodIn_app (goodIn_of _ (by decide +kernel)) ggX5_dayOf_X5_putBack
theorem dX5_dayOf_0 : decode cX5_dayOf 0 = .ok (.aload_n 0, 1) := by decide +kernel
theorem dX5_dayOf_1 : decode cX5_dayOf 1 = .ok (.invokevirtual 145, 3) := by decide +kernel
theorem dX5_dayOf_4 : decode cX5_dayOf 4 = .ok (.aload_n 0, 1) := by decide +kernel
theorem dX5_dayOf_5 : decode cX5_dayOf 5 = .ok (.invokevirtual 76, 3) := by decide +kernel
theorem dX5_dayOf_8 : decode cX5_dayOf 8 = .ok (.iload_n 1, 1) := by decide +kernel
theorem dX5_dayOf_9 : decode cX5_dayOf 9 = .ok (.istore_n 2, 1) := by decide +kernel
theorem dX5_dayOf_10 : decode cX5_dayOf 10 = .ok (.iload_n 2, 1) := by decide +kernel
theorem dX5_dayOf_11 : decode cX5_dayOf 11 = .ok (.ifCond .eq 48, 3) := by decide +kernel
theorem dX5_dayOf_14 : decode cX5_dayOf 14 = .ok (.aload_n 0, 1) := by decide +kernel
theorem dX5_dayOf_15 : decode cX5_dayOf 15 = .ok (.iload_n 2, 1) := by decide +kernel
theorem dX5_dayOf_16 : decode cX5_dayOf 16 = .ok (.invokevirtual 148, 3) := by decide +kernel
theorem dX5_dayOf_19 : decode cX5_dayOf 19 = .ok (.istore_n 3, 1) := by decide +kernel
theorem dX5_dayOf_20 : decode cX5_dayOf 20 = .ok (.iload_n 2, 1) := by decide +kernel
theorem dX5_dayOf_21 : decode cX5_dayOf 21 = .ok (.iconst 1, 1) := by decide +kernel
theorem dX5_dayOf_22 : decode cX5_dayOf 22 = .ok (.iload_n 3, 1) := by decide +kernel
theorem dX5_dayOf_23 : decode cX5_dayOf 23 = .ok (.ishl, 1) := by decide +kernel
theorem dX5_dayOf_24 : decode cX5_dayOf 24 = .ok (.ixor, 1) := by decide +kernel
theorem dX5_dayOf_25 : decode cX5_dayOf 25 = .ok (.istore_n 2, 1) := by decide +kernel
theorem dX5_dayOf_26 : decode cX5_dayOf 26 = .ok (.aload_n 0, 1) := by decide +kernel
theorem dX5_dayOf_27 : decode cX5_dayOf 27 = .ok (.aload_n 0, 1) := by decide +kernel
theorem dX5_dayOf_28 : decode cX5_dayOf 28 = .ok (.getfield 51, 3) := by decide +kernel
theorem dX5_dayOf_31 : decode cX5_dayOf 31 = .ok (.iload_n 3, 1) := by decide +kernel
theorem dX5_dayOf_32 : decode cX5_dayOf 32 = .ok (.iaload, 1) := by decide +kernel
theorem dX5_dayOf_33 : decode cX5_dayOf 33 = .ok (.aload_n 0, 1) := by decide +kernel
theorem dX5_dayOf_34 : decode cX5_dayOf 34 = .ok (.getfield 82, 3) := by decide +kernel
theorem dX5_dayOf_37 : decode cX5_dayOf 37 = .ok (.if_icmp .ge 10, 3) := by decide +kernel
theorem dX5_dayOf_40 : decode cX5_dayOf 40 = .ok (.aload_n 0, 1) := by decide +kernel
theorem dX5_dayOf_41 : decode cX5_dayOf 41 = .ok (.getfield 82, 3) := by decide +kernel
theorem dX5_dayOf_44 : decode cX5_dayOf 44 = .ok (.goto 9, 3) := by decide +kernel
theorem dX5_dayOf_47 : decode cX5_dayOf 47 = .ok (.aload_n 0, 1) := by decide +kernel
theorem dX5_dayOf_48 : decode cX5_dayOf 48 = .ok (.getfield 51, 3) := by decide +kernel
theorem dX5_dayOf_51 : decode cX5_dayOf 51 = .ok (.iload_n 3, 1) := by decide +kernel
theorem dX5_dayOf_52 : decode cX5_dayOf 52 = .ok (.iaload, 1) := by decide +kernel
theorem dX5_dayOf_53 : decode cX5_dayOf 53 = .ok (.invokevirtual 132, 3) := by decide +kernel
theorem dX5_dayOf_56 : decode cX5_dayOf 56 = .ok (.goto (-46), 3) := by decide +kernel
theorem dX5_dayOf_59 : decode cX5_dayOf 59 = .ok (.aload_n 0, 1) := by decide +kernel
theorem dX5_dayOf_60 : decode cX5_dayOf 60 = .ok (.invokevirtual 138, 3) := by decide +kernel
theorem dX5_dayOf_63 : decode cX5_dayOf 63 = .ok (.istore_n 3, 1) := by decide +kernel
theorem dX5_dayOf_64 : decode cX5_dayOf 64 = .ok (.iconst 0, 1) := by decide +kernel
theorem dX5_dayOf_65 : decode cX5_dayOf 65 = .ok (.istore 4, 2) := by decide +kernel
theorem dX5_dayOf_67 : decode cX5_dayOf 67 = .ok (.iload 4, 2) := by decide +kernel
theorem dX5_dayOf_69 : decode cX5_dayOf 69 = .ok (.aload_n 0, 1) := by decide +kernel
theorem dX5_dayOf_70 : decode cX5_dayOf 70 = .ok (.getfield 73, 3) := by decide +kernel
theorem dX5_dayOf_73 : decode cX5_dayOf 73 = .ok (.if_icmp .ge 48, 3) := by decide +kernel
theorem dX5_dayOf_76 : decode cX5_dayOf 76 = .ok (.aload_n 0, 1) := by decide +kernel
theorem dX5_dayOf_77 : decode cX5_dayOf 77 = .ok (.getfield 33, 3) := by decide +kernel
theorem dX5_dayOf_80 : decode cX5_dayOf 80 = .ok (.iload 4, 2) := by decide +kernel
theorem dX5_dayOf_82 : decode cX5_dayOf 82 = .ok (.iaload, 1) := by decide +kernel
theorem dX5_dayOf_83 : decode cX5_dayOf 83 = .ok (.ifCond .ne 32, 3) := by decide +kernel
theorem dX5_dayOf_86 : decode cX5_dayOf 86 = .ok (.aload_n 0, 1) := by decide +kernel
theorem dX5_dayOf_87 : decode cX5_dayOf 87 = .ok (.getfield 82, 3) := by decide +kernel
theorem dX5_dayOf_90 : decode cX5_dayOf 90 = .ok (.aload_n 0, 1) := by decide +kernel
theorem dX5_dayOf_91 : decode cX5_dayOf 91 = .ok (.getfield 30, 3) := by decide +kernel
theorem dX5_dayOf_94 : decode cX5_dayOf 94 = .ok (.iload 4, 2) := by decide +kernel
theorem dX5_dayOf_96 : decode cX5_dayOf 96 = .ok (.iaload, 1) := by decide +kernel
theorem dX5_dayOf_97 : decode cX5_dayOf 97 = .ok (.if_icmp .le 18, 3) := by decide +kernel
theorem dX5_dayOf_100 : decode cX5_dayOf 100 = .ok (.iload_n 3, 1) := by decide +kernel
theorem dX5_dayOf_101 : decode cX5_dayOf 101 = .ok (.aload_n 0, 1) := by decide +kernel
theorem dX5_dayOf_102 : decode cX5_dayOf 102 = .ok (.getfield 82, 3) := by decide +kernel
theorem dX5_dayOf_105 : decode cX5_dayOf 105 = .ok (.aload_n 0, 1) := by decide +kernel
theorem dX5_dayOf_106 : decode cX5_dayOf 106 = .ok (.getfield 30, 3) := by decide +kernel
theorem dX5_dayOf_109 : decode cX5_dayOf 109 = .ok (.iload 4, 2) := by decide +kernel
theorem dX5_dayOf_111 : decode cX5_dayOf 111 = .ok (.iaload, 1) := by decide +kernel
theorem dX5_dayOf_112 : decode cX5_dayOf 112 = .ok (.isub, 1) := by decide +kernel
theorem dX5_dayOf_113 : decode cX5_dayOf 113 = .ok (.iadd, 1) := by decide +kernel
theorem dX5_dayOf_114 : decode cX5_dayOf 114 = .ok (.istore_n 3, 1) := by decide +kernel
theorem dX5_dayOf_115 : decode cX5_dayOf 115 = .ok (.iinc 4 1, 3) := by decide +kernel
theorem dX5_dayOf_118 : decode cX5_dayOf 118 = .ok (.goto (-51), 3) := by decide +kernel
theorem dX5_dayOf_121 : decode cX5_dayOf 121 = .ok (.aload_n 0, 1) := by decide +kernel
theorem dX5_dayOf_122 : decode cX5_dayOf 122 = .ok (.invokevirtual 151, 3) := by decide +kernel
theorem dX5_dayOf_125 : decode cX5_dayOf 125 = .ok (.iload_n 3, 1) := by decide +kernel
theorem dX5_dayOf_126 : decode cX5_dayOf 126 = .ok (.ireturn, 1) := by decide +kernel
set_option maxRecDepth 20000 in
theorem ggX5_day_X5_in : GoodIn wsX5_day wsX5_in := goodIn_r _ [6] (by decide +kernel) (by decide +kernel)
set_option maxRecDepth 20000 in
theorem gX5_day_X5_in : GoodIn wsX5_day (va_wsS RX5 95 yX5_in wsX5_in) := goodIn_app (goodIn_of _ (by decide +kernel)) ggX5_day_X5_in
set_option maxRecDepth 20000 in
theorem ggX5_day_X5_dayOf : GoodIn wsX5_day wsX5_dayOf := goodIn_r _ [10, 11, 12, 13, 14, 15, 16, 17, 18, 5, 19, 20, 21, 22, 23, 24, 25, 26, 27, 28, 29, 30, 31, 32, 33, 34, 35, 36, 37, 38, 39, 40, 41, 42, 2, 43, 44, 45, 46, 47, 48, 49, 50, 51, 52, 53, 54, 55, 56, 57, 58, 59, 60, 61, 62, 63, 64, 65, 66, 67, 68, 69, 70, 71, 72, 73, 74, 75, 76, 77, 78, 79, 80, 81, 82, 83, 84, 85, 86, 87, 88, 89, 90, 91, 92, 93, 94, 95, 96, 97, 98, 99, 100, 101, 102, 103, 104, 105, 106, 107, 108, 109, 110, 111, 112, 113] (by decide +kernel) (by decide +kernel)
set_option maxRecDepth 20000 in
theorem gX5_day_X5_dayOf : GoodIn wsX5_day (wsV RX5 154 RX5 yX5_dayOf wsX5_dayOf) := goodIn_app (goodIn_of _ (by decide +kernel)) ggX5_day_X5_dayOf
theorem dX5_day_0 : decode cX5_day 0 = .ok (.aload_n 0, 1) := by decide +kernel
theorem dX5_day_1 : decode cX5_day 1 = .ok (.iconst 0, 1) := by decide +kernel
theorem dX5_day_2 : decode cX5_day 2 = .ok (.putfield 70, 3) := by decide +kernel
theorem dX5_day_5 : decode cX5_day 5 = .ok (.iload_n 1, 1) := by decide +kernel
theorem dX5_day_6 : decode cX5_day 6 = .ok (.iconst 0, 1) := by decide +kernel
theorem dX5_day_7 : decode cX5_day 7 = .ok (.iconst 1, 1) := by decide +kernel
theorem dX5_day_8 : decode cX5_day 8 = .ok (.aload_n 0, 1) := by decide +kernel
theorem dX5_day_9 : decode cX5_day 9 = .ok (.getfield 142, 3) := by decide +kernel
theorem dX5_day_12 : decode cX5_day 12 = .ok (.ishl, 1) := by decide +kernel
theorem dX5_day_13 : decode cX5_day 13 = .ok (.iconst 1, 1) := by decide +kernel
theorem dX5_day_14 : decode cX5_day 14 = .ok (.isub, 1) := by decide +kernel
theorem dX5_day_15 : decode cX5_day 15 = .ok (.invokestatic 95, 3) := by decide +kernel
theorem dX5_day_18 : decode cX5_day 18 = .ok (.ifCond .eq 11, 3) := by decide +kernel
theorem dX5_day_21 : decode cX5_day 21 = .ok (.aload_n 0, 1) := by decide +kernel
theorem dX5_day_22 : decode cX5_day 22 = .ok (.iload_n 1, 1) := by decide +kernel
theorem dX5_day_23 : decode cX5_day 23 = .ok (.invokevirtual 154, 3) := by decide +kernel
theorem dX5_day_26 : decode cX5_day 26 = .ok (.goto 4, 3) := by decide +kernel
theorem dX5_day_29 : decode cX5_day 29 = .ok (.iconst (-1), 1) := by decide +kernel
theorem dX5_day_30 : decode cX5_day 30 = .ok (.ireturn, 1) := by decide +kernel
set_option maxRecDepth 20000 in
theorem ggX5_best_J6_bitCount_0f7a4 : GoodIn wsX5_best wsJ6_bitCount_0f7a4 := goodIn_r _ [6, 7, 8, 9] (by decide +kernel) (by decide +kernel)
set_option maxRecDepth 20000 in
theorem gX5_best_J6_bitCount_0f7a4 : GoodIn wsX5_best (va_wsS RX5 157 yJ6_bitCount_0f7a4 wsJ6_bitCount_0f7a4) := goodIn_app (goodIn_of _ (by decide +kernel)) ggX5_best_J6_bitCount_0f7a4
set_option maxRecDepth 20000 in
theorem ggX5_best_X5_dayOf : GoodIn wsX5_best wsX5_dayOf := goodIn_r _ [14, 15, 16, 17, 18, 19, 20, 21, 22, 13, 23, 24, 25, 26, 27, 28, 29, 30, 31, 32, 33, 34, 35, 36, 37, 38, 39, 40, 41, 42, 43, 44, 45, 46, 2, 47, 48, 49, 50, 51, 52, 53, 54, 55, 56, 57, 58, 59, 60, 61, 62, 63, 64, 65, 66, 67, 68, 69, 70, 71, 72, 73, 74, 75, 76, 77, 78, 79, 80, 81, 82, 83, 84, 85, 86, 87, 88, 89, 90, 91, 92, 93, 94, 95, 96, 97, 98, 99, 100, 101, 102, 103, 104, 105, 106, 107, 108, 109, 110, 111, 112, 113, 114, 115, 116, 117] (by decide +kernel) (by decide +kernel)
set_option maxRecDepth 20000 in
theorem gX5_best_X5_dayOf : GoodIn wsX5_best (wsV RX5 154 RX5 yX5_dayOf wsX5_dayOf) := goodIn_app (goodIn_of _ (by decide +kernel)) ggX5_best_X5_dayOf
theorem dX5_best_0 : decode cX5_best 0 = .ok (.aload_n 0, 1) := by decide +kernel
theorem dX5_best_1 : decode cX5_best 1 = .ok (.iconst 0, 1) := by decide +kernel
theorem dX5_best_2 : decode cX5_best 2 = .ok (.putfield 70, 3) := by decide +kernel
theorem dX5_best_5 : decode cX5_best 5 = .ok (.iload_n 1, 1) := by decide +kernel
theorem dX5_best_6 : decode cX5_best 6 = .ok (.ifCond .lt 11, 3) := by decide +kernel
theorem dX5_best_9 : decode cX5_best 9 = .ok (.iload_n 1, 1) := by decide +kernel
theorem dX5_best_10 : decode cX5_best 10 = .ok (.aload_n 0, 1) := by decide +kernel
theorem dX5_best_11 : decode cX5_best 11 = .ok (.getfield 142, 3) := by decide +kernel
theorem dX5_best_14 : decode cX5_best 14 = .ok (.if_icmp .le 5, 3) := by decide +kernel
theorem dX5_best_17 : decode cX5_best 17 = .ok (.iconst (-1), 1) := by decide +kernel
theorem dX5_best_18 : decode cX5_best 18 = .ok (.ireturn, 1) := by decide +kernel
theorem dX5_best_19 : decode cX5_best 19 = .ok (.iconst (-1), 1) := by decide +kernel
theorem dX5_best_20 : decode cX5_best 20 = .ok (.istore_n 2, 1) := by decide +kernel
theorem dX5_best_21 : decode cX5_best 21 = .ok (.iconst 0, 1) := by decide +kernel
theorem dX5_best_22 : decode cX5_best 22 = .ok (.istore_n 3, 1) := by decide +kernel
theorem dX5_best_23 : decode cX5_best 23 = .ok (.iconst 0, 1) := by decide +kernel
theorem dX5_best_24 : decode cX5_best 24 = .ok (.istore 4, 2) := by decide +kernel
theorem dX5_best_26 : decode cX5_best 26 = .ok (.iload 4, 2) := by decide +kernel
theorem dX5_best_28 : decode cX5_best 28 = .ok (.iconst 1, 1) := by decide +kernel
theorem dX5_best_29 : decode cX5_best 29 = .ok (.aload_n 0, 1) := by decide +kernel
theorem dX5_best_30 : decode cX5_best 30 = .ok (.getfield 142, 3) := by decide +kernel
theorem dX5_best_33 : decode cX5_best 33 = .ok (.ishl, 1) := by decide +kernel
theorem dX5_best_34 : decode cX5_best 34 = .ok (.if_icmp .ge 49, 3) := by decide +kernel
theorem dX5_best_37 : decode cX5_best 37 = .ok (.iload 4, 2) := by decide +kernel
theorem dX5_best_39 : decode cX5_best 39 = .ok (.invokestatic 157, 3) := by decide +kernel
theorem dX5_best_42 : decode cX5_best 42 = .ok (.iload_n 1, 1) := by decide +kernel
theorem dX5_best_43 : decode cX5_best 43 = .ok (.if_icmp .eq 6, 3) := by decide +kernel
theorem dX5_best_46 : decode cX5_best 46 = .ok (.goto 31, 3) := by decide +kernel
theorem dX5_best_49 : decode cX5_best 49 = .ok (.aload_n 0, 1) := by decide +kernel
theorem dX5_best_50 : decode cX5_best 50 = .ok (.iload 4, 2) := by decide +kernel
theorem dX5_best_52 : decode cX5_best 52 = .ok (.invokevirtual 154, 3) := by decide +kernel
theorem dX5_best_55 : decode cX5_best 55 = .ok (.istore 5, 2) := by decide +kernel
theorem dX5_best_57 : decode cX5_best 57 = .ok (.iload_n 2, 1) := by decide +kernel
theorem dX5_best_58 : decode cX5_best 58 = .ok (.iconst (-1), 1) := by decide +kernel
theorem dX5_best_59 : decode cX5_best 59 = .ok (.if_icmp .eq 12, 3) := by decide +kernel
theorem dX5_best_62 : decode cX5_best 62 = .ok (.iload 5, 2) := by decide +kernel
theorem dX5_best_64 : decode cX5_best 64 = .ok (.iload_n 3, 1) := by decide +kernel
theorem dX5_best_65 : decode cX5_best 65 = .ok (.if_icmp .lt 6, 3) := by decide +kernel
theorem dX5_best_68 : decode cX5_best 68 = .ok (.goto 9, 3) := by decide +kernel
theorem dX5_best_71 : decode cX5_best 71 = .ok (.iload 4, 2) := by decide +kernel
theorem dX5_best_73 : decode cX5_best 73 = .ok (.istore_n 2, 1) := by decide +kernel
theorem dX5_best_74 : decode cX5_best 74 = .ok (.iload 5, 2) := by decide +kernel
theorem dX5_best_76 : decode cX5_best 76 = .ok (.istore_n 3, 1) := by decide +kernel
theorem dX5_best_77 : decode cX5_best 77 = .ok (.iinc 4 1, 3) := by decide +kernel
theorem dX5_best_80 : decode cX5_best 80 = .ok (.goto (-54), 3) := by decide +kernel
theorem dX5_best_83 : decode cX5_best 83 = .ok (.iload_n 2, 1) := by decide +kernel
theorem dX5_best_84 : decode cX5_best 84 = .ok (.ireturn, 1) := by decide +kernel
set_option maxRecDepth 20000 in
theorem ggX5_broken_X5_in : GoodIn wsX5_broken wsX5_in := goodIn_r _ [7] (by decide +kernel) (by decide +kernel)
set_option maxRecDepth 20000 in
theorem gX5_broken_X5_in : GoodIn wsX5_broken (va_wsS RX5 95 yX5_in wsX5_in) := goodIn_app (goodIn_of _ (by decide +kernel)) ggX5_broken_X5_in
theorem dX5_broken_0 : decode cX5_broken 0 = .ok (.aload_n 0, 1) := by decide +kernel
theorem dX5_broken_1 : decode cX5_broken 1 = .ok (.iconst 0, 1) := by decide +kernel
theorem dX5_broken_2 : decode cX5_broken 2 = .ok (.putfield 70, 3) := by decide +kernel
theorem dX5_broken_5 : decode cX5_broken 5 = .ok (.iload_n 1, 1) := by decide +kernel
theorem dX5_broken_6 : decode cX5_broken 6 = .ok (.iconst 0, 1) := by decide +kernel
theorem dX5_broken_7 : decode cX5_broken 7 = .ok (.aload_n 0, 1) := by decide +kernel
theorem dX5_broken_8 : decode cX5_broken 8 = .ok (.getfield 7, 3) := by decide +kernel
theorem dX5_broken_11 : decode cX5_broken 11 = .ok (.iconst 1, 1) := by decide +kernel
theorem dX5_broken_12 : decode cX5_broken 12 = .ok (.isub, 1) := by decide +kernel
theorem dX5_broken_13 : decode cX5_broken 13 = .ok (.invokestatic 95, 3) := by decide +kernel
theorem dX5_broken_16 : decode cX5_broken 16 = .ok (.ifCond .eq 27, 3) := by decide +kernel
theorem dX5_broken_19 : decode cX5_broken 19 = .ok (.iload_n 2, 1) := by decide +kernel
theorem dX5_broken_20 : decode cX5_broken 20 = .ok (.iconst 1, 1) := by decide +kernel
theorem dX5_broken_21 : decode cX5_broken 21 = .ok (.bipush 100, 2) := by decide +kernel
theorem dX5_broken_23 : decode cX5_broken 23 = .ok (.invokestatic 95, 3) := by decide +kernel
theorem dX5_broken_26 : decode cX5_broken 26 = .ok (.ifCond .eq 17, 3) := by decide +kernel
theorem dX5_broken_29 : decode cX5_broken 29 = .ok (.aload_n 0, 1) := by decide +kernel
theorem dX5_broken_30 : decode cX5_broken 30 = .ok (.getfield 45, 3) := by decide +kernel
theorem dX5_broken_33 : decode cX5_broken 33 = .ok (.iload_n 1, 1) := by decide +kernel
theorem dX5_broken_34 : decode cX5_broken 34 = .ok (.iaload, 1) := by decide +kernel
theorem dX5_broken_35 : decode cX5_broken 35 = .ok (.iload_n 2, 1) := by decide +kernel
theorem dX5_broken_36 : decode cX5_broken 36 = .ok (.iadd, 1) := by decide +kernel
theorem dX5_broken_37 : decode cX5_broken 37 = .ok (.sipush 1000, 3) := by decide +kernel
theorem dX5_broken_40 : decode cX5_broken 40 = .ok (.if_icmp .le 5, 3) := by decide +kernel
theorem dX5_broken_43 : decode cX5_broken 43 = .ok (.iconst (-1), 1) := by decide +kernel
theorem dX5_broken_44 : decode cX5_broken 44 = .ok (.ireturn, 1) := by decide +kernel
theorem dX5_broken_45 : decode cX5_broken 45 = .ok (.aload_n 0, 1) := by decide +kernel
theorem dX5_broken_46 : decode cX5_broken 46 = .ok (.getfield 45, 3) := by decide +kernel
theorem dX5_broken_49 : decode cX5_broken 49 = .ok (.iload_n 1, 1) := by decide +kernel
theorem dX5_broken_50 : decode cX5_broken 50 = .ok (.dup2, 1) := by decide +kernel
theorem dX5_broken_51 : decode cX5_broken 51 = .ok (.iaload, 1) := by decide +kernel
theorem dX5_broken_52 : decode cX5_broken 52 = .ok (.iload_n 2, 1) := by decide +kernel
theorem dX5_broken_53 : decode cX5_broken 53 = .ok (.iadd, 1) := by decide +kernel
theorem dX5_broken_54 : decode cX5_broken 54 = .ok (.iastore, 1) := by decide +kernel
theorem dX5_broken_55 : decode cX5_broken 55 = .ok (.aload_n 0, 1) := by decide +kernel
theorem dX5_broken_56 : decode cX5_broken 56 = .ok (.getfield 45, 3) := by decide +kernel
theorem dX5_broken_59 : decode cX5_broken 59 = .ok (.iload_n 1, 1) := by decide +kernel
theorem dX5_broken_60 : decode cX5_broken 60 = .ok (.iaload, 1) := by decide +kernel
theorem dX5_broken_61 : decode cX5_broken 61 = .ok (.ireturn, 1) := by decide +kernel
set_option maxRecDepth 20000 in
theorem ggX5_bent_X5_in : GoodIn wsX5_bent wsX5_in := goodIn_r _ [7] (by decide +kernel) (by decide +kernel)
set_option maxRecDepth 20000 in
theorem gX5_bent_X5_in : GoodIn wsX5_bent (va_wsS RX5 95 yX5_in wsX5_in) := goodIn_app (goodIn_of _ (by decide +kernel)) ggX5_bent_X5_in
theorem dX5_bent_0 : decode cX5_bent 0 = .ok (.aload_n 0, 1) := by decide +kernel
theorem dX5_bent_1 : decode cX5_bent 1 = .ok (.iconst 0, 1) := by decide +kernel
theorem dX5_bent_2 : decode cX5_bent 2 = .ok (.putfield 70, 3) := by decide +kernel
theorem dX5_bent_5 : decode cX5_bent 5 = .ok (.iload_n 1, 1) := by decide +kernel
theorem dX5_bent_6 : decode cX5_bent 6 = .ok (.iconst 0, 1) := by decide +kernel
theorem dX5_bent_7 : decode cX5_bent 7 = .ok (.aload_n 0, 1) := by decide +kernel
theorem dX5_bent_8 : decode cX5_bent 8 = .ok (.getfield 7, 3) := by decide +kernel
theorem dX5_bent_11 : decode cX5_bent 11 = .ok (.iconst 1, 1) := by decide +kernel
theorem dX5_bent_12 : decode cX5_bent 12 = .ok (.isub, 1) := by decide +kernel
theorem dX5_bent_13 : decode cX5_bent 13 = .ok (.invokestatic 95, 3) := by decide +kernel
theorem dX5_bent_16 : decode cX5_bent 16 = .ok (.ifCond .eq 12, 3) := by decide +kernel
theorem dX5_bent_19 : decode cX5_bent 19 = .ok (.aload_n 0, 1) := by decide +kernel
theorem dX5_bent_20 : decode cX5_bent 20 = .ok (.getfield 42, 3) := by decide +kernel
theorem dX5_bent_23 : decode cX5_bent 23 = .ok (.iload_n 1, 1) := by decide +kernel
theorem dX5_bent_24 : decode cX5_bent 24 = .ok (.iaload, 1) := by decide +kernel
theorem dX5_bent_25 : decode cX5_bent 25 = .ok (.goto 4, 3) := by decide +kernel
theorem dX5_bent_28 : decode cX5_bent 28 = .ok (.iconst (-1), 1) := by decide +kernel
theorem dX5_bent_29 : decode cX5_bent 29 = .ok (.ireturn, 1) := by decide +kernel
theorem dX5_off_0 : decode cX5_off 0 = .ok (.aload_n 0, 1) := by decide +kernel
theorem dX5_off_1 : decode cX5_off 1 = .ok (.iconst 0, 1) := by decide +kernel
theorem dX5_off_2 : decode cX5_off 2 = .ok (.putfield 70, 3) := by decide +kernel
theorem dX5_off_5 : decode cX5_off 5 = .ok (.iconst 0, 1) := by decide +kernel
theorem dX5_off_6 : decode cX5_off 6 = .ok (.istore_n 1, 1) := by decide +kernel
theorem dX5_off_7 : decode cX5_off 7 = .ok (.iload_n 1, 1) := by decide +kernel
theorem dX5_off_8 : decode cX5_off 8 = .ok (.aload_n 0, 1) := by decide +kernel
theorem dX5_off_9 : decode cX5_off 9 = .ok (.getfield 7, 3) := by decide +kernel
theorem dX5_off_12 : decode cX5_off 12 = .ok (.if_icmp .ge 28, 3) := by decide +kernel
theorem dX5_off_15 : decode cX5_off 15 = .ok (.aload_n 0, 1) := by decide +kernel
theorem dX5_off_16 : decode cX5_off 16 = .ok (.getfield 42, 3) := by decide +kernel
theorem dX5_off_19 : decode cX5_off 19 = .ok (.iload_n 1, 1) := by decide +kernel
theorem dX5_off_20 : decode cX5_off 20 = .ok (.iaload, 1) := by decide +kernel
theorem dX5_off_21 : decode cX5_off 21 = .ok (.aload_n 0, 1) := by decide +kernel
theorem dX5_off_22 : decode cX5_off 22 = .ok (.getfield 21, 3) := by decide +kernel
theorem dX5_off_25 : decode cX5_off 25 = .ok (.iconst 5, 1) := by decide +kernel
theorem dX5_off_26 : decode cX5_off 26 = .ok (.iaload, 1) := by decide +kernel
theorem dX5_off_27 : decode cX5_off 27 = .ok (.if_icmp .le 7, 3) := by decide +kernel
theorem dX5_off_30 : decode cX5_off 30 = .ok (.iconst 1, 1) := by decide +kernel
theorem dX5_off_31 : decode cX5_off 31 = .ok (.iload_n 1, 1) := by decide +kernel
theorem dX5_off_32 : decode cX5_off 32 = .ok (.iadd, 1) := by decide +kernel
theorem dX5_off_33 : decode cX5_off 33 = .ok (.ireturn, 1) := by decide +kernel
theorem dX5_off_34 : decode cX5_off 34 = .ok (.iinc 1 1, 3) := by decide +kernel
theorem dX5_off_37 : decode cX5_off 37 = .ok (.goto (-30), 3) := by decide +kernel
theorem dX5_off_40 : decode cX5_off 40 = .ok (.iconst 0, 1) := by decide +kernel
theorem dX5_off_41 : decode cX5_off 41 = .ok (.istore_n 1, 1) := by decide +kernel
theorem dX5_off_42 : decode cX5_off 42 = .ok (.iload_n 1, 1) := by decide +kernel
theorem dX5_off_43 : decode cX5_off 43 = .ok (.aload_n 0, 1) := by decide +kernel
theorem dX5_off_44 : decode cX5_off 44 = .ok (.getfield 7, 3) := by decide +kernel
theorem dX5_off_47 : decode cX5_off 47 = .ok (.if_icmp .ge 65, 3) := by decide +kernel
theorem dX5_off_50 : decode cX5_off 50 = .ok (.iconst 0, 1) := by decide +kernel
theorem dX5_off_51 : decode cX5_off 51 = .ok (.istore_n 2, 1) := by decide +kernel
theorem dX5_off_52 : decode cX5_off 52 = .ok (.iload_n 1, 1) := by decide +kernel
theorem dX5_off_53 : decode cX5_off 53 = .ok (.istore_n 3, 1) := by decide +kernel
theorem dX5_off_54 : decode cX5_off 54 = .ok (.iload_n 3, 1) := by decide +kernel
theorem dX5_off_55 : decode cX5_off 55 = .ok (.aload_n 0, 1) := by decide +kernel
theorem dX5_off_56 : decode cX5_off 56 = .ok (.getfield 7, 3) := by decide +kernel
theorem dX5_off_59 : decode cX5_off 59 = .ok (.if_icmp .ge 31, 3) := by decide +kernel
theorem dX5_off_62 : decode cX5_off 62 = .ok (.iload_n 3, 1) := by decide +kernel
theorem dX5_off_63 : decode cX5_off 63 = .ok (.iload_n 1, 1) := by decide +kernel
theorem dX5_off_64 : decode cX5_off 64 = .ok (.aload_n 0, 1) := by decide +kernel
theorem dX5_off_65 : decode cX5_off 65 = .ok (.getfield 21, 3) := by decide +kernel
theorem dX5_off_68 : decode cX5_off 68 = .ok (.bipush 6, 2) := by decide +kernel
theorem dX5_off_70 : decode cX5_off 70 = .ok (.iaload, 1) := by decide +kernel
theorem dX5_off_71 : decode cX5_off 71 = .ok (.iadd, 1) := by decide +kernel
theorem dX5_off_72 : decode cX5_off 72 = .ok (.if_icmp .ge 18, 3) := by decide +kernel
theorem dX5_off_75 : decode cX5_off 75 = .ok (.iload_n 2, 1) := by decide +kernel
theorem dX5_off_76 : decode cX5_off 76 = .ok (.aload_n 0, 1) := by decide +kernel
theorem dX5_off_77 : decode cX5_off 77 = .ok (.getfield 45, 3) := by decide +kernel
theorem dX5_off_80 : decode cX5_off 80 = .ok (.iload_n 3, 1) := by decide +kernel
theorem dX5_off_81 : decode cX5_off 81 = .ok (.iaload, 1) := by decide +kernel
theorem dX5_off_82 : decode cX5_off 82 = .ok (.iadd, 1) := by decide +kernel
theorem dX5_off_83 : decode cX5_off 83 = .ok (.istore_n 2, 1) := by decide +kernel
theorem dX5_off_84 : decode cX5_off 84 = .ok (.iinc 3 1, 3) := by decide +kernel
theorem dX5_off_87 : decode cX5_off 87 = .ok (.goto (-33), 3) := by decide +kernel
theorem dX5_off_90 : decode cX5_off 90 = .ok (.iload_n 2, 1) := by decide +kernel
theorem dX5_off_91 : decode cX5_off 91 = .ok (.aload_n 0, 1) := by decide +kernel
theorem dX5_off_92 : decode cX5_off 92 = .ok (.getfield 21, 3) := by decide +kernel
theorem dX5_off_95 : decode cX5_off 95 = .ok (.bipush 7, 2) := by decide +kernel
theorem dX5_off_97 : decode cX5_off 97 = .ok (.iaload, 1) := by decide +kernel
theorem dX5_off_98 : decode cX5_off 98 = .ok (.if_icmp .lt 8, 3) := by decide +kernel
theorem dX5_off_101 : decode cX5_off 101 = .ok (.bipush 100, 2) := by decide +kernel
theorem dX5_off_103 : decode cX5_off 103 = .ok (.iload_n 1, 1) := by decide +kernel
theorem dX5_off_104 : decode cX5_off 104 = .ok (.iadd, 1) := by decide +kernel
theorem dX5_off_105 : decode cX5_off 105 = .ok (.ireturn, 1) := by decide +kernel
theorem dX5_off_106 : decode cX5_off 106 = .ok (.iinc 1 1, 3) := by decide +kernel
theorem dX5_off_109 : decode cX5_off 109 = .ok (.goto (-67), 3) := by decide +kernel
theorem dX5_off_112 : decode cX5_off 112 = .ok (.iconst 0, 1) := by decide +kernel
theorem dX5_off_113 : decode cX5_off 113 = .ok (.ireturn, 1) := by decide +kernel
theorem dJ6_bitCount_0f7a4_0 : decode cJ6_bitCount_0f7a4 0 = .ok (.iload_n 0, 1) := by decide +kernel
theorem dJ6_bitCount_0f7a4_1 : decode cJ6_bitCount_0f7a4 1 = .ok (.iload_n 0, 1) := by decide +kernel
theorem dJ6_bitCount_0f7a4_2 : decode cJ6_bitCount_0f7a4 2 = .ok (.iconst 1, 1) := by decide +kernel
theorem dJ6_bitCount_0f7a4_3 : decode cJ6_bitCount_0f7a4 3 = .ok (.iushr, 1) := by decide +kernel
theorem dJ6_bitCount_0f7a4_4 : decode cJ6_bitCount_0f7a4 4 = .ok (.ldc_w 265, 3) := by decide +kernel
theorem dJ6_bitCount_0f7a4_7 : decode cJ6_bitCount_0f7a4 7 = .ok (.iand, 1) := by decide +kernel
theorem dJ6_bitCount_0f7a4_8 : decode cJ6_bitCount_0f7a4 8 = .ok (.isub, 1) := by decide +kernel
theorem dJ6_bitCount_0f7a4_9 : decode cJ6_bitCount_0f7a4 9 = .ok (.istore_n 0, 1) := by decide +kernel
theorem dJ6_bitCount_0f7a4_10 : decode cJ6_bitCount_0f7a4 10 = .ok (.iload_n 0, 1) := by decide +kernel
theorem dJ6_bitCount_0f7a4_11 : decode cJ6_bitCount_0f7a4 11 = .ok (.ldc_w 266, 3) := by decide +kernel
theorem dJ6_bitCount_0f7a4_14 : decode cJ6_bitCount_0f7a4 14 = .ok (.iand, 1) := by decide +kernel
theorem dJ6_bitCount_0f7a4_15 : decode cJ6_bitCount_0f7a4 15 = .ok (.iload_n 0, 1) := by decide +kernel
theorem dJ6_bitCount_0f7a4_16 : decode cJ6_bitCount_0f7a4 16 = .ok (.iconst 2, 1) := by decide +kernel
theorem dJ6_bitCount_0f7a4_17 : decode cJ6_bitCount_0f7a4 17 = .ok (.iushr, 1) := by decide +kernel
theorem dJ6_bitCount_0f7a4_18 : decode cJ6_bitCount_0f7a4 18 = .ok (.ldc_w 266, 3) := by decide +kernel
theorem dJ6_bitCount_0f7a4_21 : decode cJ6_bitCount_0f7a4 21 = .ok (.iand, 1) := by decide +kernel
theorem dJ6_bitCount_0f7a4_22 : decode cJ6_bitCount_0f7a4 22 = .ok (.iadd, 1) := by decide +kernel
theorem dJ6_bitCount_0f7a4_23 : decode cJ6_bitCount_0f7a4 23 = .ok (.istore_n 0, 1) := by decide +kernel
theorem dJ6_bitCount_0f7a4_24 : decode cJ6_bitCount_0f7a4 24 = .ok (.iload_n 0, 1) := by decide +kernel
theorem dJ6_bitCount_0f7a4_25 : decode cJ6_bitCount_0f7a4 25 = .ok (.iload_n 0, 1) := by decide +kernel
theorem dJ6_bitCount_0f7a4_26 : decode cJ6_bitCount_0f7a4 26 = .ok (.iconst 4, 1) := by decide +kernel
theorem dJ6_bitCount_0f7a4_27 : decode cJ6_bitCount_0f7a4 27 = .ok (.iushr, 1) := by decide +kernel
theorem dJ6_bitCount_0f7a4_28 : decode cJ6_bitCount_0f7a4 28 = .ok (.iadd, 1) := by decide +kernel
theorem dJ6_bitCount_0f7a4_29 : decode cJ6_bitCount_0f7a4 29 = .ok (.ldc_w 267, 3) := by decide +kernel
theorem dJ6_bitCount_0f7a4_32 : decode cJ6_bitCount_0f7a4 32 = .ok (.iand, 1) := by decide +kernel
theorem dJ6_bitCount_0f7a4_33 : decode cJ6_bitCount_0f7a4 33 = .ok (.istore_n 0, 1) := by decide +kernel
theorem dJ6_bitCount_0f7a4_34 : decode cJ6_bitCount_0f7a4 34 = .ok (.iload_n 0, 1) := by decide +kernel
theorem dJ6_bitCount_0f7a4_35 : decode cJ6_bitCount_0f7a4 35 = .ok (.iload_n 0, 1) := by decide +kernel
theorem dJ6_bitCount_0f7a4_36 : decode cJ6_bitCount_0f7a4 36 = .ok (.bipush 8, 2) := by decide +kernel
theorem dJ6_bitCount_0f7a4_38 : decode cJ6_bitCount_0f7a4 38 = .ok (.iushr, 1) := by decide +kernel
theorem dJ6_bitCount_0f7a4_39 : decode cJ6_bitCount_0f7a4 39 = .ok (.iadd, 1) := by decide +kernel
theorem dJ6_bitCount_0f7a4_40 : decode cJ6_bitCount_0f7a4 40 = .ok (.istore_n 0, 1) := by decide +kernel
theorem dJ6_bitCount_0f7a4_41 : decode cJ6_bitCount_0f7a4 41 = .ok (.iload_n 0, 1) := by decide +kernel
theorem dJ6_bitCount_0f7a4_42 : decode cJ6_bitCount_0f7a4 42 = .ok (.iload_n 0, 1) := by decide +kernel
theorem dJ6_bitCount_0f7a4_43 : decode cJ6_bitCount_0f7a4 43 = .ok (.bipush 16, 2) := by decide +kernel
theorem dJ6_bitCount_0f7a4_45 : decode cJ6_bitCount_0f7a4 45 = .ok (.iushr, 1) := by decide +kernel
theorem dJ6_bitCount_0f7a4_46 : decode cJ6_bitCount_0f7a4 46 = .ok (.iadd, 1) := by decide +kernel
theorem dJ6_bitCount_0f7a4_47 : decode cJ6_bitCount_0f7a4 47 = .ok (.istore_n 0, 1) := by decide +kernel
theorem dJ6_bitCount_0f7a4_48 : decode cJ6_bitCount_0f7a4 48 = .ok (.iload_n 0, 1) := by decide +kernel
theorem dJ6_bitCount_0f7a4_49 : decode cJ6_bitCount_0f7a4 49 = .ok (.bipush 63, 2) := by decide +kernel
theorem dJ6_bitCount_0f7a4_51 : decode cJ6_bitCount_0f7a4 51 = .ok (.iand, 1) := by decide +kernel
theorem dJ6_bitCount_0f7a4_52 : decode cJ6_bitCount_0f7a4 52 = .ok (.ireturn, 1) := by decide +kernel
theorem dJ9_abs_0f7a4_0 : decode cJ9_abs_0f7a4 0 = .ok (.iload_n 0, 1) := by decide +kernel
theorem dJ9_abs_0f7a4_1 : decode cJ9_abs_0f7a4 1 = .ok (.ifCond .ge 8, 3) := by decide +kernel
theorem dJ9_abs_0f7a4_4 : decode cJ9_abs_0f7a4 4 = .ok (.iload_n 0, 1) := by decide +kernel
theorem dJ9_abs_0f7a4_5 : decode cJ9_abs_0f7a4 5 = .ok (.ineg, 1) := by decide +kernel
theorem dJ9_abs_0f7a4_6 : decode cJ9_abs_0f7a4 6 = .ok (.goto 4, 3) := by decide +kernel
theorem dJ9_abs_0f7a4_9 : decode cJ9_abs_0f7a4 9 = .ok (.iload_n 0, 1) := by decide +kernel
theorem dJ9_abs_0f7a4_10 : decode cJ9_abs_0f7a4 10 = .ok (.ireturn, 1) := by decide +kernel
theorem dJ9_max_7cf53_0 : decode cJ9_max_7cf53 0 = .ok (.iload_n 0, 1) := by decide +kernel
theorem dJ9_max_7cf53_1 : decode cJ9_max_7cf53 1 = .ok (.iload_n 1, 1) := by decide +kernel
theorem dJ9_max_7cf53_2 : decode cJ9_max_7cf53 2 = .ok (.if_icmp .lt 7, 3) := by decide +kernel
theorem dJ9_max_7cf53_5 : decode cJ9_max_7cf53 5 = .ok (.iload_n 0, 1) := by decide +kernel
theorem dJ9_max_7cf53_6 : decode cJ9_max_7cf53 6 = .ok (.goto 4, 3) := by decide +kernel
theorem dJ9_max_7cf53_9 : decode cJ9_max_7cf53 9 = .ok (.iload_n 1, 1) := by decide +kernel
theorem dJ9_max_7cf53_10 : decode cJ9_max_7cf53 10 = .ok (.ireturn, 1) := by decide +kernel
theorem dJ9_min_7cf53_0 : decode cJ9_min_7cf53 0 = .ok (.iload_n 0, 1) := by decide +kernel
theorem dJ9_min_7cf53_1 : decode cJ9_min_7cf53 1 = .ok (.iload_n 1, 1) := by decide +kernel
theorem dJ9_min_7cf53_2 : decode cJ9_min_7cf53 2 = .ok (.if_icmp .gt 7, 3) := by decide +kernel
theorem dJ9_min_7cf53_5 : decode cJ9_min_7cf53 5 = .ok (.iload_n 0, 1) := by decide +kernel
theorem dJ9_min_7cf53_6 : decode cJ9_min_7cf53 6 = .ok (.goto 4, 3) := by decide +kernel
theorem dJ9_min_7cf53_9 : decode cJ9_min_7cf53 9 = .ok (.iload_n 1, 1) := by decide +kernel
theorem dJ9_min_7cf53_10 : decode cJ9_min_7cf53 10 = .ok (.ireturn, 1) := by decide +kernel
theorem dJ7_fill_53178_0 : decode cJ7_fill_53178 0 = .ok (.iconst 0, 1) := by decide +kernel
theorem dJ7_fill_53178_1 : decode cJ7_fill_53178 1 = .ok (.istore_n 2, 1) := by decide +kernel
theorem dJ7_fill_53178_2 : decode cJ7_fill_53178 2 = .ok (.aload_n 0, 1) := by decide +kernel
theorem dJ7_fill_53178_3 : decode cJ7_fill_53178 3 = .ok (.arraylength, 1) := by decide +kernel
theorem dJ7_fill_53178_4 : decode cJ7_fill_53178 4 = .ok (.istore_n 3, 1) := by decide +kernel
theorem dJ7_fill_53178_5 : decode cJ7_fill_53178 5 = .ok (.iload_n 2, 1) := by decide +kernel
theorem dJ7_fill_53178_6 : decode cJ7_fill_53178 6 = .ok (.iload_n 3, 1) := by decide +kernel
theorem dJ7_fill_53178_7 : decode cJ7_fill_53178 7 = .ok (.if_icmp .ge 13, 3) := by decide +kernel
theorem dJ7_fill_53178_10 : decode cJ7_fill_53178 10 = .ok (.aload_n 0, 1) := by decide +kernel
theorem dJ7_fill_53178_11 : decode cJ7_fill_53178 11 = .ok (.iload_n 2, 1) := by decide +kernel
theorem dJ7_fill_53178_12 : decode cJ7_fill_53178 12 = .ok (.iload_n 1, 1) := by decide +kernel
theorem dJ7_fill_53178_13 : decode cJ7_fill_53178 13 = .ok (.iastore, 1) := by decide +kernel
theorem dJ7_fill_53178_14 : decode cJ7_fill_53178 14 = .ok (.iinc 2 1, 3) := by decide +kernel
theorem dJ7_fill_53178_17 : decode cJ7_fill_53178 17 = .ok (.goto (-12), 3) := by decide +kernel
theorem dJ7_fill_53178_20 : decode cJ7_fill_53178 20 = .ok (.return_, 1) := by decide +kernel
set_option maxRecDepth 20000 in
theorem ggL_of_X4_of : GoodIn wsL_of wsX4_of := goodIn_ca (goodIn_r _ [6, 7, 8, 9, 10, 11, 12, 13, 14, 15, 16, 17, 18, 19, 20, 21, 22, 23, 24, 25, 26, 27, 28, 29, 30, 31, 32, 33, 34, 35, 36, 37, 38, 39, 40, 41, 42, 43, 44, 45, 46, 47, 48, 49] (by decide +kernel) (by decide +kernel)) (goodIn_sub (fun _ h => List.mem_cons_of_mem _ (List.mem_append_right _ h)) (by decide +kernel))
set_option maxRecDepth 20000 in
theorem gL_of_X4_of : GoodIn wsL_of (wsV RL 7 RX4 yX4_of wsX4_of) := goodIn_app (goodIn_of _ (by decide +kernel)) ggL_of_X4_of
