theorem dL_isWhole_279 : decode cL_isWhole 279 = .ok (.iadd, 1) := by decide +kernel
theorem dL_isWhole_280 : decode cL_isWhole 280 = .ok (.if_icmp .gt 107, 3) := by decide +kernel
theorem dL_isWhole_283 : decode cL_isWhole 283 = .ok (.iload 6, 2) := by decide +kernel
theorem dL_isWhole_285 : decode cL_isWhole 285 = .ok (.iload 4, 2) := by decide +kernel
theorem dL_isWhole_287 : decode cL_isWhole 287 = .ok (.sipush 4096, 3) := by decide +kernel
theorem dL_isWhole_290 : decode cL_isWhole 290 = .ok (.if_icmp .ge 8, 3) := by decide +kernel
theorem dL_isWhole_293 : decode cL_isWhole 293 = .ok (.iload 4, 2) := by decide +kernel
theorem dL_isWhole_295 : decode cL_isWhole 295 = .ok (.goto 6, 3) := by decide +kernel
theorem dL_isWhole_298 : decode cL_isWhole 298 = .ok (.sipush 4096, 3) := by decide +kernel
theorem dL_isWhole_301 : decode cL_isWhole 301 = .ok (.if_icmp .lt 86, 3) := by decide +kernel
theorem dL_isWhole_304 : decode cL_isWhole 304 = .ok (.iload 6, 2) := by decide +kernel
theorem dL_isWhole_306 : decode cL_isWhole 306 = .ok (.iconst 1, 1) := by decide +kernel
theorem dL_isWhole_307 : decode cL_isWhole 307 = .ok (.iload_n 3, 1) := by decide +kernel
theorem dL_isWhole_308 : decode cL_isWhole 308 = .ok (.ishl, 1) := by decide +kernel
theorem dL_isWhole_309 : decode cL_isWhole 309 = .ok (.if_icmp .gt 78, 3) := by decide +kernel
theorem dL_isWhole_312 : decode cL_isWhole 312 = .ok (.iload 6, 2) := by decide +kernel
theorem dL_isWhole_314 : decode cL_isWhole 314 = .ok (.sipush 4096, 3) := by decide +kernel
theorem dL_isWhole_317 : decode cL_isWhole 317 = .ok (.if_icmp .gt 70, 3) := by decide +kernel
theorem dL_isWhole_320 : decode cL_isWhole 320 = .ok (.iload 6, 2) := by decide +kernel
theorem dL_isWhole_322 : decode cL_isWhole 322 = .ok (.iload_n 1, 1) := by decide +kernel
theorem dL_isWhole_323 : decode cL_isWhole 323 = .ok (.iconst 1, 1) := by decide +kernel
theorem dL_isWhole_324 : decode cL_isWhole 324 = .ok (.iadd, 1) := by decide +kernel
theorem dL_isWhole_325 : decode cL_isWhole 325 = .ok (.if_icmp .gt 62, 3) := by decide +kernel
theorem dL_isWhole_328 : decode cL_isWhole 328 = .ok (.aload_n 0, 1) := by decide +kernel
theorem dL_isWhole_329 : decode cL_isWhole 329 = .ok (.invokevirtual 100, 3) := by decide +kernel
theorem dL_isWhole_332 : decode cL_isWhole 332 = .ok (.ifCond .lt 55, 3) := by decide +kernel
theorem dL_isWhole_335 : decode cL_isWhole 335 = .ok (.aload_n 0, 1) := by decide +kernel
theorem dL_isWhole_336 : decode cL_isWhole 336 = .ok (.invokevirtual 100, 3) := by decide +kernel
theorem dL_isWhole_339 : decode cL_isWhole 339 = .ok (.iload_n 1, 1) := by decide +kernel
theorem dL_isWhole_340 : decode cL_isWhole 340 = .ok (.if_icmp .gt 47, 3) := by decide +kernel
theorem dL_isWhole_343 : decode cL_isWhole 343 = .ok (.aload_n 0, 1) := by decide +kernel
theorem dL_isWhole_344 : decode cL_isWhole 344 = .ok (.invokevirtual 111, 3) := by decide +kernel
theorem dL_isWhole_347 : decode cL_isWhole 347 = .ok (.aload_n 0, 1) := by decide +kernel
theorem dL_isWhole_348 : decode cL_isWhole 348 = .ok (.invokevirtual 91, 3) := by decide +kernel
theorem dL_isWhole_351 : decode cL_isWhole 351 = .ok (.i2d, 1) := by decide +kernel
theorem dL_isWhole_352 : decode cL_isWhole 352 = .ok (.dmul, 1) := by decide +kernel
theorem dL_isWhole_353 : decode cL_isWhole 353 = .ok (.iload_n 2, 1) := by decide +kernel
theorem dL_isWhole_354 : decode cL_isWhole 354 = .ok (.i2d, 1) := by decide +kernel
theorem dL_isWhole_355 : decode cL_isWhole 355 = .ok (.ldc2_w 115, 3) := by decide +kernel
theorem dL_isWhole_358 : decode cL_isWhole 358 = .ok (.dadd, 1) := by decide +kernel
theorem dL_isWhole_359 : decode cL_isWhole 359 = .ok (.dcmp .g, 1) := by decide +kernel
theorem dL_isWhole_360 : decode cL_isWhole 360 = .ok (.ifCond .ge 27, 3) := by decide +kernel
theorem dL_isWhole_363 : decode cL_isWhole 363 = .ok (.aload_n 0, 1) := by decide +kernel
theorem dL_isWhole_364 : decode cL_isWhole 364 = .ok (.invokevirtual 111, 3) := by decide +kernel
theorem dL_isWhole_367 : decode cL_isWhole 367 = .ok (.aload_n 0, 1) := by decide +kernel
theorem dL_isWhole_368 : decode cL_isWhole 368 = .ok (.invokevirtual 91, 3) := by decide +kernel
theorem dL_isWhole_371 : decode cL_isWhole 371 = .ok (.i2d, 1) := by decide +kernel
theorem dL_isWhole_372 : decode cL_isWhole 372 = .ok (.dmul, 1) := by decide +kernel
theorem dL_isWhole_373 : decode cL_isWhole 373 = .ok (.iload_n 2, 1) := by decide +kernel
theorem dL_isWhole_374 : decode cL_isWhole 374 = .ok (.i2d, 1) := by decide +kernel
theorem dL_isWhole_375 : decode cL_isWhole 375 = .ok (.ldc2_w 115, 3) := by decide +kernel
theorem dL_isWhole_378 : decode cL_isWhole 378 = .ok (.dsub, 1) := by decide +kernel
theorem dL_isWhole_379 : decode cL_isWhole 379 = .ok (.dcmp .l, 1) := by decide +kernel
theorem dL_isWhole_380 : decode cL_isWhole 380 = .ok (.ifCond .le 7, 3) := by decide +kernel
theorem dL_isWhole_383 : decode cL_isWhole 383 = .ok (.iconst 1, 1) := by decide +kernel
theorem dL_isWhole_384 : decode cL_isWhole 384 = .ok (.goto 4, 3) := by decide +kernel
theorem dL_isWhole_387 : decode cL_isWhole 387 = .ok (.iconst 0, 1) := by decide +kernel
theorem dL_isWhole_388 : decode cL_isWhole 388 = .ok (.ireturn, 1) := by decide +kernel
set_option maxRecDepth 20000 in
theorem ggL_refusesAny_L_call : GoodIn wsL_refusesAny wsL_call := goodIn_ca (goodIn_ca (goodIn_ca (goodIn_ca (goodIn_ca (goodIn_ca (goodIn_ca (goodIn_ca (goodIn_ca (goodIn_ca (goodIn_r _ [7, 8, 9, 10, 11, 12, 13, 14, 15, 16, 17, 18, 19, 20, 21, 22, 23, 24, 25, 26, 27, 28, 29, 30, 31] (by decide +kernel) (by decide +kernel)) (goodIn_app (goodIn_r _ [32, 33, 34, 35, 36, 37, 38, 39, 40, 41, 42, 43, 44, 45, 46, 47, 48, 49, 50, 51, 52, 53, 54, 55] (by decide +kernel) (by decide +kernel)) (goodIn_app (goodIn_r _ [56, 57, 58, 59, 60, 61, 62, 63, 64, 65, 66, 67, 68, 69, 70, 71, 72, 73, 74, 75, 76, 77, 78, 79] (by decide +kernel) (by decide +kernel)) (goodIn_app (goodIn_r _ [80, 81, 82, 83, 84, 85, 86, 87, 88, 89, 90, 91, 92, 93, 94, 95, 96, 97, 98, 99, 100, 101, 102, 103] (by decide +kernel) (by decide +kernel)) (goodIn_app (goodIn_r _ [104, 105, 106, 107, 108, 109, 110, 111, 112, 113, 114, 115, 116, 117, 118, 119, 120, 121, 122, 123, 124, 125, 126, 127] (by decide +kernel) (by decide +kernel)) (goodIn_app (goodIn_r _ [128, 129, 130, 131, 132, 133, 134, 135, 136, 137, 138, 139, 140, 141, 142, 143, 144, 145, 146, 147, 148, 149, 150, 151] (by decide +kernel) (by decide +kernel)) (goodIn_r _ [152, 153, 154, 155, 156, 157, 158, 159, 160, 161, 162, 163, 164, 165, 166, 167, 168, 169, 170, 171] (by decide +kernel) (by decide +kernel)))))))) (goodIn_r _ [244, 245, 246, 247, 248] (by decide +kernel) (by decide +kernel))) (goodIn_r _ [249, 250, 251, 252, 253, 254, 255] (by decide +kernel) (by decide +kernel))) (goodIn_r _ [256, 257, 258] (by decide +kernel) (by decide +kernel))) (goodIn_r _ [259, 260] (by decide +kernel) (by decide +kernel))) (goodIn_r _ [261, 262, 263, 264] (by decide +kernel) (by decide +kernel))) (goodIn_r _ [265, 266] (by decide +kernel) (by decide +kernel))) (goodIn_sub (fun _ h => List.mem_cons_of_mem _ (List.mem_append_left _ (List.mem_append_left _ (List.mem_append_right _ h)))) (by decide +kernel))) (goodIn_sub (fun _ h => List.mem_cons_of_mem _ (List.mem_append_left _ (List.mem_append_right _ h))) (by decide +kernel))) (goodIn_sub (fun _ h => List.mem_cons_of_mem _ (List.mem_append_right _ h)) (by decide +kernel))
set_option maxRecDepth 20000 in
theorem gL_refusesAny_L_call : GoodIn wsL_refusesAny (va_wsS RL 117 yL_call wsL_call) := goodIn_app (goodIn_of _ (by decide +kernel)) ggL_refusesAny_L_call
set_option maxRecDepth 20000 in
theorem ggL_refusesAny_X7_weights : GoodIn wsL_refusesAny wsX7_weights := goodIn_r _ [175, 18, 108, 109, 244, 245, 246, 247, 248, 249, 250, 251, 252, 253, 254, 255, 259, 260] (by decide +kernel) (by decide +kernel)
set_option maxRecDepth 20000 in
theorem gL_refusesAny_X7_weights : GoodIn wsL_refusesAny (wsV RL 85 RX7 yX7_weights wsX7_weights) := goodIn_app (goodIn_of _ (by decide +kernel)) ggL_refusesAny_X7_weights
set_option maxRecDepth 20000 in
theorem ggL_refusesAny_L_ask : GoodIn wsL_refusesAny wsL_ask := goodIn_ca (goodIn_ca (goodIn_ca (goodIn_ca (goodIn_ca (goodIn_ca (goodIn_ca (goodIn_ca (goodIn_r _ [178, 8, 9, 2, 3, 179, 180, 181, 14, 182, 18, 108, 109, 110, 96, 97, 98, 99, 100, 183, 184, 185, 186, 187, 188] (by decide +kernel) (by decide +kernel)) (goodIn_app (goodIn_r _ [189, 190, 191, 192, 193, 194, 195, 196, 197, 198, 199, 200, 201, 64, 202, 69, 66, 203, 204, 205, 206, 16, 21, 22] (by decide +kernel) (by decide +kernel)) (goodIn_app (goodIn_r _ [23, 24, 25, 207, 208, 209, 210, 211, 212, 213, 214, 215, 216, 217, 218, 219, 220, 221, 222, 80, 81, 102, 103, 223] (by decide +kernel) (by decide +kernel)) (goodIn_r _ [224, 225, 226, 227, 228, 229, 230, 19, 231, 232, 233, 36, 234, 20, 71, 72, 73] (by decide +kernel) (by decide +kernel))))) (goodIn_r _ [244, 245, 246, 247, 248] (by decide +kernel) (by decide +kernel))) (goodIn_r _ [249, 250, 251, 252, 253, 254, 255] (by decide +kernel) (by decide +kernel))) (goodIn_r _ [259, 260] (by decide +kernel) (by decide +kernel))) (goodIn_r _ [261, 262, 263, 264] (by decide +kernel) (by decide +kernel))) (goodIn_r _ [267, 268, 269] (by decide +kernel) (by decide +kernel))) (goodIn_sub (fun _ h => List.mem_cons_of_mem _ (List.mem_append_left _ (List.mem_append_right _ h))) (by decide +kernel))) (goodIn_sub (fun _ h => List.mem_cons_of_mem _ (List.mem_append_left _ (List.mem_append_left _ (List.mem_append_right _ h)))) (by decide +kernel))
set_option maxRecDepth 20000 in
theorem gL_refusesAny_L_ask : GoodIn wsL_refusesAny (va_wsS RL 94 yL_ask wsL_ask) := goodIn_app (goodIn_of _ (by decide +kernel)) ggL_refusesAny_L_ask
set_option maxRecDepth 20000 in
theorem ggL_refusesAny_X7_logged : GoodIn wsL_refusesAny wsX7_logged := goodIn_r _ [238, 18, 187, 188, 244, 245, 246, 247, 248, 249, 250, 251, 252, 253, 254, 255, 261, 262, 263, 264] (by decide +kernel) (by decide +kernel)
set_option maxRecDepth 20000 in
theorem gL_refusesAny_X7_logged : GoodIn wsL_refusesAny (wsV RL 91 RX7 yX7_logged wsX7_logged) := goodIn_app (goodIn_of _ (by decide +kernel)) ggL_refusesAny_X7_logged
set_option maxRecDepth 20000 in
theorem ggL_refusesAny_X7_firstError : GoodIn wsL_refusesAny wsX7_firstError := goodIn_r _ [242, 133, 243, 151, 152, 138, 153, 141, 140, 154, 155, 156, 244, 245, 246, 247, 248, 265, 266] (by decide +kernel) (by decide +kernel)
set_option maxRecDepth 20000 in
theorem gL_refusesAny_X7_firstError : GoodIn wsL_refusesAny (wsV RL 121 RX7 yX7_firstError wsX7_firstError) := goodIn_app (goodIn_of _ (by decide +kernel)) ggL_refusesAny_X7_firstError
theorem dL_refusesAny_0 : decode cL_refusesAny 0 = .ok (.iload_n 1, 1) := by decide +kernel
theorem dL_refusesAny_1 : decode cL_refusesAny 1 = .ok (.iconst 2, 1) := by decide +kernel
theorem dL_refusesAny_2 : decode cL_refusesAny 2 = .ok (.irem, 1) := by decide +kernel
theorem dL_refusesAny_3 : decode cL_refusesAny 3 = .ok (.ifCond .ne 12, 3) := by decide +kernel
theorem dL_refusesAny_6 : decode cL_refusesAny 6 = .ok (.iconst (-1), 1) := by decide +kernel
theorem dL_refusesAny_7 : decode cL_refusesAny 7 = .ok (.iload_n 1, 1) := by decide +kernel
theorem dL_refusesAny_8 : decode cL_refusesAny 8 = .ok (.bipush 99, 2) := by decide +kernel
theorem dL_refusesAny_10 : decode cL_refusesAny 10 = .ok (.irem, 1) := by decide +kernel
theorem dL_refusesAny_11 : decode cL_refusesAny 11 = .ok (.isub, 1) := by decide +kernel
theorem dL_refusesAny_12 : decode cL_refusesAny 12 = .ok (.goto 10, 3) := by decide +kernel
theorem dL_refusesAny_15 : decode cL_refusesAny 15 = .ok (.ldc 107, 2) := by decide +kernel
theorem dL_refusesAny_17 : decode cL_refusesAny 17 = .ok (.iload_n 1, 1) := by decide +kernel
theorem dL_refusesAny_18 : decode cL_refusesAny 18 = .ok (.bipush 99, 2) := by decide +kernel
theorem dL_refusesAny_20 : decode cL_refusesAny 20 = .ok (.irem, 1) := by decide +kernel
theorem dL_refusesAny_21 : decode cL_refusesAny 21 = .ok (.iadd, 1) := by decide +kernel
theorem dL_refusesAny_22 : decode cL_refusesAny 22 = .ok (.istore_n 2, 1) := by decide +kernel
theorem dL_refusesAny_23 : decode cL_refusesAny 23 = .ok (.iload_n 1, 1) := by decide +kernel
theorem dL_refusesAny_24 : decode cL_refusesAny 24 = .ok (.iconst 2, 1) := by decide +kernel
theorem dL_refusesAny_25 : decode cL_refusesAny 25 = .ok (.irem, 1) := by decide +kernel
theorem dL_refusesAny_26 : decode cL_refusesAny 26 = .ok (.ifCond .ne 7, 3) := by decide +kernel
theorem dL_refusesAny_29 : decode cL_refusesAny 29 = .ok (.iconst 0, 1) := by decide +kernel
theorem dL_refusesAny_30 : decode cL_refusesAny 30 = .ok (.goto 5, 3) := by decide +kernel
theorem dL_refusesAny_33 : decode cL_refusesAny 33 = .ok (.bipush 100, 2) := by decide +kernel
theorem dL_refusesAny_35 : decode cL_refusesAny 35 = .ok (.istore_n 3, 1) := by decide +kernel
theorem dL_refusesAny_36 : decode cL_refusesAny 36 = .ok (.iload_n 1, 1) := by decide +kernel
theorem dL_refusesAny_37 : decode cL_refusesAny 37 = .ok (.iconst 2, 1) := by decide +kernel
theorem dL_refusesAny_38 : decode cL_refusesAny 38 = .ok (.irem, 1) := by decide +kernel
theorem dL_refusesAny_39 : decode cL_refusesAny 39 = .ok (.ifCond .ne 7, 3) := by decide +kernel
theorem dL_refusesAny_42 : decode cL_refusesAny 42 = .ok (.iconst 0, 1) := by decide +kernel
theorem dL_refusesAny_43 : decode cL_refusesAny 43 = .ok (.goto 6, 3) := by decide +kernel
theorem dL_refusesAny_46 : decode cL_refusesAny 46 = .ok (.sipush 2049, 3) := by decide +kernel
theorem dL_refusesAny_49 : decode cL_refusesAny 49 = .ok (.istore 4, 2) := by decide +kernel
theorem dL_refusesAny_51 : decode cL_refusesAny 51 = .ok (.iload_n 1, 1) := by decide +kernel
theorem dL_refusesAny_52 : decode cL_refusesAny 52 = .ok (.iconst 2, 1) := by decide +kernel
theorem dL_refusesAny_53 : decode cL_refusesAny 53 = .ok (.irem, 1) := by decide +kernel
theorem dL_refusesAny_54 : decode cL_refusesAny 54 = .ok (.ifCond .ne 12, 3) := by decide +kernel
theorem dL_refusesAny_57 : decode cL_refusesAny 57 = .ok (.iconst (-1), 1) := by decide +kernel
theorem dL_refusesAny_58 : decode cL_refusesAny 58 = .ok (.iload_n 1, 1) := by decide +kernel
theorem dL_refusesAny_59 : decode cL_refusesAny 59 = .ok (.bipush 99, 2) := by decide +kernel
theorem dL_refusesAny_61 : decode cL_refusesAny 61 = .ok (.irem, 1) := by decide +kernel
theorem dL_refusesAny_62 : decode cL_refusesAny 62 = .ok (.isub, 1) := by decide +kernel
theorem dL_refusesAny_63 : decode cL_refusesAny 63 = .ok (.goto 10, 3) := by decide +kernel
theorem dL_refusesAny_66 : decode cL_refusesAny 66 = .ok (.bipush 12, 2) := by decide +kernel
theorem dL_refusesAny_68 : decode cL_refusesAny 68 = .ok (.iload_n 1, 1) := by decide +kernel
theorem dL_refusesAny_69 : decode cL_refusesAny 69 = .ok (.bipush 99, 2) := by decide +kernel
theorem dL_refusesAny_71 : decode cL_refusesAny 71 = .ok (.irem, 1) := by decide +kernel
theorem dL_refusesAny_72 : decode cL_refusesAny 72 = .ok (.iadd, 1) := by decide +kernel
theorem dL_refusesAny_73 : decode cL_refusesAny 73 = .ok (.istore 5, 2) := by decide +kernel
theorem dL_refusesAny_75 : decode cL_refusesAny 75 = .ok (.aload_n 0, 1) := by decide +kernel
theorem dL_refusesAny_76 : decode cL_refusesAny 76 = .ok (.iconst 0, 1) := by decide +kernel
theorem dL_refusesAny_77 : decode cL_refusesAny 77 = .ok (.iload_n 2, 1) := by decide +kernel
theorem dL_refusesAny_78 : decode cL_refusesAny 78 = .ok (.iconst 1, 1) := by decide +kernel
theorem dL_refusesAny_79 : decode cL_refusesAny 79 = .ok (.invokestatic 117, 3) := by decide +kernel
theorem dL_refusesAny_82 : decode cL_refusesAny 82 = .ok (.bipush (-11), 2) := by decide +kernel
theorem dL_refusesAny_84 : decode cL_refusesAny 84 = .ok (.if_icmp .ne 301, 3) := by decide +kernel
theorem dL_refusesAny_87 : decode cL_refusesAny 87 = .ok (.aload_n 0, 1) := by decide +kernel
theorem dL_refusesAny_88 : decode cL_refusesAny 88 = .ok (.iconst 0, 1) := by decide +kernel
theorem dL_refusesAny_89 : decode cL_refusesAny 89 = .ok (.iconst 5, 1) := by decide +kernel
theorem dL_refusesAny_90 : decode cL_refusesAny 90 = .ok (.iload_n 3, 1) := by decide +kernel
theorem dL_refusesAny_91 : decode cL_refusesAny 91 = .ok (.invokestatic 117, 3) := by decide +kernel
theorem dL_refusesAny_94 : decode cL_refusesAny 94 = .ok (.bipush (-11), 2) := by decide +kernel
theorem dL_refusesAny_96 : decode cL_refusesAny 96 = .ok (.if_icmp .ne 289, 3) := by decide +kernel
theorem dL_refusesAny_99 : decode cL_refusesAny 99 = .ok (.aload_n 0, 1) := by decide +kernel
theorem dL_refusesAny_100 : decode cL_refusesAny 100 = .ok (.iconst 1, 1) := by decide +kernel
theorem dL_refusesAny_101 : decode cL_refusesAny 101 = .ok (.iload_n 3, 1) := by decide +kernel
theorem dL_refusesAny_102 : decode cL_refusesAny 102 = .ok (.iconst 0, 1) := by decide +kernel
theorem dL_refusesAny_103 : decode cL_refusesAny 103 = .ok (.invokestatic 117, 3) := by decide +kernel
theorem dL_refusesAny_106 : decode cL_refusesAny 106 = .ok (.bipush (-11), 2) := by decide +kernel
theorem dL_refusesAny_108 : decode cL_refusesAny 108 = .ok (.if_icmp .ne 277, 3) := by decide +kernel
theorem dL_refusesAny_111 : decode cL_refusesAny 111 = .ok (.aload_n 0, 1) := by decide +kernel
theorem dL_refusesAny_112 : decode cL_refusesAny 112 = .ok (.iconst 2, 1) := by decide +kernel
theorem dL_refusesAny_113 : decode cL_refusesAny 113 = .ok (.iload_n 1, 1) := by decide +kernel
theorem dL_refusesAny_114 : decode cL_refusesAny 114 = .ok (.iconst 2, 1) := by decide +kernel
theorem dL_refusesAny_115 : decode cL_refusesAny 115 = .ok (.irem, 1) := by decide +kernel
theorem dL_refusesAny_116 : decode cL_refusesAny 116 = .ok (.ifCond .ne 7, 3) := by decide +kernel
theorem dL_refusesAny_119 : decode cL_refusesAny 119 = .ok (.iconst 0, 1) := by decide +kernel
theorem dL_refusesAny_120 : decode cL_refusesAny 120 = .ok (.goto 5, 3) := by decide +kernel
theorem dL_refusesAny_123 : decode cL_refusesAny 123 = .ok (.bipush 17, 2) := by decide +kernel
theorem dL_refusesAny_125 : decode cL_refusesAny 125 = .ok (.iconst 0, 1) := by decide +kernel
theorem dL_refusesAny_126 : decode cL_refusesAny 126 = .ok (.invokestatic 117, 3) := by decide +kernel
theorem dL_refusesAny_129 : decode cL_refusesAny 129 = .ok (.bipush (-11), 2) := by decide +kernel
theorem dL_refusesAny_131 : decode cL_refusesAny 131 = .ok (.if_icmp .ne 254, 3) := by decide +kernel
theorem dL_refusesAny_134 : decode cL_refusesAny 134 = .ok (.aload_n 0, 1) := by decide +kernel
theorem dL_refusesAny_135 : decode cL_refusesAny 135 = .ok (.iconst 2, 1) := by decide +kernel
theorem dL_refusesAny_136 : decode cL_refusesAny 136 = .ok (.iconst 5, 1) := by decide +kernel
theorem dL_refusesAny_137 : decode cL_refusesAny 137 = .ok (.iload_n 1, 1) := by decide +kernel
theorem dL_refusesAny_138 : decode cL_refusesAny 138 = .ok (.iconst 2, 1) := by decide +kernel
theorem dL_refusesAny_139 : decode cL_refusesAny 139 = .ok (.irem, 1) := by decide +kernel
theorem dL_refusesAny_140 : decode cL_refusesAny 140 = .ok (.ifCond .ne 7, 3) := by decide +kernel
theorem dL_refusesAny_143 : decode cL_refusesAny 143 = .ok (.iconst (-1), 1) := by decide +kernel
theorem dL_refusesAny_144 : decode cL_refusesAny 144 = .ok (.goto 5, 3) := by decide +kernel
theorem dL_refusesAny_147 : decode cL_refusesAny 147 = .ok (.bipush 65, 2) := by decide +kernel
theorem dL_refusesAny_149 : decode cL_refusesAny 149 = .ok (.invokestatic 117, 3) := by decide +kernel
theorem dL_refusesAny_152 : decode cL_refusesAny 152 = .ok (.bipush (-11), 2) := by decide +kernel
theorem dL_refusesAny_154 : decode cL_refusesAny 154 = .ok (.if_icmp .ne 231, 3) := by decide +kernel
theorem dL_refusesAny_157 : decode cL_refusesAny 157 = .ok (.aload_n 0, 1) := by decide +kernel
theorem dL_refusesAny_158 : decode cL_refusesAny 158 = .ok (.iconst 3, 1) := by decide +kernel
theorem dL_refusesAny_159 : decode cL_refusesAny 159 = .ok (.iload_n 1, 1) := by decide +kernel
theorem dL_refusesAny_160 : decode cL_refusesAny 160 = .ok (.iconst 2, 1) := by decide +kernel
theorem dL_refusesAny_161 : decode cL_refusesAny 161 = .ok (.irem, 1) := by decide +kernel
theorem dL_refusesAny_162 : decode cL_refusesAny 162 = .ok (.ifCond .ne 8, 3) := by decide +kernel
theorem dL_refusesAny_165 : decode cL_refusesAny 165 = .ok (.bipush (-65), 2) := by decide +kernel
theorem dL_refusesAny_167 : decode cL_refusesAny 167 = .ok (.goto 5, 3) := by decide +kernel
theorem dL_refusesAny_170 : decode cL_refusesAny 170 = .ok (.bipush 65, 2) := by decide +kernel
theorem dL_refusesAny_172 : decode cL_refusesAny 172 = .ok (.iconst 0, 1) := by decide +kernel
theorem dL_refusesAny_173 : decode cL_refusesAny 173 = .ok (.invokestatic 117, 3) := by decide +kernel
theorem dL_refusesAny_176 : decode cL_refusesAny 176 = .ok (.bipush (-11), 2) := by decide +kernel
theorem dL_refusesAny_178 : decode cL_refusesAny 178 = .ok (.if_icmp .ne 207, 3) := by decide +kernel
theorem dL_refusesAny_181 : decode cL_refusesAny 181 = .ok (.aload_n 0, 1) := by decide +kernel
theorem dL_refusesAny_182 : decode cL_refusesAny 182 = .ok (.iconst 4, 1) := by decide +kernel
theorem dL_refusesAny_183 : decode cL_refusesAny 183 = .ok (.iload 5, 2) := by decide +kernel
theorem dL_refusesAny_185 : decode cL_refusesAny 185 = .ok (.iconst 0, 1) := by decide +kernel
theorem dL_refusesAny_186 : decode cL_refusesAny 186 = .ok (.invokestatic 117, 3) := by decide +kernel
theorem dL_refusesAny_189 : decode cL_refusesAny 189 = .ok (.bipush (-10), 2) := by decide +kernel
theorem dL_refusesAny_191 : decode cL_refusesAny 191 = .ok (.if_icmp .ne 194, 3) := by decide +kernel
theorem dL_refusesAny_194 : decode cL_refusesAny 194 = .ok (.aload_n 0, 1) := by decide +kernel
theorem dL_refusesAny_195 : decode cL_refusesAny 195 = .ok (.iconst 5, 1) := by decide +kernel
theorem dL_refusesAny_196 : decode cL_refusesAny 196 = .ok (.iload 5, 2) := by decide +kernel
theorem dL_refusesAny_198 : decode cL_refusesAny 198 = .ok (.iconst 0, 1) := by decide +kernel
theorem dL_refusesAny_199 : decode cL_refusesAny 199 = .ok (.invokestatic 117, 3) := by decide +kernel
theorem dL_refusesAny_202 : decode cL_refusesAny 202 = .ok (.bipush (-10), 2) := by decide +kernel
theorem dL_refusesAny_204 : decode cL_refusesAny 204 = .ok (.if_icmp .ne 181, 3) := by decide +kernel
theorem dL_refusesAny_207 : decode cL_refusesAny 207 = .ok (.aload_n 0, 1) := by decide +kernel
theorem dL_refusesAny_208 : decode cL_refusesAny 208 = .ok (.iconst 5, 1) := by decide +kernel
theorem dL_refusesAny_209 : decode cL_refusesAny 209 = .ok (.iconst 0, 1) := by decide +kernel
theorem dL_refusesAny_210 : decode cL_refusesAny 210 = .ok (.iload 4, 2) := by decide +kernel
theorem dL_refusesAny_212 : decode cL_refusesAny 212 = .ok (.invokestatic 117, 3) := by decide +kernel
theorem dL_refusesAny_215 : decode cL_refusesAny 215 = .ok (.bipush (-11), 2) := by decide +kernel
theorem dL_refusesAny_217 : decode cL_refusesAny 217 = .ok (.if_icmp .ne 168, 3) := by decide +kernel
theorem dL_refusesAny_220 : decode cL_refusesAny 220 = .ok (.aload_n 0, 1) := by decide +kernel
theorem dL_refusesAny_221 : decode cL_refusesAny 221 = .ok (.iconst 5, 1) := by decide +kernel
theorem dL_refusesAny_222 : decode cL_refusesAny 222 = .ok (.aload_n 0, 1) := by decide +kernel
theorem dL_refusesAny_223 : decode cL_refusesAny 223 = .ok (.invokevirtual 85, 3) := by decide +kernel
theorem dL_refusesAny_226 : decode cL_refusesAny 226 = .ok (.iconst 0, 1) := by decide +kernel
theorem dL_refusesAny_227 : decode cL_refusesAny 227 = .ok (.invokestatic 117, 3) := by decide +kernel
theorem dL_refusesAny_230 : decode cL_refusesAny 230 = .ok (.bipush (-10), 2) := by decide +kernel
theorem dL_refusesAny_232 : decode cL_refusesAny 232 = .ok (.if_icmp .ne 153, 3) := by decide +kernel
theorem dL_refusesAny_235 : decode cL_refusesAny 235 = .ok (.aload_n 0, 1) := by decide +kernel
theorem dL_refusesAny_236 : decode cL_refusesAny 236 = .ok (.bipush 6, 2) := by decide +kernel
theorem dL_refusesAny_238 : decode cL_refusesAny 238 = .ok (.iload 5, 2) := by decide +kernel
theorem dL_refusesAny_240 : decode cL_refusesAny 240 = .ok (.iload_n 1, 1) := by decide +kernel
theorem dL_refusesAny_241 : decode cL_refusesAny 241 = .ok (.iconst 2, 1) := by decide +kernel
theorem dL_refusesAny_242 : decode cL_refusesAny 242 = .ok (.irem, 1) := by decide +kernel
theorem dL_refusesAny_243 : decode cL_refusesAny 243 = .ok (.iadd, 1) := by decide +kernel
theorem dL_refusesAny_244 : decode cL_refusesAny 244 = .ok (.iconst 0, 1) := by decide +kernel
theorem dL_refusesAny_245 : decode cL_refusesAny 245 = .ok (.invokestatic 117, 3) := by decide +kernel
theorem dL_refusesAny_248 : decode cL_refusesAny 248 = .ok (.bipush (-10), 2) := by decide +kernel
theorem dL_refusesAny_250 : decode cL_refusesAny 250 = .ok (.if_icmp .ne 135, 3) := by decide +kernel
theorem dL_refusesAny_253 : decode cL_refusesAny 253 = .ok (.aload_n 0, 1) := by decide +kernel
theorem dL_refusesAny_254 : decode cL_refusesAny 254 = .ok (.bipush 6, 2) := by decide +kernel
theorem dL_refusesAny_256 : decode cL_refusesAny 256 = .ok (.aload_n 0, 1) := by decide +kernel
theorem dL_refusesAny_257 : decode cL_refusesAny 257 = .ok (.invokevirtual 85, 3) := by decide +kernel
theorem dL_refusesAny_260 : decode cL_refusesAny 260 = .ok (.iconst 1, 1) := by decide +kernel
theorem dL_refusesAny_261 : decode cL_refusesAny 261 = .ok (.iadd, 1) := by decide +kernel
theorem dL_refusesAny_262 : decode cL_refusesAny 262 = .ok (.iconst 0, 1) := by decide +kernel
theorem dL_refusesAny_263 : decode cL_refusesAny 263 = .ok (.invokestatic 117, 3) := by decide +kernel
theorem dL_refusesAny_266 : decode cL_refusesAny 266 = .ok (.bipush (-10), 2) := by decide +kernel
theorem dL_refusesAny_268 : decode cL_refusesAny 268 = .ok (.if_icmp .ne 117, 3) := by decide +kernel
theorem dL_refusesAny_271 : decode cL_refusesAny 271 = .ok (.aload_n 0, 1) := by decide +kernel
theorem dL_refusesAny_272 : decode cL_refusesAny 272 = .ok (.bipush 6, 2) := by decide +kernel
theorem dL_refusesAny_274 : decode cL_refusesAny 274 = .ok (.iconst 0, 1) := by decide +kernel
theorem dL_refusesAny_275 : decode cL_refusesAny 275 = .ok (.iload 4, 2) := by decide +kernel
theorem dL_refusesAny_277 : decode cL_refusesAny 277 = .ok (.invokestatic 117, 3) := by decide +kernel
theorem dL_refusesAny_280 : decode cL_refusesAny 280 = .ok (.bipush (-11), 2) := by decide +kernel
theorem dL_refusesAny_282 : decode cL_refusesAny 282 = .ok (.if_icmp .ne 103, 3) := by decide +kernel
theorem dL_refusesAny_285 : decode cL_refusesAny 285 = .ok (.aload_n 0, 1) := by decide +kernel
theorem dL_refusesAny_286 : decode cL_refusesAny 286 = .ok (.invokevirtual 85, 3) := by decide +kernel
theorem dL_refusesAny_289 : decode cL_refusesAny 289 = .ok (.bipush 12, 2) := by decide +kernel
theorem dL_refusesAny_291 : decode cL_refusesAny 291 = .ok (.if_icmp .lt 17, 3) := by decide +kernel
theorem dL_refusesAny_294 : decode cL_refusesAny 294 = .ok (.aload_n 0, 1) := by decide +kernel
theorem dL_refusesAny_295 : decode cL_refusesAny 295 = .ok (.bipush 6, 2) := by decide +kernel
theorem dL_refusesAny_297 : decode cL_refusesAny 297 = .ok (.bipush 12, 2) := by decide +kernel
theorem dL_refusesAny_299 : decode cL_refusesAny 299 = .ok (.iconst 5, 1) := by decide +kernel
theorem dL_refusesAny_300 : decode cL_refusesAny 300 = .ok (.invokestatic 117, 3) := by decide +kernel
theorem dL_refusesAny_303 : decode cL_refusesAny 303 = .ok (.bipush (-12), 2) := by decide +kernel
theorem dL_refusesAny_305 : decode cL_refusesAny 305 = .ok (.if_icmp .ne 80, 3) := by decide +kernel
theorem dL_refusesAny_308 : decode cL_refusesAny 308 = .ok (.aload_n 0, 1) := by decide +kernel
theorem dL_refusesAny_309 : decode cL_refusesAny 309 = .ok (.bipush 7, 2) := by decide +kernel
theorem dL_refusesAny_311 : decode cL_refusesAny 311 = .ok (.iload 5, 2) := by decide +kernel
theorem dL_refusesAny_313 : decode cL_refusesAny 313 = .ok (.iconst 0, 1) := by decide +kernel
theorem dL_refusesAny_314 : decode cL_refusesAny 314 = .ok (.invokestatic 117, 3) := by decide +kernel
theorem dL_refusesAny_317 : decode cL_refusesAny 317 = .ok (.bipush (-10), 2) := by decide +kernel
theorem dL_refusesAny_319 : decode cL_refusesAny 319 = .ok (.if_icmp .ne 66, 3) := by decide +kernel
theorem dL_refusesAny_322 : decode cL_refusesAny 322 = .ok (.aload_n 0, 1) := by decide +kernel
theorem dL_refusesAny_323 : decode cL_refusesAny 323 = .ok (.invokevirtual 85, 3) := by decide +kernel
theorem dL_refusesAny_326 : decode cL_refusesAny 326 = .ok (.iconst 1, 1) := by decide +kernel
theorem dL_refusesAny_327 : decode cL_refusesAny 327 = .ok (.if_icmp .gt 16, 3) := by decide +kernel
theorem dL_refusesAny_330 : decode cL_refusesAny 330 = .ok (.aload_n 0, 1) := by decide +kernel
theorem dL_refusesAny_331 : decode cL_refusesAny 331 = .ok (.bipush 7, 2) := by decide +kernel
theorem dL_refusesAny_333 : decode cL_refusesAny 333 = .ok (.iconst 0, 1) := by decide +kernel
theorem dL_refusesAny_334 : decode cL_refusesAny 334 = .ok (.iconst 0, 1) := by decide +kernel
theorem dL_refusesAny_335 : decode cL_refusesAny 335 = .ok (.invokestatic 117, 3) := by decide +kernel
theorem dL_refusesAny_338 : decode cL_refusesAny 338 = .ok (.bipush (-12), 2) := by decide +kernel
theorem dL_refusesAny_340 : decode cL_refusesAny 340 = .ok (.if_icmp .ne 45, 3) := by decide +kernel
theorem dL_refusesAny_343 : decode cL_refusesAny 343 = .ok (.aload_n 0, 1) := by decide +kernel
theorem dL_refusesAny_344 : decode cL_refusesAny 344 = .ok (.bipush 8, 2) := by decide +kernel
theorem dL_refusesAny_346 : decode cL_refusesAny 346 = .ok (.iload_n 1, 1) := by decide +kernel
theorem dL_refusesAny_347 : decode cL_refusesAny 347 = .ok (.iconst 2, 1) := by decide +kernel
theorem dL_refusesAny_348 : decode cL_refusesAny 348 = .ok (.irem, 1) := by decide +kernel
theorem dL_refusesAny_349 : decode cL_refusesAny 349 = .ok (.ifCond .ne 8, 3) := by decide +kernel
theorem dL_refusesAny_352 : decode cL_refusesAny 352 = .ok (.bipush 32, 2) := by decide +kernel
theorem dL_refusesAny_354 : decode cL_refusesAny 354 = .ok (.goto 5, 3) := by decide +kernel
theorem dL_refusesAny_357 : decode cL_refusesAny 357 = .ok (.bipush 127, 2) := by decide +kernel
theorem dL_refusesAny_359 : decode cL_refusesAny 359 = .ok (.iconst 0, 1) := by decide +kernel
theorem dL_refusesAny_360 : decode cL_refusesAny 360 = .ok (.invokestatic 117, 3) := by decide +kernel
theorem dL_refusesAny_363 : decode cL_refusesAny 363 = .ok (.bipush (-11), 2) := by decide +kernel
theorem dL_refusesAny_365 : decode cL_refusesAny 365 = .ok (.if_icmp .ne 20, 3) := by decide +kernel
theorem dL_refusesAny_368 : decode cL_refusesAny 368 = .ok (.aload_n 0, 1) := by decide +kernel
theorem dL_refusesAny_369 : decode cL_refusesAny 369 = .ok (.bipush 9, 2) := by decide +kernel
theorem dL_refusesAny_371 : decode cL_refusesAny 371 = .ok (.iconst 0, 1) := by decide +kernel
theorem dL_refusesAny_372 : decode cL_refusesAny 372 = .ok (.iconst 0, 1) := by decide +kernel
theorem dL_refusesAny_373 : decode cL_refusesAny 373 = .ok (.invokestatic 117, 3) := by decide +kernel
theorem dL_refusesAny_376 : decode cL_refusesAny 376 = .ok (.bipush (-11), 2) := by decide +kernel
theorem dL_refusesAny_378 : decode cL_refusesAny 378 = .ok (.if_icmp .ne 7, 3) := by decide +kernel
theorem dL_refusesAny_381 : decode cL_refusesAny 381 = .ok (.iconst 1, 1) := by decide +kernel
theorem dL_refusesAny_382 : decode cL_refusesAny 382 = .ok (.goto 4, 3) := by decide +kernel
theorem dL_refusesAny_385 : decode cL_refusesAny 385 = .ok (.iconst 0, 1) := by decide +kernel
theorem dL_refusesAny_386 : decode cL_refusesAny 386 = .ok (.istore 6, 2) := by decide +kernel
theorem dL_refusesAny_388 : decode cL_refusesAny 388 = .ok (.iload 6, 2) := by decide +kernel
theorem dL_refusesAny_390 : decode cL_refusesAny 390 = .ok (.ifCond .eq 126, 3) := by decide +kernel
theorem dL_refusesAny_393 : decode cL_refusesAny 393 = .ok (.aload_n 0, 1) := by decide +kernel
theorem dL_refusesAny_394 : decode cL_refusesAny 394 = .ok (.iconst 0, 1) := by decide +kernel
theorem dL_refusesAny_395 : decode cL_refusesAny 395 = .ok (.iload 5, 2) := by decide +kernel
theorem dL_refusesAny_397 : decode cL_refusesAny 397 = .ok (.invokestatic 94, 3) := by decide +kernel
theorem dL_refusesAny_400 : decode cL_refusesAny 400 = .ok (.ldc 76, 2) := by decide +kernel
theorem dL_refusesAny_402 : decode cL_refusesAny 402 = .ok (.if_icmp .ne 114, 3) := by decide +kernel
theorem dL_refusesAny_405 : decode cL_refusesAny 405 = .ok (.aload_n 0, 1) := by decide +kernel
theorem dL_refusesAny_406 : decode cL_refusesAny 406 = .ok (.iconst 0, 1) := by decide +kernel
theorem dL_refusesAny_407 : decode cL_refusesAny 407 = .ok (.aload_n 0, 1) := by decide +kernel
theorem dL_refusesAny_408 : decode cL_refusesAny 408 = .ok (.invokevirtual 85, 3) := by decide +kernel
theorem dL_refusesAny_411 : decode cL_refusesAny 411 = .ok (.invokestatic 94, 3) := by decide +kernel
theorem dL_refusesAny_414 : decode cL_refusesAny 414 = .ok (.ldc 76, 2) := by decide +kernel
theorem dL_refusesAny_416 : decode cL_refusesAny 416 = .ok (.if_icmp .ne 100, 3) := by decide +kernel
theorem dL_refusesAny_419 : decode cL_refusesAny 419 = .ok (.aload_n 0, 1) := by decide +kernel
theorem dL_refusesAny_420 : decode cL_refusesAny 420 = .ok (.iconst 1, 1) := by decide +kernel
theorem dL_refusesAny_421 : decode cL_refusesAny 421 = .ok (.iconst (-1), 1) := by decide +kernel
theorem dL_refusesAny_422 : decode cL_refusesAny 422 = .ok (.invokestatic 94, 3) := by decide +kernel
theorem dL_refusesAny_425 : decode cL_refusesAny 425 = .ok (.ldc 76, 2) := by decide +kernel
theorem dL_refusesAny_427 : decode cL_refusesAny 427 = .ok (.if_icmp .ne 89, 3) := by decide +kernel
theorem dL_refusesAny_430 : decode cL_refusesAny 430 = .ok (.aload_n 0, 1) := by decide +kernel
theorem dL_refusesAny_431 : decode cL_refusesAny 431 = .ok (.iconst 1, 1) := by decide +kernel
theorem dL_refusesAny_432 : decode cL_refusesAny 432 = .ok (.aload_n 0, 1) := by decide +kernel
theorem dL_refusesAny_433 : decode cL_refusesAny 433 = .ok (.invokevirtual 91, 3) := by decide +kernel
theorem dL_refusesAny_436 : decode cL_refusesAny 436 = .ok (.invokestatic 94, 3) := by decide +kernel
theorem dL_refusesAny_439 : decode cL_refusesAny 439 = .ok (.ldc 76, 2) := by decide +kernel
theorem dL_refusesAny_441 : decode cL_refusesAny 441 = .ok (.if_icmp .ne 75, 3) := by decide +kernel
theorem dL_refusesAny_444 : decode cL_refusesAny 444 = .ok (.aload_n 0, 1) := by decide +kernel
theorem dL_refusesAny_445 : decode cL_refusesAny 445 = .ok (.iconst 2, 1) := by decide +kernel
theorem dL_refusesAny_446 : decode cL_refusesAny 446 = .ok (.aload_n 0, 1) := by decide +kernel
theorem dL_refusesAny_447 : decode cL_refusesAny 447 = .ok (.invokevirtual 91, 3) := by decide +kernel
theorem dL_refusesAny_450 : decode cL_refusesAny 450 = .ok (.invokestatic 94, 3) := by decide +kernel
theorem dL_refusesAny_453 : decode cL_refusesAny 453 = .ok (.ldc 76, 2) := by decide +kernel
theorem dL_refusesAny_455 : decode cL_refusesAny 455 = .ok (.if_icmp .ne 61, 3) := by decide +kernel
theorem dL_refusesAny_458 : decode cL_refusesAny 458 = .ok (.aload_n 0, 1) := by decide +kernel
theorem dL_refusesAny_459 : decode cL_refusesAny 459 = .ok (.iconst 3, 1) := by decide +kernel
theorem dL_refusesAny_460 : decode cL_refusesAny 460 = .ok (.bipush 8, 2) := by decide +kernel
theorem dL_refusesAny_462 : decode cL_refusesAny 462 = .ok (.invokestatic 94, 3) := by decide +kernel
theorem dL_refusesAny_465 : decode cL_refusesAny 465 = .ok (.ldc 76, 2) := by decide +kernel
theorem dL_refusesAny_467 : decode cL_refusesAny 467 = .ok (.if_icmp .ne 49, 3) := by decide +kernel
theorem dL_refusesAny_470 : decode cL_refusesAny 470 = .ok (.aload_n 0, 1) := by decide +kernel
theorem dL_refusesAny_471 : decode cL_refusesAny 471 = .ok (.iconst 4, 1) := by decide +kernel
theorem dL_refusesAny_472 : decode cL_refusesAny 472 = .ok (.iload_n 2, 1) := by decide +kernel
theorem dL_refusesAny_473 : decode cL_refusesAny 473 = .ok (.invokestatic 94, 3) := by decide +kernel
theorem dL_refusesAny_476 : decode cL_refusesAny 476 = .ok (.ldc 77, 2) := by decide +kernel
theorem dL_refusesAny_478 : decode cL_refusesAny 478 = .ok (.if_icmp .ne 38, 3) := by decide +kernel
theorem dL_refusesAny_481 : decode cL_refusesAny 481 = .ok (.aload_n 0, 1) := by decide +kernel
theorem dL_refusesAny_482 : decode cL_refusesAny 482 = .ok (.iconst 5, 1) := by decide +kernel
theorem dL_refusesAny_483 : decode cL_refusesAny 483 = .ok (.iload 5, 2) := by decide +kernel
theorem dL_refusesAny_485 : decode cL_refusesAny 485 = .ok (.invokestatic 94, 3) := by decide +kernel
theorem dL_refusesAny_488 : decode cL_refusesAny 488 = .ok (.ldc 76, 2) := by decide +kernel
theorem dL_refusesAny_490 : decode cL_refusesAny 490 = .ok (.if_icmp .ne 26, 3) := by decide +kernel
theorem dL_refusesAny_493 : decode cL_refusesAny 493 = .ok (.aload_n 0, 1) := by decide +kernel
theorem dL_refusesAny_494 : decode cL_refusesAny 494 = .ok (.bipush 6, 2) := by decide +kernel
theorem dL_refusesAny_496 : decode cL_refusesAny 496 = .ok (.iload_n 2, 1) := by decide +kernel
theorem dL_refusesAny_497 : decode cL_refusesAny 497 = .ok (.invokestatic 94, 3) := by decide +kernel
theorem dL_refusesAny_500 : decode cL_refusesAny 500 = .ok (.ldc 77, 2) := by decide +kernel
theorem dL_refusesAny_502 : decode cL_refusesAny 502 = .ok (.if_icmp .ne 14, 3) := by decide +kernel
theorem dL_refusesAny_505 : decode cL_refusesAny 505 = .ok (.aload_n 0, 1) := by decide +kernel
theorem dL_refusesAny_506 : decode cL_refusesAny 506 = .ok (.invokevirtual 121, 3) := by decide +kernel
theorem dL_refusesAny_509 : decode cL_refusesAny 509 = .ok (.ifCond .ne 7, 3) := by decide +kernel
theorem dL_refusesAny_512 : decode cL_refusesAny 512 = .ok (.iconst 1, 1) := by decide +kernel
theorem dL_refusesAny_513 : decode cL_refusesAny 513 = .ok (.goto 4, 3) := by decide +kernel
theorem dL_refusesAny_516 : decode cL_refusesAny 516 = .ok (.iconst 0, 1) := by decide +kernel
theorem dL_refusesAny_517 : decode cL_refusesAny 517 = .ok (.ireturn, 1) := by decide +kernel
set_option maxRecDepth 20000 in
theorem ggL_refuses_L_seen : GoodIn wsL_refuses wsL_seen := goodIn_ca (goodIn_ca (goodIn_ca (goodIn_ca (goodIn_ca (goodIn_ca (goodIn_ca (goodIn_ca (goodIn_r _ [4, 5, 6, 7, 8, 9, 10, 11, 12, 13, 14, 15, 16, 17, 18, 19, 20, 21, 22, 23, 24, 25, 26, 27, 28] (by decide +kernel) (by decide +kernel)) (goodIn_app (goodIn_r _ [29, 30, 31, 32, 33, 34, 35, 36, 37, 38, 39, 3, 40, 41, 42, 43, 44, 45, 46, 47, 48, 49, 50, 51] (by decide +kernel) (by decide +kernel)) (goodIn_app (goodIn_r _ [52, 53, 54, 55, 56, 57, 58, 59, 60, 61, 62, 63, 64, 65, 66, 67, 68, 69, 70, 71, 72, 73, 74, 75] (by decide +kernel) (by decide +kernel)) (goodIn_app (goodIn_r _ [76, 77, 78, 79, 80, 81, 82, 83, 84, 85, 86, 87, 88, 89, 90, 91, 92, 93, 94, 95, 96, 97, 98, 99] (by decide +kernel) (by decide +kernel)) (goodIn_app (goodIn_r _ [100, 101, 102, 103, 104, 105, 106, 107, 108, 109, 110, 111, 112, 113, 114, 115, 116, 117, 118, 119, 120, 121, 122, 123] (by decide +kernel) (by decide +kernel)) (goodIn_r _ [124, 125, 126, 127, 128, 129, 130, 131, 132, 133] (by decide +kernel) (by decide +kernel))))))) (goodIn_r _ [277, 278, 279, 280, 281] (by decide +kernel) (by decide +kernel))) (goodIn_r _ [282, 283, 284, 285, 286, 287, 288] (by decide +kernel) (by decide +kernel))) (goodIn_r _ [289, 290] (by decide +kernel) (by decide +kernel))) (goodIn_r _ [291, 292, 293, 294] (by decide +kernel) (by decide +kernel))) (goodIn_r _ [295, 296, 297] (by decide +kernel) (by decide +kernel))) (goodIn_sub (fun _ h => List.mem_cons_of_mem _ (List.mem_append_left _ (List.mem_append_left _ (List.mem_append_right _ h)))) (by decide +kernel))) (goodIn_sub (fun _ h => List.mem_cons_of_mem _ (List.mem_append_left _ (List.mem_append_right _ h))) (by decide +kernel))
set_option maxRecDepth 20000 in
theorem gL_refuses_L_seen : GoodIn wsL_refuses (va_wsS RL 124 yL_seen wsL_seen) := goodIn_app (goodIn_of _ (by decide +kernel)) ggL_refuses_L_seen
set_option maxRecDepth 20000 in
theorem ggL_refuses_X7_savedStates : GoodIn wsL_refuses wsX7_savedStates := goodIn_r _ [137, 138, 139, 277, 278, 279, 280, 281, 298, 299, 300] (by decide +kernel) (by decide +kernel)
set_option maxRecDepth 20000 in
theorem gL_refuses_X7_savedStates : GoodIn wsL_refuses (wsV RL 128 RX7 yX7_savedStates wsX7_savedStates) := goodIn_app (goodIn_of _ (by decide +kernel)) ggL_refuses_X7_savedStates
set_option maxRecDepth 20000 in
theorem ggL_refuses_L_refusesAny : GoodIn wsL_refuses wsL_refusesAny := goodIn_ca (goodIn_ca (goodIn_ca (goodIn_ca (goodIn_ca (goodIn_ca (goodIn_ca (goodIn_ca (goodIn_ca (goodIn_ca (goodIn_ca (goodIn_r _ [142, 143, 43, 44, 144, 145, 3, 146, 41, 42, 147, 148, 149, 150, 11, 151, 80, 138, 13, 14, 119, 81, 82, 83, 84] (by decide +kernel) (by decide +kernel)) (goodIn_app (goodIn_r _ [85, 152, 153, 154, 155, 156, 157, 158, 159, 160, 161, 117, 162, 163, 164, 165, 166, 167, 168, 169, 170, 171, 172, 173] (by decide +kernel) (by decide +kernel)) (goodIn_app (goodIn_r _ [174, 175, 176, 177, 28, 178, 31, 179, 180, 181, 182, 30, 183, 184, 185, 72, 186, 75, 187, 188, 74, 189, 120, 121] (by decide +kernel) (by decide +kernel)) (goodIn_app (goodIn_r _ [122, 190, 191, 192, 193, 131, 194, 102, 103, 195, 196, 197, 198, 199, 200, 201, 202, 132, 203, 204, 205, 206, 133, 50] (by decide +kernel) (by decide +kernel)) (goodIn_app (goodIn_r _ [51, 52, 53, 54, 207, 104, 105, 208, 209, 210, 211, 19, 20, 49, 212, 213, 214, 215, 216, 217, 218, 219, 220, 221] (by decide +kernel) (by decide +kernel)) (goodIn_app (goodIn_r _ [222, 223, 224, 225, 226, 227, 228, 229, 230, 231, 232, 233, 234, 235, 236, 237, 238, 239, 240, 241, 242, 243, 244, 245] (by decide +kernel) (by decide +kernel)) (goodIn_app (goodIn_r _ [246, 247, 248, 249, 250, 251, 252, 253, 254, 255, 256, 257, 258, 259, 260, 261, 262, 263, 264, 265, 266, 267, 139, 268] (by decide +kernel) (by decide +kernel)) (goodIn_app (goodIn_r _ [269, 270, 271, 15, 16, 17, 18, 38, 39, 40, 45, 46, 47, 48, 55, 56, 57, 58, 36, 37, 59, 60, 61, 62] (by decide +kernel) (by decide +kernel)) (goodIn_app (goodIn_r _ [63, 64, 65, 66, 67, 68, 69, 70, 71, 73, 76, 77, 78, 79, 86, 87, 88, 89, 90, 91, 92, 93, 94, 95] (by decide +kernel) (by decide +kernel)) (goodIn_app (goodIn_r _ [96, 97, 98, 99, 100, 101, 106, 107, 108, 109, 110, 111, 112, 113, 114, 115, 116, 118, 32, 33, 34, 35, 272, 273] (by decide +kernel) (by decide +kernel)) (goodIn_r _ [274, 275, 276] (by decide +kernel) (by decide +kernel)))))))))))) (goodIn_r _ [277, 278, 279, 280, 281] (by decide +kernel) (by decide +kernel))) (goodIn_r _ [282, 283, 284, 285, 286, 287, 288] (by decide +kernel) (by decide +kernel))) (goodIn_r _ [298, 299, 300] (by decide +kernel) (by decide +kernel))) (goodIn_r _ [289, 290] (by decide +kernel) (by decide +kernel))) (goodIn_r _ [291, 292, 293, 294] (by decide +kernel) (by decide +kernel))) (goodIn_r _ [301, 302] (by decide +kernel) (by decide +kernel))) (goodIn_r _ [295, 296, 297] (by decide +kernel) (by decide +kernel))) (goodIn_sub (fun _ h => List.mem_cons_of_mem _ (List.mem_append_left _ (List.mem_append_right _ h))) (by decide +kernel))) (goodIn_sub (fun _ h => List.mem_cons_of_mem _ (List.mem_append_left _ (List.mem_append_left _ (List.mem_append_right _ h)))) (by decide +kernel))) (goodIn_sub (fun _ h => List.mem_cons_of_mem _ (List.mem_append_right _ h)) (by decide +kernel))
set_option maxRecDepth 20000 in
theorem gL_refuses_L_refusesAny : GoodIn wsL_refuses (va_wsS RL 131 yL_refusesAny wsL_refusesAny) := goodIn_app (goodIn_of _ (by decide +kernel)) ggL_refuses_L_refusesAny
theorem dL_refuses_0 : decode cL_refuses 0 = .ok (.aload_n 0, 1) := by decide +kernel
theorem dL_refuses_1 : decode cL_refuses 1 = .ok (.invokestatic 124, 3) := by decide +kernel
theorem dL_refuses_4 : decode cL_refuses 4 = .ok (.lstore_n 2, 1) := by decide +kernel
theorem dL_refuses_5 : decode cL_refuses 5 = .ok (.aload_n 0, 1) := by decide +kernel
theorem dL_refuses_6 : decode cL_refuses 6 = .ok (.invokevirtual 128, 3) := by decide +kernel
theorem dL_refuses_9 : decode cL_refuses 9 = .ok (.istore 4, 2) := by decide +kernel
theorem dL_refuses_11 : decode cL_refuses 11 = .ok (.aload_n 0, 1) := by decide +kernel
theorem dL_refuses_12 : decode cL_refuses 12 = .ok (.iload_n 1, 1) := by decide +kernel
theorem dL_refuses_13 : decode cL_refuses 13 = .ok (.invokestatic 131, 3) := by decide +kernel
theorem dL_refuses_16 : decode cL_refuses 16 = .ok (.ifCond .eq 25, 3) := by decide +kernel
theorem dL_refuses_19 : decode cL_refuses 19 = .ok (.aload_n 0, 1) := by decide +kernel
theorem dL_refuses_20 : decode cL_refuses 20 = .ok (.invokestatic 124, 3) := by decide +kernel
theorem dL_refuses_23 : decode cL_refuses 23 = .ok (.lload_n 2, 1) := by decide +kernel
theorem dL_refuses_24 : decode cL_refuses 24 = .ok (.lcmp, 1) := by decide +kernel
theorem dL_refuses_25 : decode cL_refuses 25 = .ok (.ifCond .ne 16, 3) := by decide +kernel
theorem dL_refuses_28 : decode cL_refuses 28 = .ok (.aload_n 0, 1) := by decide +kernel
theorem dL_refuses_29 : decode cL_refuses 29 = .ok (.invokevirtual 128, 3) := by decide +kernel
theorem dL_refuses_32 : decode cL_refuses 32 = .ok (.iload 4, 2) := by decide +kernel
theorem dL_refuses_34 : decode cL_refuses 34 = .ok (.if_icmp .ne 7, 3) := by decide +kernel
theorem dL_refuses_37 : decode cL_refuses 37 = .ok (.iconst 1, 1) := by decide +kernel
theorem dL_refuses_38 : decode cL_refuses 38 = .ok (.goto 4, 3) := by decide +kernel
theorem dL_refuses_41 : decode cL_refuses 41 = .ok (.iconst 0, 1) := by decide +kernel
theorem dL_refuses_42 : decode cL_refuses 42 = .ok (.ireturn, 1) := by decide +kernel
theorem dL_size_0 : decode cL_size 0 = .ok (.iload_n 0, 1) := by decide +kernel
theorem dL_size_1 : decode cL_size 1 = .ok (.iconst 3, 1) := by decide +kernel
theorem dL_size_2 : decode cL_size 2 = .ok (.irem, 1) := by decide +kernel
theorem dL_size_3 : decode cL_size 3 = .ok (.ifCond .ne 15, 3) := by decide +kernel
theorem dL_size_6 : decode cL_size 6 = .ok (.iconst 1, 1) := by decide +kernel
theorem dL_size_7 : decode cL_size 7 = .ok (.iload_n 0, 1) := by decide +kernel
theorem dL_size_8 : decode cL_size 8 = .ok (.iconst 3, 1) := by decide +kernel
theorem dL_size_9 : decode cL_size 9 = .ok (.idiv, 1) := by decide +kernel
theorem dL_size_10 : decode cL_size 10 = .ok (.sipush 2048, 3) := by decide +kernel
theorem dL_size_13 : decode cL_size 13 = .ok (.irem, 1) := by decide +kernel
theorem dL_size_14 : decode cL_size 14 = .ok (.iadd, 1) := by decide +kernel
theorem dL_size_15 : decode cL_size 15 = .ok (.goto 29, 3) := by decide +kernel
theorem dL_size_18 : decode cL_size 18 = .ok (.iload_n 0, 1) := by decide +kernel
theorem dL_size_19 : decode cL_size 19 = .ok (.iconst 3, 1) := by decide +kernel
theorem dL_size_20 : decode cL_size 20 = .ok (.irem, 1) := by decide +kernel
theorem dL_size_21 : decode cL_size 21 = .ok (.iconst 1, 1) := by decide +kernel
theorem dL_size_22 : decode cL_size 22 = .ok (.if_icmp .ne 14, 3) := by decide +kernel
theorem dL_size_25 : decode cL_size 25 = .ok (.iconst 1, 1) := by decide +kernel
theorem dL_size_26 : decode cL_size 26 = .ok (.iload_n 0, 1) := by decide +kernel
theorem dL_size_27 : decode cL_size 27 = .ok (.iconst 3, 1) := by decide +kernel
theorem dL_size_28 : decode cL_size 28 = .ok (.idiv, 1) := by decide +kernel
theorem dL_size_29 : decode cL_size 29 = .ok (.bipush 10, 2) := by decide +kernel
theorem dL_size_31 : decode cL_size 31 = .ok (.irem, 1) := by decide +kernel
theorem dL_size_32 : decode cL_size 32 = .ok (.ishl, 1) := by decide +kernel
theorem dL_size_33 : decode cL_size 33 = .ok (.goto 11, 3) := by decide +kernel
theorem dL_size_36 : decode cL_size 36 = .ok (.iconst 1, 1) := by decide +kernel
theorem dL_size_37 : decode cL_size 37 = .ok (.iload_n 0, 1) := by decide +kernel
theorem dL_size_38 : decode cL_size 38 = .ok (.iconst 3, 1) := by decide +kernel
theorem dL_size_39 : decode cL_size 39 = .ok (.idiv, 1) := by decide +kernel
theorem dL_size_40 : decode cL_size 40 = .ok (.bipush 60, 2) := by decide +kernel
theorem dL_size_42 : decode cL_size 42 = .ok (.irem, 1) := by decide +kernel
theorem dL_size_43 : decode cL_size 43 = .ok (.iadd, 1) := by decide +kernel
theorem dL_size_44 : decode cL_size 44 = .ok (.ireturn, 1) := by decide +kernel
set_option maxRecDepth 20000 in
theorem ggL_volts_X7_voltage : GoodIn wsL_volts wsX7_voltage := goodIn_r _ [6, 7, 8, 246, 247, 248, 249, 250, 251, 252, 253, 254, 255, 256, 257] (by decide +kernel) (by decide +kernel)
set_option maxRecDepth 20000 in
theorem gL_volts_X7_voltage : GoodIn wsL_volts (wsV RL 80 RX7 yX7_voltage wsX7_voltage) := goodIn_app (goodIn_of _ (by decide +kernel)) ggL_volts_X7_voltage
set_option maxRecDepth 20000 in
theorem ggL_volts_X7_ticksToSettle : GoodIn wsL_volts wsX7_ticksToSettle := goodIn_ca (goodIn_r _ [12, 13, 7, 8, 14, 15, 16, 17, 18, 19, 20, 21, 5, 22, 23, 24, 25, 26, 27, 246, 247, 248, 249, 250, 251, 252, 253, 254, 255, 256, 257] (by decide +kernel) (by decide +kernel)) (goodIn_sub (fun _ h => List.mem_cons_of_mem _ (List.mem_append_left _ (List.mem_append_left _ (List.mem_append_right _ h)))) (by decide +kernel))
set_option maxRecDepth 20000 in
theorem gL_volts_X7_ticksToSettle : GoodIn wsL_volts (wsV RL 73 RX7 yX7_ticksToSettle wsX7_ticksToSettle) := goodIn_app (goodIn_of _ (by decide +kernel)) ggL_volts_X7_ticksToSettle
set_option maxRecDepth 20000 in
theorem ggL_volts_L_call : GoodIn wsL_volts wsL_call := goodIn_ca (goodIn_ca (goodIn_ca (goodIn_ca (goodIn_ca (goodIn_ca (goodIn_ca (goodIn_ca (goodIn_ca (goodIn_ca (goodIn_r _ [31, 32, 33, 34, 35, 36, 37, 5, 38, 13, 39, 7, 8, 19, 20, 21, 22, 23, 24, 40, 41, 42, 43, 44, 45] (by decide +kernel) (by decide +kernel)) (goodIn_app (goodIn_r _ [46, 47, 48, 49, 17, 50, 51, 52, 53, 54, 55, 56, 57, 58, 59, 60, 61, 62, 63, 64, 65, 66, 67, 68] (by decide +kernel) (by decide +kernel)) (goodIn_app (goodIn_r _ [69, 70, 71, 72, 73, 74, 75, 76, 77, 78, 79, 80, 81, 82, 83, 25, 26, 27, 84, 85, 86, 87, 88, 89] (by decide +kernel) (by decide +kernel)) (goodIn_app (goodIn_r _ [90, 91, 92, 93, 94, 95, 96, 97, 98, 99, 100, 101, 102, 103, 104, 105, 106, 107, 108, 109, 110, 111, 112, 113] (by decide +kernel) (by decide +kernel)) (goodIn_app (goodIn_r _ [114, 115, 116, 117, 118, 119, 120, 121, 122, 123, 124, 125, 126, 127, 128, 129, 130, 131, 132, 133, 134, 135, 136, 137] (by decide +kernel) (by decide +kernel)) (goodIn_app (goodIn_r _ [138, 139, 140, 141, 142, 143, 144, 145, 146, 147, 148, 149, 150, 151, 152, 153, 154, 155, 156, 157, 158, 159, 160, 161] (by decide +kernel) (by decide +kernel)) (goodIn_r _ [162, 163, 164, 165, 166, 167, 168, 169, 170, 171, 172, 173, 174, 175, 176, 177, 178, 179, 180, 181] (by decide +kernel) (by decide +kernel)))))))) (goodIn_r _ [246, 247, 248, 249, 250] (by decide +kernel) (by decide +kernel))) (goodIn_r _ [251, 252, 253, 254, 255, 256, 257] (by decide +kernel) (by decide +kernel))) (goodIn_r _ [258, 259, 260] (by decide +kernel) (by decide +kernel))) (goodIn_r _ [261, 262] (by decide +kernel) (by decide +kernel))) (goodIn_r _ [263, 264, 265, 266] (by decide +kernel) (by decide +kernel))) (goodIn_r _ [267, 268] (by decide +kernel) (by decide +kernel))) (goodIn_sub (fun _ h => List.mem_cons_of_mem _ (List.mem_append_left _ (List.mem_append_left _ (List.mem_append_right _ h)))) (by decide +kernel))) (goodIn_sub (fun _ h => List.mem_cons_of_mem _ (List.mem_append_left _ (List.mem_append_right _ h))) (by decide +kernel))) (goodIn_sub (fun _ h => List.mem_cons_of_mem _ (List.mem_append_right _ h)) (by decide +kernel))
set_option maxRecDepth 20000 in
theorem gL_volts_L_call : GoodIn wsL_volts (va_wsS RL 117 yL_call wsL_call) := goodIn_app (goodIn_of _ (by decide +kernel)) ggL_volts_L_call
set_option maxRecDepth 20000 in
theorem ggL_volts_X7_ticksToChange : GoodIn wsL_volts wsX7_ticksToChange := goodIn_r _ [185, 7, 8, 88, 186, 187, 188, 5, 189, 190, 118, 191, 192, 193, 194, 195, 196, 197, 198, 199, 200, 201, 90, 91, 112, 113, 89, 246, 247, 248, 249, 250, 251, 252, 253, 254, 255, 256, 257, 269, 270, 271, 261, 262] (by decide +kernel) (by decide +kernel)
set_option maxRecDepth 20000 in
theorem gL_volts_X7_ticksToChange : GoodIn wsL_volts (wsV RL 135 RX7 yX7_ticksToChange wsX7_ticksToChange) := goodIn_app (goodIn_of _ (by decide +kernel)) ggL_volts_X7_ticksToChange
set_option maxRecDepth 20000 in
theorem ggL_volts_L_ask : GoodIn wsL_volts wsL_ask := goodIn_ca (goodIn_ca (goodIn_ca (goodIn_ca (goodIn_ca (goodIn_ca (goodIn_ca (goodIn_ca (goodIn_r _ [204, 32, 33, 205, 206, 207, 208, 209, 5, 210, 7, 118, 119, 120, 106, 107, 108, 109, 110, 211, 212, 213, 214, 215, 216] (by decide +kernel) (by decide +kernel)) (goodIn_app (goodIn_r _ [217, 218, 219, 220, 221, 222, 223, 224, 225, 226, 227, 228, 229, 77, 230, 82, 79, 231, 232, 233, 234, 13, 20, 21] (by decide +kernel) (by decide +kernel)) (goodIn_app (goodIn_r _ [22, 23, 24, 186, 187, 188, 189, 190, 191, 192, 193, 194, 195, 196, 197, 198, 199, 200, 201, 90, 91, 112, 113, 235] (by decide +kernel) (by decide +kernel)) (goodIn_r _ [236, 237, 238, 9, 10, 11, 12, 8, 14, 15, 16, 17, 18, 19, 25, 26, 27] (by decide +kernel) (by decide +kernel))))) (goodIn_r _ [246, 247, 248, 249, 250] (by decide +kernel) (by decide +kernel))) (goodIn_r _ [251, 252, 253, 254, 255, 256, 257] (by decide +kernel) (by decide +kernel))) (goodIn_r _ [261, 262] (by decide +kernel) (by decide +kernel))) (goodIn_r _ [263, 264, 265, 266] (by decide +kernel) (by decide +kernel))) (goodIn_r _ [269, 270, 271] (by decide +kernel) (by decide +kernel))) (goodIn_sub (fun _ h => List.mem_cons_of_mem _ (List.mem_append_left _ (List.mem_append_right _ h))) (by decide +kernel))) (goodIn_sub (fun _ h => List.mem_cons_of_mem _ (List.mem_append_left _ (List.mem_append_left _ (List.mem_append_right _ h)))) (by decide +kernel))
set_option maxRecDepth 20000 in
theorem gL_volts_L_ask : GoodIn wsL_volts (va_wsS RL 94 yL_ask wsL_ask) := goodIn_app (goodIn_of _ (by decide +kernel)) ggL_volts_L_ask
set_option maxRecDepth 20000 in
theorem ggL_volts_X7_undo : GoodIn wsL_volts wsX7_undo := goodIn_ca (goodIn_r _ [176, 125, 126, 39, 177, 7, 178, 179, 180, 43, 181, 46, 45, 47, 51, 52, 53, 54, 55, 56, 57, 58, 59, 60, 61, 62, 63, 64, 65, 66, 67, 68, 69, 70, 71, 72, 73, 74, 75, 76, 77, 78, 79, 80, 81, 82, 83, 246, 247, 248, 249, 250, 258, 259, 260, 251, 252, 253, 254, 255, 256, 257, 261, 262, 263, 264, 265, 266] (by decide +kernel) (by decide +kernel)) (goodIn_sub (fun _ h => List.mem_cons_of_mem _ (List.mem_append_right _ h)) (by decide +kernel))
set_option maxRecDepth 20000 in
theorem gL_volts_X7_undo : GoodIn wsL_volts (wsV RL 46 RX7 yX7_undo wsX7_undo) := goodIn_app (goodIn_of _ (by decide +kernel)) ggL_volts_X7_undo
set_option maxRecDepth 20000 in
theorem ggL_volts_X7_savedStates : GoodIn wsL_volts wsX7_savedStates := goodIn_r _ [242, 39, 177, 246, 247, 248, 249, 250, 258, 259, 260] (by decide +kernel) (by decide +kernel)
set_option maxRecDepth 20000 in
theorem gL_volts_X7_savedStates : GoodIn wsL_volts (wsV RL 128 RX7 yX7_savedStates wsX7_savedStates) := goodIn_app (goodIn_of _ (by decide +kernel)) ggL_volts_X7_savedStates
set_option maxRecDepth 20000 in
theorem ggL_volts_L_setsOffset : GoodIn wsL_volts wsL_setsOffset := goodIn_ca (goodIn_r _ [245, 33, 96, 97, 98, 5, 99, 39, 7, 100, 20, 21, 22, 23, 24, 40, 41, 42, 43, 44, 45, 46, 47, 48, 49, 17, 50, 51, 52, 53, 54, 55, 56, 57, 58, 59, 60, 61, 62, 63, 64, 65, 66, 67, 68, 69, 70, 71, 72, 73, 74, 75, 76, 77, 78, 79, 80, 81, 82, 83, 246, 247, 248, 249, 250, 251, 252, 253, 254, 255, 256, 257, 258, 259, 260, 261, 262, 263, 264, 265, 266] (by decide +kernel) (by decide +kernel)) (goodIn_sub (fun _ h => List.mem_cons_of_mem _ (List.mem_append_left _ (List.mem_append_left _ (List.mem_append_right _ h)))) (by decide +kernel))
set_option maxRecDepth 20000 in
theorem gL_volts_L_setsOffset : GoodIn wsL_volts (va_wsS RL 138 yL_setsOffset wsL_setsOffset) := goodIn_app (goodIn_of _ (by decide +kernel)) ggL_volts_L_setsOffset
theorem dL_volts_0 : decode cL_volts 0 = .ok (.aload_n 0, 1) := by decide +kernel
theorem dL_volts_1 : decode cL_volts 1 = .ok (.invokevirtual 80, 3) := by decide +kernel
theorem dL_volts_4 : decode cL_volts 4 = .ok (.istore_n 3, 1) := by decide +kernel
theorem dL_volts_5 : decode cL_volts 5 = .ok (.iload_n 1, 1) := by decide +kernel
theorem dL_volts_6 : decode cL_volts 6 = .ok (.iconst 2, 1) := by decide +kernel
theorem dL_volts_7 : decode cL_volts 7 = .ok (.if_icmp .ge 119, 3) := by decide +kernel
theorem dL_volts_10 : decode cL_volts 10 = .ok (.iload_n 2, 1) := by decide +kernel
theorem dL_volts_11 : decode cL_volts 11 = .ok (.ldc 107, 2) := by decide +kernel
theorem dL_volts_13 : decode cL_volts 13 = .ok (.irem, 1) := by decide +kernel
theorem dL_volts_14 : decode cL_volts 14 = .ok (.istore 4, 2) := by decide +kernel
theorem dL_volts_16 : decode cL_volts 16 = .ok (.aload_n 0, 1) := by decide +kernel
theorem dL_volts_17 : decode cL_volts 17 = .ok (.iload 4, 2) := by decide +kernel
theorem dL_volts_19 : decode cL_volts 19 = .ok (.invokevirtual 73, 3) := by decide +kernel
theorem dL_volts_22 : decode cL_volts 22 = .ok (.istore 5, 2) := by decide +kernel
theorem dL_volts_24 : decode cL_volts 24 = .ok (.aload_n 0, 1) := by decide +kernel
theorem dL_volts_25 : decode cL_volts 25 = .ok (.iconst 0, 1) := by decide +kernel
theorem dL_volts_26 : decode cL_volts 26 = .ok (.iload 4, 2) := by decide +kernel
theorem dL_volts_28 : decode cL_volts 28 = .ok (.iconst 1, 1) := by decide +kernel
theorem dL_volts_29 : decode cL_volts 29 = .ok (.iload_n 2, 1) := by decide +kernel
theorem dL_volts_30 : decode cL_volts 30 = .ok (.bipush 7, 2) := by decide +kernel
theorem dL_volts_32 : decode cL_volts 32 = .ok (.idiv, 1) := by decide +kernel
theorem dL_volts_33 : decode cL_volts 33 = .ok (.bipush 30, 2) := by decide +kernel
theorem dL_volts_35 : decode cL_volts 35 = .ok (.irem, 1) := by decide +kernel
theorem dL_volts_36 : decode cL_volts 36 = .ok (.iadd, 1) := by decide +kernel
theorem dL_volts_37 : decode cL_volts 37 = .ok (.invokestatic 117, 3) := by decide +kernel
theorem dL_volts_40 : decode cL_volts 40 = .ok (.istore 6, 2) := by decide +kernel
theorem dL_volts_42 : decode cL_volts 42 = .ok (.iload 6, 2) := by decide +kernel
theorem dL_volts_44 : decode cL_volts 44 = .ok (.aload_n 0, 1) := by decide +kernel
theorem dL_volts_45 : decode cL_volts 45 = .ok (.invokevirtual 80, 3) := by decide +kernel
theorem dL_volts_48 : decode cL_volts 48 = .ok (.if_icmp .ne 76, 3) := by decide +kernel
theorem dL_volts_51 : decode cL_volts 51 = .ok (.iload_n 3, 1) := by decide +kernel
theorem dL_volts_52 : decode cL_volts 52 = .ok (.iload 4, 2) := by decide +kernel
theorem dL_volts_54 : decode cL_volts 54 = .ok (.if_icmp .gt 19, 3) := by decide +kernel
theorem dL_volts_57 : decode cL_volts 57 = .ok (.iload 6, 2) := by decide +kernel
theorem dL_volts_59 : decode cL_volts 59 = .ok (.iload_n 3, 1) := by decide +kernel
theorem dL_volts_60 : decode cL_volts 60 = .ok (.if_icmp .lt 64, 3) := by decide +kernel
theorem dL_volts_63 : decode cL_volts 63 = .ok (.iload 6, 2) := by decide +kernel
theorem dL_volts_65 : decode cL_volts 65 = .ok (.iload 4, 2) := by decide +kernel
theorem dL_volts_67 : decode cL_volts 67 = .ok (.if_icmp .gt 57, 3) := by decide +kernel
theorem dL_volts_70 : decode cL_volts 70 = .ok (.goto 16, 3) := by decide +kernel
theorem dL_volts_73 : decode cL_volts 73 = .ok (.iload 6, 2) := by decide +kernel
theorem dL_volts_75 : decode cL_volts 75 = .ok (.iload_n 3, 1) := by decide +kernel
theorem dL_volts_76 : decode cL_volts 76 = .ok (.if_icmp .gt 48, 3) := by decide +kernel
theorem dL_volts_79 : decode cL_volts 79 = .ok (.iload 6, 2) := by decide +kernel
theorem dL_volts_81 : decode cL_volts 81 = .ok (.iload 4, 2) := by decide +kernel
theorem dL_volts_83 : decode cL_volts 83 = .ok (.if_icmp .lt 41, 3) := by decide +kernel
theorem dL_volts_86 : decode cL_volts 86 = .ok (.iload 5, 2) := by decide +kernel
theorem dL_volts_88 : decode cL_volts 88 = .ok (.iconst 1, 1) := by decide +kernel
theorem dL_volts_89 : decode cL_volts 89 = .ok (.iload_n 2, 1) := by decide +kernel
theorem dL_volts_90 : decode cL_volts 90 = .ok (.bipush 7, 2) := by decide +kernel
theorem dL_volts_92 : decode cL_volts 92 = .ok (.idiv, 1) := by decide +kernel
theorem dL_volts_93 : decode cL_volts 93 = .ok (.bipush 30, 2) := by decide +kernel
theorem dL_volts_95 : decode cL_volts 95 = .ok (.irem, 1) := by decide +kernel
theorem dL_volts_96 : decode cL_volts 96 = .ok (.iadd, 1) := by decide +kernel
theorem dL_volts_97 : decode cL_volts 97 = .ok (.if_icmp .gt 23, 3) := by decide +kernel
theorem dL_volts_100 : decode cL_volts 100 = .ok (.iload 6, 2) := by decide +kernel
theorem dL_volts_102 : decode cL_volts 102 = .ok (.iload 4, 2) := by decide +kernel
theorem dL_volts_104 : decode cL_volts 104 = .ok (.isub, 1) := by decide +kernel
theorem dL_volts_105 : decode cL_volts 105 = .ok (.bipush 16, 2) := by decide +kernel
theorem dL_volts_107 : decode cL_volts 107 = .ok (.if_icmp .ge 17, 3) := by decide +kernel
theorem dL_volts_110 : decode cL_volts 110 = .ok (.iload 4, 2) := by decide +kernel
theorem dL_volts_112 : decode cL_volts 112 = .ok (.iload 6, 2) := by decide +kernel
theorem dL_volts_114 : decode cL_volts 114 = .ok (.isub, 1) := by decide +kernel
theorem dL_volts_115 : decode cL_volts 115 = .ok (.bipush 16, 2) := by decide +kernel
theorem dL_volts_117 : decode cL_volts 117 = .ok (.if_icmp .ge 7, 3) := by decide +kernel
theorem dL_volts_120 : decode cL_volts 120 = .ok (.iconst 1, 1) := by decide +kernel
theorem dL_volts_121 : decode cL_volts 121 = .ok (.goto 4, 3) := by decide +kernel
theorem dL_volts_124 : decode cL_volts 124 = .ok (.iconst 0, 1) := by decide +kernel
theorem dL_volts_125 : decode cL_volts 125 = .ok (.ireturn, 1) := by decide +kernel
theorem dL_volts_126 : decode cL_volts 126 = .ok (.iload_n 1, 1) := by decide +kernel
theorem dL_volts_127 : decode cL_volts 127 = .ok (.iconst 2, 1) := by decide +kernel
theorem dL_volts_128 : decode cL_volts 128 = .ok (.if_icmp .ne 86, 3) := by decide +kernel
theorem dL_volts_131 : decode cL_volts 131 = .ok (.iconst 1, 1) := by decide +kernel
theorem dL_volts_132 : decode cL_volts 132 = .ok (.iload_n 2, 1) := by decide +kernel
theorem dL_volts_133 : decode cL_volts 133 = .ok (.bipush 30, 2) := by decide +kernel
theorem dL_volts_135 : decode cL_volts 135 = .ok (.irem, 1) := by decide +kernel
theorem dL_volts_136 : decode cL_volts 136 = .ok (.iadd, 1) := by decide +kernel
theorem dL_volts_137 : decode cL_volts 137 = .ok (.istore 4, 2) := by decide +kernel
theorem dL_volts_139 : decode cL_volts 139 = .ok (.aload_n 0, 1) := by decide +kernel
theorem dL_volts_140 : decode cL_volts 140 = .ok (.invokevirtual 135, 3) := by decide +kernel
theorem dL_volts_143 : decode cL_volts 143 = .ok (.istore 5, 2) := by decide +kernel
theorem dL_volts_145 : decode cL_volts 145 = .ok (.aload_n 0, 1) := by decide +kernel
theorem dL_volts_146 : decode cL_volts 146 = .ok (.iconst 4, 1) := by decide +kernel
theorem dL_volts_147 : decode cL_volts 147 = .ok (.iload_n 3, 1) := by decide +kernel
theorem dL_volts_148 : decode cL_volts 148 = .ok (.invokestatic 94, 3) := by decide +kernel
theorem dL_volts_151 : decode cL_volts 151 = .ok (.istore 6, 2) := by decide +kernel
theorem dL_volts_153 : decode cL_volts 153 = .ok (.aload_n 0, 1) := by decide +kernel
theorem dL_volts_154 : decode cL_volts 154 = .ok (.iconst 1, 1) := by decide +kernel
theorem dL_volts_155 : decode cL_volts 155 = .ok (.iload 4, 2) := by decide +kernel
theorem dL_volts_157 : decode cL_volts 157 = .ok (.iconst 0, 1) := by decide +kernel
theorem dL_volts_158 : decode cL_volts 158 = .ok (.invokestatic 117, 3) := by decide +kernel
theorem dL_volts_161 : decode cL_volts 161 = .ok (.istore 7, 2) := by decide +kernel
theorem dL_volts_163 : decode cL_volts 163 = .ok (.iload 7, 2) := by decide +kernel
theorem dL_volts_165 : decode cL_volts 165 = .ok (.aload_n 0, 1) := by decide +kernel
theorem dL_volts_166 : decode cL_volts 166 = .ok (.invokevirtual 80, 3) := by decide +kernel
theorem dL_volts_169 : decode cL_volts 169 = .ok (.if_icmp .ne 43, 3) := by decide +kernel
theorem dL_volts_172 : decode cL_volts 172 = .ok (.iload 7, 2) := by decide +kernel
theorem dL_volts_174 : decode cL_volts 174 = .ok (.iload_n 3, 1) := by decide +kernel
theorem dL_volts_175 : decode cL_volts 175 = .ok (.if_icmp .gt 37, 3) := by decide +kernel
theorem dL_volts_178 : decode cL_volts 178 = .ok (.iload 7, 2) := by decide +kernel
theorem dL_volts_180 : decode cL_volts 180 = .ok (.ifCond .lt 32, 3) := by decide +kernel
theorem dL_volts_183 : decode cL_volts 183 = .ok (.iload 5, 2) := by decide +kernel
theorem dL_volts_185 : decode cL_volts 185 = .ok (.iconst (-1), 1) := by decide +kernel
theorem dL_volts_186 : decode cL_volts 186 = .ok (.if_icmp .eq 10, 3) := by decide +kernel
theorem dL_volts_189 : decode cL_volts 189 = .ok (.iload 5, 2) := by decide +kernel
theorem dL_volts_191 : decode cL_volts 191 = .ok (.iload 4, 2) := by decide +kernel
theorem dL_volts_193 : decode cL_volts 193 = .ok (.if_icmp .le 15, 3) := by decide +kernel
theorem dL_volts_196 : decode cL_volts 196 = .ok (.aload_n 0, 1) := by decide +kernel
theorem dL_volts_197 : decode cL_volts 197 = .ok (.iconst 4, 1) := by decide +kernel
theorem dL_volts_198 : decode cL_volts 198 = .ok (.iload 7, 2) := by decide +kernel
theorem dL_volts_200 : decode cL_volts 200 = .ok (.invokestatic 94, 3) := by decide +kernel
theorem dL_volts_203 : decode cL_volts 203 = .ok (.iload 6, 2) := by decide +kernel
theorem dL_volts_205 : decode cL_volts 205 = .ok (.if_icmp .ne 7, 3) := by decide +kernel
theorem dL_volts_208 : decode cL_volts 208 = .ok (.iconst 1, 1) := by decide +kernel
theorem dL_volts_209 : decode cL_volts 209 = .ok (.goto 4, 3) := by decide +kernel
theorem dL_volts_212 : decode cL_volts 212 = .ok (.iconst 0, 1) := by decide +kernel
theorem dL_volts_213 : decode cL_volts 213 = .ok (.ireturn, 1) := by decide +kernel
theorem dL_volts_214 : decode cL_volts 214 = .ok (.iload_n 1, 1) := by decide +kernel
theorem dL_volts_215 : decode cL_volts 215 = .ok (.iconst 3, 1) := by decide +kernel
theorem dL_volts_216 : decode cL_volts 216 = .ok (.if_icmp .ne 75, 3) := by decide +kernel
theorem dL_volts_219 : decode cL_volts 219 = .ok (.aload_n 0, 1) := by decide +kernel
theorem dL_volts_220 : decode cL_volts 220 = .ok (.iconst 2, 1) := by decide +kernel
theorem dL_volts_221 : decode cL_volts 221 = .ok (.iconst 1, 1) := by decide +kernel
theorem dL_volts_222 : decode cL_volts 222 = .ok (.iload_n 2, 1) := by decide +kernel
theorem dL_volts_223 : decode cL_volts 223 = .ok (.bipush 16, 2) := by decide +kernel
theorem dL_volts_225 : decode cL_volts 225 = .ok (.irem, 1) := by decide +kernel
theorem dL_volts_226 : decode cL_volts 226 = .ok (.iadd, 1) := by decide +kernel
theorem dL_volts_227 : decode cL_volts 227 = .ok (.iload_n 2, 1) := by decide +kernel
theorem dL_volts_228 : decode cL_volts 228 = .ok (.bipush 16, 2) := by decide +kernel
theorem dL_volts_230 : decode cL_volts 230 = .ok (.idiv, 1) := by decide +kernel
theorem dL_volts_231 : decode cL_volts 231 = .ok (.bipush 65, 2) := by decide +kernel
theorem dL_volts_233 : decode cL_volts 233 = .ok (.irem, 1) := by decide +kernel
theorem dL_volts_234 : decode cL_volts 234 = .ok (.invokestatic 117, 3) := by decide +kernel
theorem dL_volts_237 : decode cL_volts 237 = .ok (.istore 4, 2) := by decide +kernel
theorem dL_volts_239 : decode cL_volts 239 = .ok (.iload 4, 2) := by decide +kernel
theorem dL_volts_241 : decode cL_volts 241 = .ok (.ifCond .le 48, 3) := by decide +kernel
theorem dL_volts_244 : decode cL_volts 244 = .ok (.iload 4, 2) := by decide +kernel
theorem dL_volts_246 : decode cL_volts 246 = .ok (.bipush 17, 2) := by decide +kernel
theorem dL_volts_248 : decode cL_volts 248 = .ok (.if_icmp .ge 41, 3) := by decide +kernel
theorem dL_volts_251 : decode cL_volts 251 = .ok (.aload_n 0, 1) := by decide +kernel
theorem dL_volts_252 : decode cL_volts 252 = .ok (.iconst 2, 1) := by decide +kernel
theorem dL_volts_253 : decode cL_volts 253 = .ok (.iconst 1, 1) := by decide +kernel
theorem dL_volts_254 : decode cL_volts 254 = .ok (.iload_n 2, 1) := by decide +kernel
theorem dL_volts_255 : decode cL_volts 255 = .ok (.bipush 16, 2) := by decide +kernel
theorem dL_volts_257 : decode cL_volts 257 = .ok (.irem, 1) := by decide +kernel
theorem dL_volts_258 : decode cL_volts 258 = .ok (.iadd, 1) := by decide +kernel
theorem dL_volts_259 : decode cL_volts 259 = .ok (.iload_n 2, 1) := by decide +kernel
theorem dL_volts_260 : decode cL_volts 260 = .ok (.bipush 16, 2) := by decide +kernel
theorem dL_volts_262 : decode cL_volts 262 = .ok (.idiv, 1) := by decide +kernel
theorem dL_volts_263 : decode cL_volts 263 = .ok (.bipush 65, 2) := by decide +kernel
theorem dL_volts_265 : decode cL_volts 265 = .ok (.irem, 1) := by decide +kernel
theorem dL_volts_266 : decode cL_volts 266 = .ok (.invokestatic 117, 3) := by decide +kernel
theorem dL_volts_269 : decode cL_volts 269 = .ok (.iconst 1, 1) := by decide +kernel
theorem dL_volts_270 : decode cL_volts 270 = .ok (.iload_n 2, 1) := by decide +kernel
theorem dL_volts_271 : decode cL_volts 271 = .ok (.bipush 16, 2) := by decide +kernel
theorem dL_volts_273 : decode cL_volts 273 = .ok (.irem, 1) := by decide +kernel
theorem dL_volts_274 : decode cL_volts 274 = .ok (.iadd, 1) := by decide +kernel
theorem dL_volts_275 : decode cL_volts 275 = .ok (.if_icmp .ne 14, 3) := by decide +kernel
theorem dL_volts_278 : decode cL_volts 278 = .ok (.aload_n 0, 1) := by decide +kernel
theorem dL_volts_279 : decode cL_volts 279 = .ok (.invokevirtual 46, 3) := by decide +kernel
theorem dL_volts_282 : decode cL_volts 282 = .ok (.ifCond .lt 7, 3) := by decide +kernel
theorem dL_volts_285 : decode cL_volts 285 = .ok (.iconst 1, 1) := by decide +kernel
theorem dL_volts_286 : decode cL_volts 286 = .ok (.goto 4, 3) := by decide +kernel
theorem dL_volts_289 : decode cL_volts 289 = .ok (.iconst 0, 1) := by decide +kernel
theorem dL_volts_290 : decode cL_volts 290 = .ok (.ireturn, 1) := by decide +kernel
theorem dL_volts_291 : decode cL_volts 291 = .ok (.iload_n 2, 1) := by decide +kernel
theorem dL_volts_292 : decode cL_volts 292 = .ok (.sipush 129, 3) := by decide +kernel
theorem dL_volts_295 : decode cL_volts 295 = .ok (.irem, 1) := by decide +kernel
theorem dL_volts_296 : decode cL_volts 296 = .ok (.bipush 64, 2) := by decide +kernel
theorem dL_volts_298 : decode cL_volts 298 = .ok (.isub, 1) := by decide +kernel
theorem dL_volts_299 : decode cL_volts 299 = .ok (.istore 4, 2) := by decide +kernel
theorem dL_volts_301 : decode cL_volts 301 = .ok (.aload_n 0, 1) := by decide +kernel
theorem dL_volts_302 : decode cL_volts 302 = .ok (.bipush 9, 2) := by decide +kernel
theorem dL_volts_304 : decode cL_volts 304 = .ok (.invokevirtual 73, 3) := by decide +kernel
theorem dL_volts_307 : decode cL_volts 307 = .ok (.istore 5, 2) := by decide +kernel
theorem dL_volts_309 : decode cL_volts 309 = .ok (.aload_n 0, 1) := by decide +kernel
theorem dL_volts_310 : decode cL_volts 310 = .ok (.invokevirtual 128, 3) := by decide +kernel
theorem dL_volts_313 : decode cL_volts 313 = .ok (.istore 6, 2) := by decide +kernel
theorem dL_volts_315 : decode cL_volts 315 = .ok (.aload_n 0, 1) := by decide +kernel
theorem dL_volts_316 : decode cL_volts 316 = .ok (.iload 4, 2) := by decide +kernel
theorem dL_volts_318 : decode cL_volts 318 = .ok (.invokestatic 138, 3) := by decide +kernel
theorem dL_volts_321 : decode cL_volts 321 = .ok (.ifCond .eq 23, 3) := by decide +kernel
theorem dL_volts_324 : decode cL_volts 324 = .ok (.aload_n 0, 1) := by decide +kernel
theorem dL_volts_325 : decode cL_volts 325 = .ok (.bipush 9, 2) := by decide +kernel
theorem dL_volts_327 : decode cL_volts 327 = .ok (.invokevirtual 73, 3) := by decide +kernel
theorem dL_volts_330 : decode cL_volts 330 = .ok (.iload 5, 2) := by decide +kernel
theorem dL_volts_332 : decode cL_volts 332 = .ok (.if_icmp .ne 12, 3) := by decide +kernel
theorem dL_volts_335 : decode cL_volts 335 = .ok (.iload 6, 2) := by decide +kernel
theorem dL_volts_337 : decode cL_volts 337 = .ok (.ifCond .lt 7, 3) := by decide +kernel
theorem dL_volts_340 : decode cL_volts 340 = .ok (.iconst 1, 1) := by decide +kernel
theorem dL_volts_341 : decode cL_volts 341 = .ok (.goto 4, 3) := by decide +kernel
theorem dL_volts_344 : decode cL_volts 344 = .ok (.iconst 0, 1) := by decide +kernel
theorem dL_volts_345 : decode cL_volts 345 = .ok (.ireturn, 1) := by decide +kernel
set_option maxRecDepth 20000 in
theorem ggL_setsOffset_X7_setOffset : GoodIn wsL_setsOffset wsX7_setOffset := goodIn_ca (goodIn_r _ [6, 7, 8, 9, 10, 11, 5, 12, 13, 14, 15, 16, 17, 18, 19, 20, 21, 22, 23, 24, 25, 26, 27, 28, 29, 30, 31, 32, 33, 34, 35, 36, 37, 38, 39, 40, 41, 42, 43, 44, 45, 46, 47, 48, 49, 50, 51, 52, 53, 54, 55, 56, 57, 58, 59, 60, 61, 62, 63, 64, 65, 66, 67, 68, 69, 70, 71, 72, 73, 74, 75, 76, 77, 78, 79, 80] (by decide +kernel) (by decide +kernel)) (goodIn_sub (fun _ h => List.mem_cons_of_mem _ (List.mem_append_right _ h)) (by decide +kernel))
set_option maxRecDepth 20000 in
theorem gL_setsOffset_X7_setOffset : GoodIn wsL_setsOffset (wsV RL 23 RX7 yX7_setOffset wsX7_setOffset) := goodIn_app (goodIn_of _ (by decide +kernel)) ggL_setsOffset_X7_setOffset
theorem dL_setsOffset_0 : decode cL_setsOffset 0 = .ok (.aload_n 0, 1) := by decide +kernel
theorem dL_setsOffset_1 : decode cL_setsOffset 1 = .ok (.iload_n 1, 1) := by decide +kernel
theorem dL_setsOffset_2 : decode cL_setsOffset 2 = .ok (.invokevirtual 23, 3) := by decide +kernel
theorem dL_setsOffset_5 : decode cL_setsOffset 5 = .ok (.bipush (-64), 2) := by decide +kernel
theorem dL_setsOffset_7 : decode cL_setsOffset 7 = .ok (.if_icmp .lt 7, 3) := by decide +kernel
theorem dL_setsOffset_10 : decode cL_setsOffset 10 = .ok (.iconst 1, 1) := by decide +kernel
theorem dL_setsOffset_11 : decode cL_setsOffset 11 = .ok (.goto 4, 3) := by decide +kernel
theorem dL_setsOffset_14 : decode cL_setsOffset 14 = .ok (.iconst 0, 1) := by decide +kernel
theorem dL_setsOffset_15 : decode cL_setsOffset 15 = .ok (.ireturn, 1) := by decide +kernel
theorem dL_setsOffset_16 : decode cL_setsOffset 16 = .ok (.astore_n 2, 1) := by decide +kernel
theorem dL_setsOffset_17 : decode cL_setsOffset 17 = .ok (.iconst 0, 1) := by decide +kernel
theorem dL_setsOffset_18 : decode cL_setsOffset 18 = .ok (.ireturn, 1) := by decide +kernel
set_option maxRecDepth 20000 in
theorem ggL_converts_X7_nextCode : GoodIn wsL_converts wsX7_nextCode := goodIn_r _ [5, 6, 7, 8, 9, 10, 4, 11, 12, 13, 14, 15, 16, 17, 18, 19, 20, 21, 22, 23, 24, 25, 26, 27, 28, 29, 30, 31, 170, 171, 172, 173, 174, 175, 176, 177, 178, 179, 180, 181, 182, 183, 184, 185, 186] (by decide +kernel) (by decide +kernel)
set_option maxRecDepth 20000 in
theorem gL_converts_X7_nextCode : GoodIn wsL_converts (wsV RL 100 RX7 yX7_nextCode wsX7_nextCode) := goodIn_app (goodIn_of _ (by decide +kernel)) ggL_converts_X7_nextCode
set_option maxRecDepth 20000 in
theorem ggL_converts_X7_logged : GoodIn wsL_converts wsX7_logged := goodIn_r _ [35, 12, 36, 37, 170, 171, 172, 173, 174, 178, 179, 180, 181, 182, 183, 184, 187, 188, 189, 190] (by decide +kernel) (by decide +kernel)
set_option maxRecDepth 20000 in
theorem gL_converts_X7_logged : GoodIn wsL_converts (wsV RL 91 RX7 yX7_logged wsX7_logged) := goodIn_app (goodIn_of _ (by decide +kernel)) ggL_converts_X7_logged
set_option maxRecDepth 20000 in
theorem ggL_converts_X7_voltage : GoodIn wsL_converts wsX7_voltage := goodIn_r _ [41, 12, 14, 170, 171, 172, 173, 174, 178, 179, 180, 181, 182, 183, 184] (by decide +kernel) (by decide +kernel)
set_option maxRecDepth 20000 in
theorem gL_converts_X7_voltage : GoodIn wsL_converts (wsV RL 80 RX7 yX7_voltage wsX7_voltage) := goodIn_app (goodIn_of _ (by decide +kernel)) ggL_converts_X7_voltage
set_option maxRecDepth 20000 in
theorem ggL_converts_L_ask : GoodIn wsL_converts wsL_ask := goodIn_ca (goodIn_ca (goodIn_r _ [45, 46, 47, 48, 49, 50, 51, 52, 4, 53, 12, 13, 54, 55, 56, 57, 58, 59, 60, 61, 62, 63, 64, 36, 37, 65, 66, 67, 68, 69, 70, 71, 72, 73, 74, 75, 76, 77, 78, 79, 80, 81, 82, 83, 84, 85, 86, 87, 88, 89, 90, 91, 92, 93, 94, 95, 6, 7, 18, 19, 20, 21, 22, 23, 24, 25, 26, 27, 28, 29, 30, 31, 96, 97, 98, 99, 100, 101, 102, 103, 14, 104, 105, 106, 107, 108, 109, 110, 111, 112, 170, 171, 172, 173, 174, 178, 179, 180, 181, 182, 183, 184, 185, 186, 187, 188, 189, 190, 175, 176, 177] (by decide +kernel) (by decide +kernel)) (goodIn_sub (fun _ h => List.mem_cons_of_mem _ (List.mem_append_left _ (List.mem_append_right _ h))) (by decide +kernel))) (goodIn_sub (fun _ h => List.mem_cons_of_mem _ (List.mem_append_right _ h)) (by decide +kernel))
set_option maxRecDepth 20000 in
theorem gL_converts_L_ask : GoodIn wsL_converts (va_wsS RL 94 yL_ask wsL_ask) := goodIn_app (goodIn_of _ (by decide +kernel)) ggL_converts_L_ask
set_option maxRecDepth 20000 in
theorem ggL_converts_X7_convert : GoodIn wsL_converts wsX7_convert := goodIn_r _ [116, 117, 12, 14, 6, 118, 17, 36, 119, 7, 120, 121, 122, 123, 124, 125, 126, 127, 128, 129, 107, 130, 131, 132, 133, 134, 135, 136, 137, 138, 139, 140, 141, 142, 143, 144, 145, 146, 147, 148, 149, 150, 151, 152, 153, 154, 155, 156, 78, 157, 81, 158, 159, 80, 160, 8, 9, 10, 4, 11, 13, 15, 16, 18, 19, 20, 21, 22, 23, 24, 25, 26, 27, 28, 29, 30, 31, 161, 162, 163, 164, 165, 170, 171, 172, 173, 174, 178, 179, 180, 181, 182, 183, 184, 175, 176, 177, 191, 192, 193, 185, 186, 187, 188, 189, 190] (by decide +kernel) (by decide +kernel)
set_option maxRecDepth 20000 in
theorem gL_converts_X7_convert : GoodIn wsL_converts (wsV RL 141 RX7 yX7_convert wsX7_convert) := goodIn_app (goodIn_of _ (by decide +kernel)) ggL_converts_X7_convert
set_option maxRecDepth 20000 in
theorem ggL_converts_X7_weights : GoodIn wsL_converts wsX7_weights := goodIn_r _ [169, 12, 13, 54, 170, 171, 172, 173, 174, 178, 179, 180, 181, 182, 183, 184, 185, 186] (by decide +kernel) (by decide +kernel)
set_option maxRecDepth 20000 in
theorem gL_converts_X7_weights : GoodIn wsL_converts (wsV RL 85 RX7 yX7_weights wsX7_weights) := goodIn_app (goodIn_of _ (by decide +kernel)) ggL_converts_X7_weights
theorem dL_converts_0 : decode cL_converts 0 = .ok (.aload_n 0, 1) := by decide +kernel
theorem dL_converts_1 : decode cL_converts 1 = .ok (.invokevirtual 100, 3) := by decide +kernel
theorem dL_converts_4 : decode cL_converts 4 = .ok (.istore_n 1, 1) := by decide +kernel
theorem dL_converts_5 : decode cL_converts 5 = .ok (.aload_n 0, 1) := by decide +kernel
theorem dL_converts_6 : decode cL_converts 6 = .ok (.invokevirtual 91, 3) := by decide +kernel
theorem dL_converts_9 : decode cL_converts 9 = .ok (.istore_n 2, 1) := by decide +kernel
theorem dL_converts_10 : decode cL_converts 10 = .ok (.aload_n 0, 1) := by decide +kernel
theorem dL_converts_11 : decode cL_converts 11 = .ok (.invokevirtual 80, 3) := by decide +kernel
theorem dL_converts_14 : decode cL_converts 14 = .ok (.istore_n 3, 1) := by decide +kernel
theorem dL_converts_15 : decode cL_converts 15 = .ok (.iload_n 2, 1) := by decide +kernel
theorem dL_converts_16 : decode cL_converts 16 = .ok (.ifCond .ne 7, 3) := by decide +kernel
theorem dL_converts_19 : decode cL_converts 19 = .ok (.iconst (-1), 1) := by decide +kernel
theorem dL_converts_20 : decode cL_converts 20 = .ok (.goto 9, 3) := by decide +kernel
theorem dL_converts_23 : decode cL_converts 23 = .ok (.aload_n 0, 1) := by decide +kernel
theorem dL_converts_24 : decode cL_converts 24 = .ok (.iconst 1, 1) := by decide +kernel
theorem dL_converts_25 : decode cL_converts 25 = .ok (.iconst 0, 1) := by decide +kernel
theorem dL_converts_26 : decode cL_converts 26 = .ok (.invokestatic 94, 3) := by decide +kernel
theorem dL_converts_29 : decode cL_converts 29 = .ok (.istore 4, 2) := by decide +kernel
theorem dL_converts_31 : decode cL_converts 31 = .ok (.aload_n 0, 1) := by decide +kernel
theorem dL_converts_32 : decode cL_converts 32 = .ok (.invokevirtual 141, 3) := by decide +kernel
theorem dL_converts_35 : decode cL_converts 35 = .ok (.istore 5, 2) := by decide +kernel
theorem dL_converts_37 : decode cL_converts 37 = .ok (.aload_n 0, 1) := by decide +kernel
theorem dL_converts_38 : decode cL_converts 38 = .ok (.iconst 2, 1) := by decide +kernel
theorem dL_converts_39 : decode cL_converts 39 = .ok (.iconst 0, 1) := by decide +kernel
theorem dL_converts_40 : decode cL_converts 40 = .ok (.invokestatic 94, 3) := by decide +kernel
theorem dL_converts_43 : decode cL_converts 43 = .ok (.istore 6, 2) := by decide +kernel
theorem dL_converts_45 : decode cL_converts 45 = .ok (.iconst 0, 1) := by decide +kernel
theorem dL_converts_46 : decode cL_converts 46 = .ok (.istore 7, 2) := by decide +kernel
theorem dL_converts_48 : decode cL_converts 48 = .ok (.iconst 0, 1) := by decide +kernel
theorem dL_converts_49 : decode cL_converts 49 = .ok (.istore 8, 2) := by decide +kernel
theorem dL_converts_51 : decode cL_converts 51 = .ok (.iload 8, 2) := by decide +kernel
theorem dL_converts_53 : decode cL_converts 53 = .ok (.aload_n 0, 1) := by decide +kernel
theorem dL_converts_54 : decode cL_converts 54 = .ok (.invokevirtual 85, 3) := by decide +kernel
theorem dL_converts_57 : decode cL_converts 57 = .ok (.if_icmp .ge 36, 3) := by decide +kernel
theorem dL_converts_60 : decode cL_converts 60 = .ok (.iload 7, 2) := by decide +kernel
theorem dL_converts_62 : decode cL_converts 62 = .ok (.iload 6, 2) := by decide +kernel
theorem dL_converts_64 : decode cL_converts 64 = .ok (.iload 8, 2) := by decide +kernel
theorem dL_converts_66 : decode cL_converts 66 = .ok (.ishr, 1) := by decide +kernel
theorem dL_converts_67 : decode cL_converts 67 = .ok (.iconst 1, 1) := by decide +kernel
theorem dL_converts_68 : decode cL_converts 68 = .ok (.iand, 1) := by decide +kernel
theorem dL_converts_69 : decode cL_converts 69 = .ok (.iconst 1, 1) := by decide +kernel
theorem dL_converts_70 : decode cL_converts 70 = .ok (.if_icmp .ne 13, 3) := by decide +kernel
theorem dL_converts_73 : decode cL_converts 73 = .ok (.aload_n 0, 1) := by decide +kernel
theorem dL_converts_74 : decode cL_converts 74 = .ok (.iconst 0, 1) := by decide +kernel
theorem dL_converts_75 : decode cL_converts 75 = .ok (.iload 8, 2) := by decide +kernel
theorem dL_converts_77 : decode cL_converts 77 = .ok (.invokestatic 94, 3) := by decide +kernel
theorem dL_converts_80 : decode cL_converts 80 = .ok (.goto 4, 3) := by decide +kernel
theorem dL_converts_83 : decode cL_converts 83 = .ok (.iconst 0, 1) := by decide +kernel
theorem dL_converts_84 : decode cL_converts 84 = .ok (.iadd, 1) := by decide +kernel
theorem dL_converts_85 : decode cL_converts 85 = .ok (.istore 7, 2) := by decide +kernel
theorem dL_converts_87 : decode cL_converts 87 = .ok (.iinc 8 1, 3) := by decide +kernel
theorem dL_converts_90 : decode cL_converts 90 = .ok (.goto (-39), 3) := by decide +kernel
theorem dL_converts_93 : decode cL_converts 93 = .ok (.iload 5, 2) := by decide +kernel
theorem dL_converts_95 : decode cL_converts 95 = .ok (.iload_n 1, 1) := by decide +kernel
theorem dL_converts_96 : decode cL_converts 96 = .ok (.if_icmp .ne 85, 3) := by decide +kernel
theorem dL_converts_99 : decode cL_converts 99 = .ok (.iload 7, 2) := by decide +kernel
theorem dL_converts_101 : decode cL_converts 101 = .ok (.iload 5, 2) := by decide +kernel
theorem dL_converts_103 : decode cL_converts 103 = .ok (.if_icmp .ne 78, 3) := by decide +kernel
theorem dL_converts_106 : decode cL_converts 106 = .ok (.aload_n 0, 1) := by decide +kernel
theorem dL_converts_107 : decode cL_converts 107 = .ok (.iconst 1, 1) := by decide +kernel
theorem dL_converts_108 : decode cL_converts 108 = .ok (.iconst 0, 1) := by decide +kernel
theorem dL_converts_109 : decode cL_converts 109 = .ok (.invokestatic 94, 3) := by decide +kernel
theorem dL_converts_112 : decode cL_converts 112 = .ok (.iload 5, 2) := by decide +kernel
theorem dL_converts_114 : decode cL_converts 114 = .ok (.if_icmp .ne 67, 3) := by decide +kernel
theorem dL_converts_117 : decode cL_converts 117 = .ok (.aload_n 0, 1) := by decide +kernel
theorem dL_converts_118 : decode cL_converts 118 = .ok (.iconst 3, 1) := by decide +kernel
theorem dL_converts_119 : decode cL_converts 119 = .ok (.iconst 0, 1) := by decide +kernel
theorem dL_converts_120 : decode cL_converts 120 = .ok (.invokestatic 94, 3) := by decide +kernel
theorem dL_converts_123 : decode cL_converts 123 = .ok (.bipush 16, 2) := by decide +kernel
theorem dL_converts_125 : decode cL_converts 125 = .ok (.iload 5, 2) := by decide +kernel
theorem dL_converts_127 : decode cL_converts 127 = .ok (.imul, 1) := by decide +kernel
theorem dL_converts_128 : decode cL_converts 128 = .ok (.iload_n 3, 1) := by decide +kernel
theorem dL_converts_129 : decode cL_converts 129 = .ok (.isub, 1) := by decide +kernel
theorem dL_converts_130 : decode cL_converts 130 = .ok (.if_icmp .ne 51, 3) := by decide +kernel
theorem dL_converts_133 : decode cL_converts 133 = .ok (.aload_n 0, 1) := by decide +kernel
theorem dL_converts_134 : decode cL_converts 134 = .ok (.invokevirtual 91, 3) := by decide +kernel
theorem dL_converts_137 : decode cL_converts 137 = .ok (.iload_n 2, 1) := by decide +kernel
theorem dL_converts_138 : decode cL_converts 138 = .ok (.bipush 8, 2) := by decide +kernel
theorem dL_converts_140 : decode cL_converts 140 = .ok (.if_icmp .ge 9, 3) := by decide +kernel
theorem dL_converts_143 : decode cL_converts 143 = .ok (.iload_n 2, 1) := by decide +kernel
theorem dL_converts_144 : decode cL_converts 144 = .ok (.iconst 1, 1) := by decide +kernel
theorem dL_converts_145 : decode cL_converts 145 = .ok (.iadd, 1) := by decide +kernel
theorem dL_converts_146 : decode cL_converts 146 = .ok (.goto 5, 3) := by decide +kernel
theorem dL_converts_149 : decode cL_converts 149 = .ok (.bipush 8, 2) := by decide +kernel
theorem dL_converts_151 : decode cL_converts 151 = .ok (.if_icmp .ne 30, 3) := by decide +kernel
theorem dL_converts_154 : decode cL_converts 154 = .ok (.iload_n 2, 1) := by decide +kernel
theorem dL_converts_155 : decode cL_converts 155 = .ok (.ifCond .eq 14, 3) := by decide +kernel
theorem dL_converts_158 : decode cL_converts 158 = .ok (.aload_n 0, 1) := by decide +kernel
theorem dL_converts_159 : decode cL_converts 159 = .ok (.iconst 1, 1) := by decide +kernel
theorem dL_converts_160 : decode cL_converts 160 = .ok (.iconst 1, 1) := by decide +kernel
theorem dL_converts_161 : decode cL_converts 161 = .ok (.invokestatic 94, 3) := by decide +kernel
theorem dL_converts_164 : decode cL_converts 164 = .ok (.iload 4, 2) := by decide +kernel
theorem dL_converts_166 : decode cL_converts 166 = .ok (.if_icmp .ne 15, 3) := by decide +kernel
theorem dL_converts_169 : decode cL_converts 169 = .ok (.aload_n 0, 1) := by decide +kernel
theorem dL_converts_170 : decode cL_converts 170 = .ok (.invokevirtual 80, 3) := by decide +kernel
theorem dL_converts_173 : decode cL_converts 173 = .ok (.iload_n 3, 1) := by decide +kernel
theorem dL_converts_174 : decode cL_converts 174 = .ok (.if_icmp .gt 7, 3) := by decide +kernel
theorem dL_converts_177 : decode cL_converts 177 = .ok (.iconst 1, 1) := by decide +kernel
theorem dL_converts_178 : decode cL_converts 178 = .ok (.goto 4, 3) := by decide +kernel
theorem dL_converts_181 : decode cL_converts 181 = .ok (.iconst 0, 1) := by decide +kernel
theorem dL_converts_182 : decode cL_converts 182 = .ok (.ireturn, 1) := by decide +kernel
set_option maxRecDepth 20000 in
theorem ggL_weights_X7_weights : GoodIn wsL_weights wsX7_weights := goodIn_r _ [5, 6, 7, 8, 297, 298, 299, 300, 301, 302, 303, 304, 305, 306, 307, 308, 309, 310] (by decide +kernel) (by decide +kernel)
set_option maxRecDepth 20000 in
theorem gL_weights_X7_weights : GoodIn wsL_weights (wsV RL 85 RX7 yX7_weights wsX7_weights) := goodIn_app (goodIn_of _ (by decide +kernel)) ggL_weights_X7_weights
set_option maxRecDepth 20000 in
theorem ggL_weights_X7_total : GoodIn wsL_weights wsX7_total := goodIn_r _ [12, 6, 7, 13, 14, 15, 16, 17, 18, 19, 297, 298, 299, 300, 301, 302, 303, 304, 305, 306, 307, 308, 309, 310] (by decide +kernel) (by decide +kernel)
set_option maxRecDepth 20000 in
theorem gL_weights_X7_total : GoodIn wsL_weights (wsV RL 88 RX7 yX7_total wsX7_total) := goodIn_app (goodIn_of _ (by decide +kernel)) ggL_weights_X7_total
set_option maxRecDepth 20000 in
theorem ggL_weights_L_ask : GoodIn wsL_weights wsL_ask := goodIn_ca (goodIn_ca (goodIn_r _ [23, 24, 25, 26, 27, 28, 29, 30, 4, 31, 6, 7, 8, 32, 33, 34, 35, 36, 37, 38, 39, 40, 41, 42, 43, 44, 45, 46, 47, 48, 49, 50, 51, 52, 53, 54, 55, 56, 57, 58, 59, 60, 61, 62, 63, 64, 65, 66, 67, 68, 69, 70, 71, 72, 73, 74, 75, 76, 77, 78, 79, 80, 81, 82, 83, 84, 85, 86, 87, 88, 89, 90, 91, 92, 93, 94, 95, 96, 97, 98, 99, 100, 101, 102, 103, 104, 105, 106, 107, 108, 297, 298, 299, 300, 301, 302, 303, 304, 305, 306, 307, 308, 309, 310, 311, 312, 313, 314, 315, 316, 317] (by decide +kernel) (by decide +kernel)) (goodIn_sub (fun _ h => List.mem_cons_of_mem _ (List.mem_append_left _ (List.mem_append_left _ (List.mem_append_right _ h)))) (by decide +kernel))) (goodIn_sub (fun _ h => List.mem_cons_of_mem _ (List.mem_append_left _ (List.mem_append_right _ h))) (by decide +kernel))
set_option maxRecDepth 20000 in
theorem gL_weights_L_ask : GoodIn wsL_weights (va_wsS RL 94 yL_ask wsL_ask) := goodIn_app (goodIn_of _ (by decide +kernel)) ggL_weights_L_ask
set_option maxRecDepth 20000 in
theorem ggL_weights_L_size : GoodIn wsL_weights wsL_size := goodIn_r _ [111] (by decide +kernel) (by decide +kernel)
set_option maxRecDepth 20000 in
theorem gL_weights_L_size : GoodIn wsL_weights (va_wsS RL 144 yL_size wsL_size) := goodIn_app (goodIn_of _ (by decide +kernel)) ggL_weights_L_size
set_option maxRecDepth 20000 in
theorem ggL_weights_L_call : GoodIn wsL_weights wsL_call := goodIn_ca (goodIn_ca (goodIn_ca (goodIn_ca (goodIn_ca (goodIn_ca (goodIn_ca (goodIn_ca (goodIn_ca (goodIn_ca (goodIn_r _ [114, 24, 25, 115, 116, 117, 118, 4, 119, 65, 120, 6, 99, 105, 66, 67, 68, 69, 70, 121, 122, 123, 124, 125, 126] (by decide +kernel) (by decide +kernel)) (goodIn_app (goodIn_r _ [127, 128, 129, 130, 103, 131, 132, 133, 134, 135, 136, 137, 138, 139, 140, 141, 142, 143, 144, 145, 146, 16, 147, 19] (by decide +kernel) (by decide +kernel)) (goodIn_app (goodIn_r _ [148, 149, 150, 151, 18, 152, 153, 154, 57, 155, 60, 156, 157, 59, 158, 106, 107, 108, 159, 160, 161, 162, 163, 164] (by decide +kernel) (by decide +kernel)) (goodIn_app (goodIn_r _ [87, 88, 165, 166, 167, 168, 169, 170, 171, 172, 173, 174, 175, 176, 177, 178, 33, 34, 35, 36, 37, 179, 89, 90] (by decide +kernel) (by decide +kernel)) (goodIn_app (goodIn_r _ [180, 181, 182, 183, 7, 8, 32, 184, 185, 186, 187, 188, 189, 190, 191, 192, 193, 194, 195, 196, 197, 198, 199, 200] (by decide +kernel) (by decide +kernel)) (goodIn_app (goodIn_r _ [201, 202, 203, 204, 205, 206, 207, 208, 209, 210, 211, 212, 213, 214, 215, 216, 217, 218, 219, 220, 221, 222, 223, 224] (by decide +kernel) (by decide +kernel)) (goodIn_r _ [225, 226, 227, 228, 229, 230, 231, 232, 233, 234, 235, 236, 237, 238, 239, 240, 241, 242, 243, 244] (by decide +kernel) (by decide +kernel)))))))) (goodIn_r _ [297, 298, 299, 300, 301] (by decide +kernel) (by decide +kernel))) (goodIn_r _ [302, 303, 304, 305, 306, 307, 308] (by decide +kernel) (by decide +kernel))) (goodIn_r _ [318, 319, 320] (by decide +kernel) (by decide +kernel))) (goodIn_r _ [309, 310] (by decide +kernel) (by decide +kernel))) (goodIn_r _ [311, 312, 313, 314] (by decide +kernel) (by decide +kernel))) (goodIn_r _ [321, 322] (by decide +kernel) (by decide +kernel))) (goodIn_sub (fun _ h => List.mem_cons_of_mem _ (List.mem_append_left _ (List.mem_append_right _ h))) (by decide +kernel))) (goodIn_sub (fun _ h => List.mem_cons_of_mem _ (List.mem_append_left _ (List.mem_append_left _ (List.mem_append_right _ h)))) (by decide +kernel))) (goodIn_sub (fun _ h => List.mem_cons_of_mem _ (List.mem_append_right _ h)) (by decide +kernel))
set_option maxRecDepth 20000 in
theorem gL_weights_L_call : GoodIn wsL_weights (va_wsS RL 117 yL_call wsL_call) := goodIn_app (goodIn_of _ (by decide +kernel)) ggL_weights_L_call
set_option maxRecDepth 20000 in
theorem ggL_weights_X7_sums : GoodIn wsL_weights wsX7_sums := goodIn_r _ [248, 249, 6, 7, 250, 251, 252, 253, 254, 255, 256, 257, 258, 259, 260, 261, 262, 263, 264, 265, 266, 267, 268, 269, 270, 271, 272, 297, 298, 299, 300, 301, 302, 303, 304, 305, 306, 307, 308, 323, 309, 310] (by decide +kernel) (by decide +kernel)
set_option maxRecDepth 20000 in
theorem gL_weights_X7_sums : GoodIn wsL_weights (wsV RL 108 RX7 yX7_sums wsX7_sums) := goodIn_app (goodIn_of _ (by decide +kernel)) ggL_weights_X7_sums
set_option maxRecDepth 20000 in
theorem ggL_weights_X7_leastMissing : GoodIn wsL_weights wsX7_leastMissing := goodIn_r _ [276, 249, 6, 7, 250, 251, 252, 253, 254, 255, 256, 257, 258, 259, 260, 261, 277, 278, 279, 280, 297, 298, 299, 300, 301, 302, 303, 304, 305, 306, 307, 308, 323, 309, 310] (by decide +kernel) (by decide +kernel)
set_option maxRecDepth 20000 in
theorem gL_weights_X7_leastMissing : GoodIn wsL_weights (wsV RL 104 RX7 yX7_leastMissing wsX7_leastMissing) := goodIn_app (goodIn_of _ (by decide +kernel)) ggL_weights_X7_leastMissing
set_option maxRecDepth 20000 in
theorem ggL_weights_X7_sortWeights : GoodIn wsL_weights wsX7_sortWeights := goodIn_r _ [284, 120, 6, 7, 121, 122, 123, 124, 125, 126, 127, 128, 129, 130, 103, 131, 132, 133, 134, 135, 136, 137, 138, 139, 140, 141, 142, 143, 144, 145, 146, 16, 147, 19, 148, 149, 150, 151, 18, 152, 153, 154, 57, 155, 60, 156, 157, 59, 158, 285, 286, 287, 288, 289, 290, 291, 292, 293, 294, 295, 296, 297, 298, 299, 300, 301, 302, 303, 304, 305, 306, 307, 308, 318, 319, 320, 309, 310, 311, 312, 313, 314] (by decide +kernel) (by decide +kernel)
set_option maxRecDepth 20000 in
theorem gL_weights_X7_sortWeights : GoodIn wsL_weights (wsV RL 147 RX7 yX7_sortWeights wsX7_sortWeights) := goodIn_app (goodIn_of _ (by decide +kernel)) ggL_weights_X7_sortWeights
theorem dL_weights_0 : decode cL_weights 0 = .ok (.aload_n 0, 1) := by decide +kernel
theorem dL_weights_1 : decode cL_weights 1 = .ok (.invokevirtual 85, 3) := by decide +kernel
theorem dL_weights_4 : decode cL_weights 4 = .ok (.istore_n 3, 1) := by decide +kernel
theorem dL_weights_5 : decode cL_weights 5 = .ok (.aload_n 0, 1) := by decide +kernel
theorem dL_weights_6 : decode cL_weights 6 = .ok (.invokevirtual 88, 3) := by decide +kernel
theorem dL_weights_9 : decode cL_weights 9 = .ok (.istore 4, 2) := by decide +kernel
theorem dL_weights_11 : decode cL_weights 11 = .ok (.iload_n 2, 1) := by decide +kernel
theorem dL_weights_12 : decode cL_weights 12 = .ok (.iload_n 3, 1) := by decide +kernel
theorem dL_weights_13 : decode cL_weights 13 = .ok (.irem, 1) := by decide +kernel
theorem dL_weights_14 : decode cL_weights 14 = .ok (.istore 5, 2) := by decide +kernel
theorem dL_weights_16 : decode cL_weights 16 = .ok (.aload_n 0, 1) := by decide +kernel
theorem dL_weights_17 : decode cL_weights 17 = .ok (.iconst 0, 1) := by decide +kernel
theorem dL_weights_18 : decode cL_weights 18 = .ok (.iload 5, 2) := by decide +kernel
theorem dL_weights_20 : decode cL_weights 20 = .ok (.invokestatic 94, 3) := by decide +kernel
theorem dL_weights_23 : decode cL_weights 23 = .ok (.istore 6, 2) := by decide +kernel
theorem dL_weights_25 : decode cL_weights 25 = .ok (.iload_n 2, 1) := by decide +kernel
theorem dL_weights_26 : decode cL_weights 26 = .ok (.bipush 12, 2) := by decide +kernel
theorem dL_weights_28 : decode cL_weights 28 = .ok (.idiv, 1) := by decide +kernel
theorem dL_weights_29 : decode cL_weights 29 = .ok (.invokestatic 144, 3) := by decide +kernel
theorem dL_weights_32 : decode cL_weights 32 = .ok (.istore 7, 2) := by decide +kernel
theorem dL_weights_34 : decode cL_weights 34 = .ok (.iload_n 1, 1) := by decide +kernel
theorem dL_weights_35 : decode cL_weights 35 = .ok (.ifCond .ne 50, 3) := by decide +kernel
theorem dL_weights_38 : decode cL_weights 38 = .ok (.aload_n 0, 1) := by decide +kernel
theorem dL_weights_39 : decode cL_weights 39 = .ok (.iconst 5, 1) := by decide +kernel
theorem dL_weights_40 : decode cL_weights 40 = .ok (.iload 5, 2) := by decide +kernel
theorem dL_weights_42 : decode cL_weights 42 = .ok (.iload 7, 2) := by decide +kernel
theorem dL_weights_44 : decode cL_weights 44 = .ok (.invokestatic 117, 3) := by decide +kernel
theorem dL_weights_47 : decode cL_weights 47 = .ok (.iload 6, 2) := by decide +kernel
theorem dL_weights_49 : decode cL_weights 49 = .ok (.if_icmp .ne 34, 3) := by decide +kernel
theorem dL_weights_52 : decode cL_weights 52 = .ok (.aload_n 0, 1) := by decide +kernel
theorem dL_weights_53 : decode cL_weights 53 = .ok (.iconst 0, 1) := by decide +kernel
theorem dL_weights_54 : decode cL_weights 54 = .ok (.iload 5, 2) := by decide +kernel
theorem dL_weights_56 : decode cL_weights 56 = .ok (.invokestatic 94, 3) := by decide +kernel
theorem dL_weights_59 : decode cL_weights 59 = .ok (.iload 7, 2) := by decide +kernel
theorem dL_weights_61 : decode cL_weights 61 = .ok (.if_icmp .ne 22, 3) := by decide +kernel
theorem dL_weights_64 : decode cL_weights 64 = .ok (.aload_n 0, 1) := by decide +kernel
theorem dL_weights_65 : decode cL_weights 65 = .ok (.invokevirtual 88, 3) := by decide +kernel
theorem dL_weights_68 : decode cL_weights 68 = .ok (.iload 4, 2) := by decide +kernel
theorem dL_weights_70 : decode cL_weights 70 = .ok (.iload 6, 2) := by decide +kernel
theorem dL_weights_72 : decode cL_weights 72 = .ok (.isub, 1) := by decide +kernel
theorem dL_weights_73 : decode cL_weights 73 = .ok (.iload 7, 2) := by decide +kernel
theorem dL_weights_75 : decode cL_weights 75 = .ok (.iadd, 1) := by decide +kernel
theorem dL_weights_76 : decode cL_weights 76 = .ok (.if_icmp .ne 7, 3) := by decide +kernel
theorem dL_weights_79 : decode cL_weights 79 = .ok (.iconst 1, 1) := by decide +kernel
theorem dL_weights_80 : decode cL_weights 80 = .ok (.goto 4, 3) := by decide +kernel
theorem dL_weights_83 : decode cL_weights 83 = .ok (.iconst 0, 1) := by decide +kernel
theorem dL_weights_84 : decode cL_weights 84 = .ok (.ireturn, 1) := by decide +kernel
theorem dL_weights_85 : decode cL_weights 85 = .ok (.iload_n 1, 1) := by decide +kernel
theorem dL_weights_86 : decode cL_weights 86 = .ok (.iconst 1, 1) := by decide +kernel
theorem dL_weights_87 : decode cL_weights 87 = .ok (.if_icmp .ne 85, 3) := by decide +kernel
theorem dL_weights_90 : decode cL_weights 90 = .ok (.iload_n 3, 1) := by decide +kernel
theorem dL_weights_91 : decode cL_weights 91 = .ok (.bipush 12, 2) := by decide +kernel
theorem dL_weights_93 : decode cL_weights 93 = .ok (.if_icmp .ge 79, 3) := by decide +kernel
theorem dL_weights_96 : decode cL_weights 96 = .ok (.iload_n 2, 1) := by decide +kernel
theorem dL_weights_97 : decode cL_weights 97 = .ok (.iload_n 3, 1) := by decide +kernel
theorem dL_weights_98 : decode cL_weights 98 = .ok (.iconst 1, 1) := by decide +kernel
theorem dL_weights_99 : decode cL_weights 99 = .ok (.iadd, 1) := by decide +kernel
theorem dL_weights_100 : decode cL_weights 100 = .ok (.irem, 1) := by decide +kernel
theorem dL_weights_101 : decode cL_weights 101 = .ok (.istore 8, 2) := by decide +kernel
theorem dL_weights_103 : decode cL_weights 103 = .ok (.aload_n 0, 1) := by decide +kernel
theorem dL_weights_104 : decode cL_weights 104 = .ok (.iconst 0, 1) := by decide +kernel
theorem dL_weights_105 : decode cL_weights 105 = .ok (.iload 8, 2) := by decide +kernel
theorem dL_weights_107 : decode cL_weights 107 = .ok (.invokestatic 94, 3) := by decide +kernel
theorem dL_weights_110 : decode cL_weights 110 = .ok (.istore 9, 2) := by decide +kernel
theorem dL_weights_112 : decode cL_weights 112 = .ok (.aload_n 0, 1) := by decide +kernel
theorem dL_weights_113 : decode cL_weights 113 = .ok (.bipush 6, 2) := by decide +kernel
theorem dL_weights_115 : decode cL_weights 115 = .ok (.iload 8, 2) := by decide +kernel
theorem dL_weights_117 : decode cL_weights 117 = .ok (.iload 7, 2) := by decide +kernel
theorem dL_weights_119 : decode cL_weights 119 = .ok (.invokestatic 117, 3) := by decide +kernel
theorem dL_weights_122 : decode cL_weights 122 = .ok (.iload_n 3, 1) := by decide +kernel
theorem dL_weights_123 : decode cL_weights 123 = .ok (.iconst 1, 1) := by decide +kernel
theorem dL_weights_124 : decode cL_weights 124 = .ok (.iadd, 1) := by decide +kernel
theorem dL_weights_125 : decode cL_weights 125 = .ok (.if_icmp .ne 45, 3) := by decide +kernel
theorem dL_weights_128 : decode cL_weights 128 = .ok (.aload_n 0, 1) := by decide +kernel
theorem dL_weights_129 : decode cL_weights 129 = .ok (.iconst 0, 1) := by decide +kernel
theorem dL_weights_130 : decode cL_weights 130 = .ok (.iload 8, 2) := by decide +kernel
theorem dL_weights_132 : decode cL_weights 132 = .ok (.invokestatic 94, 3) := by decide +kernel
theorem dL_weights_135 : decode cL_weights 135 = .ok (.iload 7, 2) := by decide +kernel
theorem dL_weights_137 : decode cL_weights 137 = .ok (.if_icmp .ne 33, 3) := by decide +kernel
theorem dL_weights_140 : decode cL_weights 140 = .ok (.aload_n 0, 1) := by decide +kernel
theorem dL_weights_141 : decode cL_weights 141 = .ok (.iconst 0, 1) := by decide +kernel
theorem dL_weights_142 : decode cL_weights 142 = .ok (.iload 8, 2) := by decide +kernel
theorem dL_weights_144 : decode cL_weights 144 = .ok (.iconst 1, 1) := by decide +kernel
theorem dL_weights_145 : decode cL_weights 145 = .ok (.iadd, 1) := by decide +kernel
theorem dL_weights_146 : decode cL_weights 146 = .ok (.invokestatic 94, 3) := by decide +kernel
theorem dL_weights_149 : decode cL_weights 149 = .ok (.iload 9, 2) := by decide +kernel
theorem dL_weights_151 : decode cL_weights 151 = .ok (.if_icmp .ne 19, 3) := by decide +kernel
theorem dL_weights_154 : decode cL_weights 154 = .ok (.aload_n 0, 1) := by decide +kernel
theorem dL_weights_155 : decode cL_weights 155 = .ok (.invokevirtual 88, 3) := by decide +kernel
theorem dL_weights_158 : decode cL_weights 158 = .ok (.iload 4, 2) := by decide +kernel
theorem dL_weights_160 : decode cL_weights 160 = .ok (.iload 7, 2) := by decide +kernel
theorem dL_weights_162 : decode cL_weights 162 = .ok (.iadd, 1) := by decide +kernel
theorem dL_weights_163 : decode cL_weights 163 = .ok (.if_icmp .ne 7, 3) := by decide +kernel
theorem dL_weights_166 : decode cL_weights 166 = .ok (.iconst 1, 1) := by decide +kernel
theorem dL_weights_167 : decode cL_weights 167 = .ok (.goto 4, 3) := by decide +kernel
theorem dL_weights_170 : decode cL_weights 170 = .ok (.iconst 0, 1) := by decide +kernel
theorem dL_weights_171 : decode cL_weights 171 = .ok (.ireturn, 1) := by decide +kernel
theorem dL_weights_172 : decode cL_weights 172 = .ok (.iload_n 1, 1) := by decide +kernel
theorem dL_weights_173 : decode cL_weights 173 = .ok (.iconst 2, 1) := by decide +kernel
theorem dL_weights_174 : decode cL_weights 174 = .ok (.if_icmp .ne 73, 3) := by decide +kernel
theorem dL_weights_177 : decode cL_weights 177 = .ok (.iload_n 3, 1) := by decide +kernel
theorem dL_weights_178 : decode cL_weights 178 = .ok (.iconst 1, 1) := by decide +kernel
theorem dL_weights_179 : decode cL_weights 179 = .ok (.if_icmp .le 68, 3) := by decide +kernel
theorem dL_weights_182 : decode cL_weights 182 = .ok (.aload_n 0, 1) := by decide +kernel
theorem dL_weights_183 : decode cL_weights 183 = .ok (.iconst 0, 1) := by decide +kernel
theorem dL_weights_184 : decode cL_weights 184 = .ok (.iload 5, 2) := by decide +kernel
theorem dL_weights_186 : decode cL_weights 186 = .ok (.iconst 1, 1) := by decide +kernel
theorem dL_weights_187 : decode cL_weights 187 = .ok (.iadd, 1) := by decide +kernel
theorem dL_weights_188 : decode cL_weights 188 = .ok (.invokestatic 94, 3) := by decide +kernel
theorem dL_weights_191 : decode cL_weights 191 = .ok (.istore 8, 2) := by decide +kernel
theorem dL_weights_193 : decode cL_weights 193 = .ok (.aload_n 0, 1) := by decide +kernel
theorem dL_weights_194 : decode cL_weights 194 = .ok (.bipush 7, 2) := by decide +kernel
theorem dL_weights_196 : decode cL_weights 196 = .ok (.iload 5, 2) := by decide +kernel
theorem dL_weights_198 : decode cL_weights 198 = .ok (.iconst 0, 1) := by decide +kernel
theorem dL_weights_199 : decode cL_weights 199 = .ok (.invokestatic 117, 3) := by decide +kernel
theorem dL_weights_202 : decode cL_weights 202 = .ok (.iload 6, 2) := by decide +kernel
theorem dL_weights_204 : decode cL_weights 204 = .ok (.if_icmp .ne 41, 3) := by decide +kernel
theorem dL_weights_207 : decode cL_weights 207 = .ok (.aload_n 0, 1) := by decide +kernel
theorem dL_weights_208 : decode cL_weights 208 = .ok (.invokevirtual 85, 3) := by decide +kernel
theorem dL_weights_211 : decode cL_weights 211 = .ok (.iload_n 3, 1) := by decide +kernel
theorem dL_weights_212 : decode cL_weights 212 = .ok (.iconst 1, 1) := by decide +kernel
theorem dL_weights_213 : decode cL_weights 213 = .ok (.isub, 1) := by decide +kernel
theorem dL_weights_214 : decode cL_weights 214 = .ok (.if_icmp .ne 31, 3) := by decide +kernel
theorem dL_weights_217 : decode cL_weights 217 = .ok (.aload_n 0, 1) := by decide +kernel
theorem dL_weights_218 : decode cL_weights 218 = .ok (.iconst 0, 1) := by decide +kernel
theorem dL_weights_219 : decode cL_weights 219 = .ok (.iload 5, 2) := by decide +kernel
theorem dL_weights_221 : decode cL_weights 221 = .ok (.invokestatic 94, 3) := by decide +kernel
theorem dL_weights_224 : decode cL_weights 224 = .ok (.iload 8, 2) := by decide +kernel
theorem dL_weights_226 : decode cL_weights 226 = .ok (.if_icmp .ne 19, 3) := by decide +kernel
theorem dL_weights_229 : decode cL_weights 229 = .ok (.aload_n 0, 1) := by decide +kernel
theorem dL_weights_230 : decode cL_weights 230 = .ok (.invokevirtual 88, 3) := by decide +kernel
theorem dL_weights_233 : decode cL_weights 233 = .ok (.iload 4, 2) := by decide +kernel
theorem dL_weights_235 : decode cL_weights 235 = .ok (.iload 6, 2) := by decide +kernel
theorem dL_weights_237 : decode cL_weights 237 = .ok (.isub, 1) := by decide +kernel
theorem dL_weights_238 : decode cL_weights 238 = .ok (.if_icmp .ne 7, 3) := by decide +kernel
theorem dL_weights_241 : decode cL_weights 241 = .ok (.iconst 1, 1) := by decide +kernel
theorem dL_weights_242 : decode cL_weights 242 = .ok (.goto 4, 3) := by decide +kernel
theorem dL_weights_245 : decode cL_weights 245 = .ok (.iconst 0, 1) := by decide +kernel
theorem dL_weights_246 : decode cL_weights 246 = .ok (.ireturn, 1) := by decide +kernel
theorem dL_weights_247 : decode cL_weights 247 = .ok (.aload_n 0, 1) := by decide +kernel
theorem dL_weights_248 : decode cL_weights 248 = .ok (.invokevirtual 108, 3) := by decide +kernel
theorem dL_weights_251 : decode cL_weights 251 = .ok (.istore 8, 2) := by decide +kernel
theorem dL_weights_253 : decode cL_weights 253 = .ok (.aload_n 0, 1) := by decide +kernel
theorem dL_weights_254 : decode cL_weights 254 = .ok (.invokevirtual 104, 3) := by decide +kernel
theorem dL_weights_257 : decode cL_weights 257 = .ok (.istore 9, 2) := by decide +kernel
theorem dL_weights_259 : decode cL_weights 259 = .ok (.aload_n 0, 1) := by decide +kernel
theorem dL_weights_260 : decode cL_weights 260 = .ok (.invokevirtual 147, 3) := by decide +kernel
theorem dL_weights_263 : decode cL_weights 263 = .ok (.istore 10, 2) := by decide +kernel
theorem dL_weights_265 : decode cL_weights 265 = .ok (.iload 10, 2) := by decide +kernel
theorem dL_weights_267 : decode cL_weights 267 = .ok (.ifCond .lt 46, 3) := by decide +kernel
theorem dL_weights_270 : decode cL_weights 270 = .ok (.iload 10, 2) := by decide +kernel
theorem dL_weights_272 : decode cL_weights 272 = .ok (.iload_n 3, 1) := by decide +kernel
theorem dL_weights_273 : decode cL_weights 273 = .ok (.if_icmp .gt 40, 3) := by decide +kernel
theorem dL_weights_276 : decode cL_weights 276 = .ok (.iload 10, 2) := by decide +kernel
theorem dL_weights_278 : decode cL_weights 278 = .ok (.iconst 1, 1) := by decide +kernel
theorem dL_weights_279 : decode cL_weights 279 = .ok (.if_icmp .eq 34, 3) := by decide +kernel
theorem dL_weights_282 : decode cL_weights 282 = .ok (.aload_n 0, 1) := by decide +kernel
theorem dL_weights_283 : decode cL_weights 283 = .ok (.invokevirtual 88, 3) := by decide +kernel
theorem dL_weights_286 : decode cL_weights 286 = .ok (.iload 4, 2) := by decide +kernel
theorem dL_weights_288 : decode cL_weights 288 = .ok (.if_icmp .ne 25, 3) := by decide +kernel
theorem dL_weights_291 : decode cL_weights 291 = .ok (.aload_n 0, 1) := by decide +kernel
theorem dL_weights_292 : decode cL_weights 292 = .ok (.invokevirtual 108, 3) := by decide +kernel
theorem dL_weights_295 : decode cL_weights 295 = .ok (.iload 8, 2) := by decide +kernel
theorem dL_weights_297 : decode cL_weights 297 = .ok (.if_icmp .ne 16, 3) := by decide +kernel
theorem dL_weights_300 : decode cL_weights 300 = .ok (.aload_n 0, 1) := by decide +kernel
theorem dL_weights_301 : decode cL_weights 301 = .ok (.invokevirtual 104, 3) := by decide +kernel
theorem dL_weights_304 : decode cL_weights 304 = .ok (.iload 9, 2) := by decide +kernel
theorem dL_weights_306 : decode cL_weights 306 = .ok (.if_icmp .ne 7, 3) := by decide +kernel
theorem dL_weights_309 : decode cL_weights 309 = .ok (.iconst 1, 1) := by decide +kernel
theorem dL_weights_310 : decode cL_weights 310 = .ok (.goto 4, 3) := by decide +kernel
theorem dL_weights_313 : decode cL_weights 313 = .ok (.iconst 0, 1) := by decide +kernel
theorem dL_weights_314 : decode cL_weights 314 = .ok (.istore 11, 2) := by decide +kernel
theorem dL_weights_316 : decode cL_weights 316 = .ok (.iconst 1, 1) := by decide +kernel
theorem dL_weights_317 : decode cL_weights 317 = .ok (.istore 12, 2) := by decide +kernel
theorem dL_weights_319 : decode cL_weights 319 = .ok (.iload 12, 2) := by decide +kernel
theorem dL_weights_321 : decode cL_weights 321 = .ok (.iload_n 3, 1) := by decide +kernel
theorem dL_weights_322 : decode cL_weights 322 = .ok (.if_icmp .ge 40, 3) := by decide +kernel
theorem dL_weights_325 : decode cL_weights 325 = .ok (.iload 11, 2) := by decide +kernel
theorem dL_weights_327 : decode cL_weights 327 = .ok (.ifCond .eq 35, 3) := by decide +kernel
theorem dL_weights_330 : decode cL_weights 330 = .ok (.aload_n 0, 1) := by decide +kernel
theorem dL_weights_331 : decode cL_weights 331 = .ok (.iconst 0, 1) := by decide +kernel
theorem dL_weights_332 : decode cL_weights 332 = .ok (.iload 12, 2) := by decide +kernel
theorem dL_weights_334 : decode cL_weights 334 = .ok (.iconst 1, 1) := by decide +kernel
theorem dL_weights_335 : decode cL_weights 335 = .ok (.isub, 1) := by decide +kernel
theorem dL_weights_336 : decode cL_weights 336 = .ok (.invokestatic 94, 3) := by decide +kernel
theorem dL_weights_339 : decode cL_weights 339 = .ok (.aload_n 0, 1) := by decide +kernel
theorem dL_weights_340 : decode cL_weights 340 = .ok (.iconst 0, 1) := by decide +kernel
theorem dL_weights_341 : decode cL_weights 341 = .ok (.iload 12, 2) := by decide +kernel
theorem dL_weights_343 : decode cL_weights 343 = .ok (.invokestatic 94, 3) := by decide +kernel
theorem dL_weights_346 : decode cL_weights 346 = .ok (.if_icmp .lt 7, 3) := by decide +kernel
theorem dL_weights_349 : decode cL_weights 349 = .ok (.iconst 1, 1) := by decide +kernel
theorem dL_weights_350 : decode cL_weights 350 = .ok (.goto 4, 3) := by decide +kernel
theorem dL_weights_353 : decode cL_weights 353 = .ok (.iconst 0, 1) := by decide +kernel
theorem dL_weights_354 : decode cL_weights 354 = .ok (.istore 11, 2) := by decide +kernel
theorem dL_weights_356 : decode cL_weights 356 = .ok (.iinc 12 1, 3) := by decide +kernel
theorem dL_weights_359 : decode cL_weights 359 = .ok (.goto (-40), 3) := by decide +kernel
theorem dL_weights_362 : decode cL_weights 362 = .ok (.iload 11, 2) := by decide +kernel
theorem dL_weights_364 : decode cL_weights 364 = .ok (.ireturn, 1) := by decide +kernel
set_option maxRecDepth 20000 in
theorem ggL_law_X7_init : GoodIn wsL_law wsX7_init := goodIn_r _ [5, 6, 7, 8, 9, 10, 11, 12, 13, 14, 15, 16, 17, 18, 19, 20, 21, 22, 23, 24, 25, 26, 27, 28, 29, 30, 31, 32, 33, 34, 35, 36, 37, 38, 39, 40, 41, 42, 43, 44, 45, 46, 47, 48, 49, 50, 51, 52, 53, 54, 55, 56, 57, 58, 59, 60, 61, 62, 63, 64, 65, 66, 67, 68, 69, 70, 71, 72, 73, 74, 75, 76, 77, 78, 79, 80, 81, 82, 83, 84, 85, 86, 87, 88, 457, 458, 459, 460, 461, 462, 463, 452, 453, 454, 455, 456, 464, 465, 466, 467, 468, 469, 470, 471, 472, 473, 474, 475, 476, 477, 478] (by decide +kernel) (by decide +kernel)
set_option maxRecDepth 20000 in
theorem gL_law_X7_init : GoodIn wsL_law (wsX7_init) := ggL_law_X7_init
set_option maxRecDepth 20000 in
theorem ggL_law_L_call : GoodIn wsL_law wsL_call := goodIn_ca (goodIn_ca (goodIn_ca (goodIn_ca (goodIn_ca (goodIn_ca (goodIn_ca (goodIn_ca (goodIn_ca (goodIn_ca (goodIn_r _ [92, 93, 94, 95, 96, 97, 98, 2, 99, 100, 16, 12, 101, 102, 103, 104, 105, 106, 107, 108, 109, 110, 15, 111, 69] (by decide +kernel) (by decide +kernel)) (goodIn_app (goodIn_r _ [70, 71, 112, 113, 114, 115, 116, 117, 118, 11, 119, 32, 33, 34, 35, 36, 40, 44, 120, 121, 122, 39, 123, 50] (by decide +kernel) (by decide +kernel)) (goodIn_app (goodIn_r _ [53, 54, 55, 56, 52, 124, 125, 126, 43, 127, 60, 128, 61, 62, 63, 129, 130, 131, 132, 133, 134, 135, 136, 137] (by decide +kernel) (by decide +kernel)) (goodIn_app (goodIn_r _ [138, 139, 140, 141, 142, 143, 144, 145, 146, 147, 148, 149, 150, 151, 152, 153, 154, 155, 156, 157, 158, 159, 160, 161] (by decide +kernel) (by decide +kernel)) (goodIn_app (goodIn_r _ [162, 163, 164, 165, 166, 167, 168, 169, 170, 171, 172, 173, 174, 175, 176, 177, 178, 179, 180, 181, 182, 183, 184, 185] (by decide +kernel) (by decide +kernel)) (goodIn_app (goodIn_r _ [186, 187, 188, 189, 190, 20, 191, 192, 193, 194, 19, 195, 76, 77, 196, 197, 198, 199, 200, 201, 202, 203, 204, 205] (by decide +kernel) (by decide +kernel)) (goodIn_r _ [206, 207, 208, 209, 210, 211, 212, 213, 214, 215, 216, 217, 218, 219, 220, 221, 222, 223, 224, 225] (by decide +kernel) (by decide +kernel)))))))) (goodIn_r _ [452, 453, 454, 455, 456] (by decide +kernel) (by decide +kernel))) (goodIn_r _ [457, 458, 459, 460, 461, 462, 463] (by decide +kernel) (by decide +kernel))) (goodIn_r _ [464, 465, 466] (by decide +kernel) (by decide +kernel))) (goodIn_r _ [473, 474] (by decide +kernel) (by decide +kernel))) (goodIn_r _ [475, 476, 477, 478] (by decide +kernel) (by decide +kernel))) (goodIn_r _ [467, 468] (by decide +kernel) (by decide +kernel))) (goodIn_sub (fun _ h => List.mem_append_left _ (List.mem_append_left _ (List.mem_append_right _ h))) (by decide +kernel))) (goodIn_sub (fun _ h => List.mem_append_left _ (List.mem_append_right _ h)) (by decide +kernel))) (goodIn_sub (fun _ h => List.mem_append_right _ h) (by decide +kernel))
set_option maxRecDepth 20000 in
theorem gL_law_L_call : GoodIn wsL_law (va_wsS RL 117 yL_call wsL_call) := goodIn_app (goodIn_of _ (by decide +kernel)) ggL_law_L_call
set_option maxRecDepth 20000 in
theorem ggL_law_X7_voltage : GoodIn wsL_law wsX7_voltage := goodIn_r _ [229, 12, 101, 452, 453, 454, 455, 456, 457, 458, 459, 460, 461, 462, 463] (by decide +kernel) (by decide +kernel)
set_option maxRecDepth 20000 in
theorem gL_law_X7_voltage : GoodIn wsL_law (wsV RL 80 RX7 yX7_voltage wsX7_voltage) := goodIn_app (goodIn_of _ (by decide +kernel)) ggL_law_X7_voltage
set_option maxRecDepth 20000 in
theorem ggL_law_X7_total : GoodIn wsL_law wsX7_total := goodIn_r _ [233, 12, 166, 234, 235, 236, 39, 237, 52, 50, 452, 453, 454, 455, 456, 457, 458, 459, 460, 461, 462, 463, 473, 474] (by decide +kernel) (by decide +kernel)
set_option maxRecDepth 20000 in
theorem gL_law_X7_total : GoodIn wsL_law (wsV RL 88 RX7 yX7_total wsX7_total) := goodIn_app (goodIn_of _ (by decide +kernel)) ggL_law_X7_total
set_option maxRecDepth 20000 in
theorem ggL_law_X7_nextCode : GoodIn wsL_law wsX7_nextCode := goodIn_r _ [241, 24, 242, 243, 244, 245, 2, 246, 12, 166, 101, 136, 148, 153, 247, 248, 249, 23, 250, 81, 82, 83, 251, 252, 138, 139, 160, 161, 452, 453, 454, 455, 456, 469, 470, 471, 457, 458, 459, 460, 461, 462, 463, 473, 474] (by decide +kernel) (by decide +kernel)
set_option maxRecDepth 20000 in
theorem gL_law_X7_nextCode : GoodIn wsL_law (wsV RL 100 RX7 yX7_nextCode wsX7_nextCode) := goodIn_app (goodIn_of _ (by decide +kernel)) ggL_law_X7_nextCode
set_option maxRecDepth 20000 in
theorem ggL_law_L_refuses : GoodIn wsL_law wsL_refuses := goodIn_ca (goodIn_ca (goodIn_ca (goodIn_ca (goodIn_ca (goodIn_ca (goodIn_ca (goodIn_ca (goodIn_ca (goodIn_ca (goodIn_ca (goodIn_r _ [255, 256, 257, 91, 258, 259, 260, 261, 226, 227, 228, 2, 229, 12, 101, 262, 263, 264, 265, 166, 167, 230, 231, 232, 233] (by decide +kernel) (by decide +kernel)) (goodIn_app (goodIn_r _ [234, 235, 236, 39, 237, 52, 50, 266, 267, 268, 269, 270, 271, 272, 273, 274, 93, 94, 275, 276, 277, 278, 279, 280] (by decide +kernel) (by decide +kernel)) (goodIn_app (goodIn_r _ [168, 154, 155, 156, 157, 158, 281, 282, 283, 284, 285, 286, 287, 288, 289, 290, 291, 292, 293, 294, 295, 296, 297, 43] (by decide +kernel) (by decide +kernel)) (goodIn_app (goodIn_r _ [298, 62, 60, 299, 300, 301, 302, 100, 103, 104, 105, 106, 107, 303, 304, 305, 306, 24, 242, 247, 248, 249, 23, 250] (by decide +kernel) (by decide +kernel)) (goodIn_app (goodIn_r _ [81, 82, 83, 251, 252, 138, 139, 160, 161, 307, 308, 309, 310, 311, 312, 313, 314, 315, 316, 317, 114, 318, 102, 129] (by decide +kernel) (by decide +kernel)) (goodIn_app (goodIn_r _ [130, 131, 238, 239, 240, 241, 243, 244, 245, 246, 136, 148, 153, 319, 320, 321, 322, 16, 221, 323, 324, 325, 326, 89] (by decide +kernel) (by decide +kernel)) (goodIn_app (goodIn_r _ [90, 92, 95, 96, 97, 98, 99, 108, 109, 110, 15, 111, 69, 70, 71, 112, 113, 115, 116, 117, 118, 11, 119, 32] (by decide +kernel) (by decide +kernel)) (goodIn_app (goodIn_r _ [33, 34, 35, 36, 40, 44, 120, 121, 122, 123, 53, 54, 55, 56, 124, 125, 126, 127, 128, 61, 63, 132, 133, 134] (by decide +kernel) (by decide +kernel)) (goodIn_app (goodIn_r _ [135, 137, 140, 141, 142, 143, 144, 145, 146, 147, 149, 150, 151, 152, 159, 162, 163, 164, 165, 169, 170, 171, 172, 173] (by decide +kernel) (by decide +kernel)) (goodIn_app (goodIn_r _ [174, 175, 176, 177, 178, 179, 180, 181, 182, 183, 184, 185, 186, 187, 188, 189, 190, 20, 191, 192, 193, 194, 19, 195] (by decide +kernel) (by decide +kernel)) (goodIn_app (goodIn_r _ [76, 77, 196, 197, 198, 199, 200, 201, 202, 203, 204, 205, 206, 207, 208, 209, 210, 211, 212, 213, 214, 215, 216, 217] (by decide +kernel) (by decide +kernel)) (goodIn_r _ [218, 219, 220, 222, 223, 224, 225, 327, 328, 329, 330, 331] (by decide +kernel) (by decide +kernel))))))))))))) (goodIn_r _ [452, 453, 454, 455, 456] (by decide +kernel) (by decide +kernel))) (goodIn_r _ [457, 458, 459, 460, 461, 462, 463] (by decide +kernel) (by decide +kernel))) (goodIn_r _ [473, 474] (by decide +kernel) (by decide +kernel))) (goodIn_r _ [475, 476, 477, 478] (by decide +kernel) (by decide +kernel))) (goodIn_r _ [469, 470, 471] (by decide +kernel) (by decide +kernel))) (goodIn_r _ [464, 465, 466] (by decide +kernel) (by decide +kernel))) (goodIn_r _ [467, 468] (by decide +kernel) (by decide +kernel))) (goodIn_sub (fun _ h => List.mem_append_left _ (List.mem_append_right _ h)) (by decide +kernel))) (goodIn_sub (fun _ h => List.mem_append_left _ (List.mem_append_left _ (List.mem_append_right _ h))) (by decide +kernel))) (goodIn_sub (fun _ h => List.mem_append_right _ h) (by decide +kernel))
set_option maxRecDepth 20000 in
theorem gL_law_L_refuses : GoodIn wsL_law (va_wsS RL 151 yL_refuses wsL_refuses) := goodIn_app (goodIn_of _ (by decide +kernel)) ggL_law_L_refuses
set_option maxRecDepth 20000 in
theorem ggL_law_L_cell : GoodIn wsL_law wsL_cell := goodIn_r _ [334, 335, 336, 337] (by decide +kernel) (by decide +kernel)
set_option maxRecDepth 20000 in
theorem gL_law_L_cell : GoodIn wsL_law (va_wsS RL 154 yL_cell wsL_cell) := goodIn_app (goodIn_of _ (by decide +kernel)) ggL_law_L_cell
set_option maxRecDepth 20000 in
theorem ggL_law_L_seen : GoodIn wsL_law wsL_seen := goodIn_ca (goodIn_ca (goodIn_ca (goodIn_ca (goodIn_ca (goodIn_ca (goodIn_ca (goodIn_ca (goodIn_r _ [258, 259, 260, 261, 226, 227, 228, 2, 229, 12, 101, 262, 263, 264, 265, 166, 167, 230, 231, 232, 233, 234, 235, 236, 39] (by decide +kernel) (by decide +kernel)) (goodIn_app (goodIn_r _ [237, 52, 50, 266, 267, 268, 269, 270, 271, 272, 273, 91, 274, 93, 94, 275, 276, 277, 278, 279, 280, 168, 154, 155] (by decide +kernel) (by decide +kernel)) (goodIn_app (goodIn_r _ [156, 157, 158, 281, 282, 283, 284, 285, 286, 287, 288, 289, 290, 291, 292, 293, 294, 295, 296, 297, 43, 298, 62, 60] (by decide +kernel) (by decide +kernel)) (goodIn_app (goodIn_r _ [299, 300, 301, 302, 100, 103, 104, 105, 106, 107, 303, 304, 305, 306, 24, 242, 247, 248, 249, 23, 250, 81, 82, 83] (by decide +kernel) (by decide +kernel)) (goodIn_app (goodIn_r _ [251, 252, 138, 139, 160, 161, 307, 308, 309, 310, 311, 312, 313, 314, 315, 316, 317, 114, 318, 102, 129, 130, 131, 238] (by decide +kernel) (by decide +kernel)) (goodIn_r _ [239, 240, 241, 243, 244, 245, 246, 136, 148, 153] (by decide +kernel) (by decide +kernel))))))) (goodIn_r _ [452, 453, 454, 455, 456] (by decide +kernel) (by decide +kernel))) (goodIn_r _ [457, 458, 459, 460, 461, 462, 463] (by decide +kernel) (by decide +kernel))) (goodIn_r _ [473, 474] (by decide +kernel) (by decide +kernel))) (goodIn_r _ [475, 476, 477, 478] (by decide +kernel) (by decide +kernel))) (goodIn_r _ [469, 470, 471] (by decide +kernel) (by decide +kernel))) (goodIn_sub (fun _ h => List.mem_append_left _ (List.mem_append_right _ h)) (by decide +kernel))) (goodIn_sub (fun _ h => List.mem_append_left _ (List.mem_append_left _ (List.mem_append_right _ h))) (by decide +kernel))
set_option maxRecDepth 20000 in
theorem gL_law_L_seen : GoodIn wsL_law (va_wsS RL 124 yL_seen wsL_seen) := goodIn_app (goodIn_of _ (by decide +kernel)) ggL_law_L_seen
set_option maxRecDepth 20000 in
theorem ggL_law_X7_digest : GoodIn wsL_law wsX7_digest := goodIn_ca (goodIn_ca (goodIn_ca (goodIn_ca (goodIn_ca (goodIn_ca (goodIn_ca (goodIn_ca (goodIn_r _ [341, 342, 12, 166, 167, 270, 271, 343, 227, 228, 2, 229, 101, 344, 345, 346, 347, 348, 263, 264, 265, 349, 231, 232, 233] (by decide +kernel) (by decide +kernel)) (goodIn_app (goodIn_r _ [234, 235, 236, 39, 237, 52, 50, 350, 239, 240, 241, 24, 242, 243, 244, 245, 246, 136, 148, 153, 247, 248, 249, 23] (by decide +kernel) (by decide +kernel)) (goodIn_app (goodIn_r _ [250, 81, 82, 83, 251, 252, 138, 139, 160, 161, 351, 352, 353, 354, 28, 355, 356, 357, 27, 358, 88, 359, 360, 361] (by decide +kernel) (by decide +kernel)) (goodIn_app (goodIn_r _ [362, 363, 364, 365, 366, 367, 368, 369, 370, 371, 372, 373, 374, 375, 376, 377, 378, 379, 380, 381, 382, 383, 384, 385] (by decide +kernel) (by decide +kernel)) (goodIn_app (goodIn_r _ [386, 387, 303, 304, 305, 306, 137, 388, 267, 268, 269, 389, 278, 279, 280, 168, 154, 155, 156, 157, 158, 390, 308, 309] (by decide +kernel) (by decide +kernel)) (goodIn_r _ [310, 391, 282, 283, 284, 285, 392, 287, 288, 289, 290, 393, 292, 293, 294, 295, 296, 297, 43, 298, 62, 60] (by decide +kernel) (by decide +kernel))))))) (goodIn_r _ [452, 453, 454, 455, 456] (by decide +kernel) (by decide +kernel))) (goodIn_r _ [457, 458, 459, 460, 461, 462, 463] (by decide +kernel) (by decide +kernel))) (goodIn_r _ [473, 474] (by decide +kernel) (by decide +kernel))) (goodIn_r _ [475, 476, 477, 478] (by decide +kernel) (by decide +kernel))) (goodIn_r _ [469, 470, 471] (by decide +kernel) (by decide +kernel))) (goodIn_r _ [472] (by decide +kernel) (by decide +kernel))) (goodIn_sub (fun _ h => List.mem_append_left _ (List.mem_append_right _ h)) (by decide +kernel))
set_option maxRecDepth 20000 in
theorem gL_law_X7_digest : GoodIn wsL_law (wsV RL 158 RX7 yX7_digest wsX7_digest) := goodIn_app (goodIn_of _ (by decide +kernel)) ggL_law_X7_digest
set_option maxRecDepth 20000 in
theorem ggL_law_X7_savedStates : GoodIn wsL_law wsX7_savedStates := goodIn_r _ [322, 16, 221, 452, 453, 454, 455, 456, 464, 465, 466] (by decide +kernel) (by decide +kernel)
set_option maxRecDepth 20000 in
theorem gL_law_X7_savedStates : GoodIn wsL_law (wsV RL 128 RX7 yX7_savedStates wsX7_savedStates) := goodIn_app (goodIn_of _ (by decide +kernel)) ggL_law_X7_savedStates
set_option maxRecDepth 20000 in
theorem ggL_law_L_volts : GoodIn wsL_law wsL_volts := goodIn_ca (goodIn_ca (goodIn_ca (goodIn_ca (goodIn_ca (goodIn_ca (goodIn_ca (goodIn_ca (goodIn_ca (goodIn_ca (goodIn_ca (goodIn_r _ [396, 326, 226, 227, 228, 2, 229, 12, 101, 311, 312, 313, 314, 100, 315, 316, 317, 114, 318, 102, 103, 104, 105, 106, 107] (by decide +kernel) (by decide +kernel)) (goodIn_app (goodIn_r _ [129, 130, 131, 89, 90, 91, 92, 93, 94, 95, 96, 97, 98, 99, 16, 108, 109, 110, 15, 111, 69, 70, 71, 112] (by decide +kernel) (by decide +kernel)) (goodIn_app (goodIn_r _ [113, 115, 116, 117, 118, 11, 119, 32, 33, 34, 35, 36, 40, 44, 120, 121, 122, 39, 123, 50, 53, 54, 55, 56] (by decide +kernel) (by decide +kernel)) (goodIn_app (goodIn_r _ [52, 124, 125, 126, 43, 127, 60, 128, 61, 62, 63, 132, 133, 134, 135, 136, 137, 138, 139, 140, 141, 142, 143, 144] (by decide +kernel) (by decide +kernel)) (goodIn_app (goodIn_r _ [145, 146, 147, 148, 149, 150, 151, 152, 153, 154, 155, 156, 157, 158, 159, 160, 161, 162, 163, 164, 165, 166, 167, 168] (by decide +kernel) (by decide +kernel)) (goodIn_app (goodIn_r _ [169, 170, 171, 172, 173, 174, 175, 176, 177, 178, 179, 180, 181, 182, 183, 184, 185, 186, 187, 188, 189, 190, 20, 191] (by decide +kernel) (by decide +kernel)) (goodIn_app (goodIn_r _ [192, 193, 194, 19, 195, 76, 77, 196, 197, 198, 199, 200, 201, 202, 203, 204, 205, 206, 207, 208, 209, 210, 211, 212] (by decide +kernel) (by decide +kernel)) (goodIn_app (goodIn_r _ [213, 214, 215, 216, 217, 218, 219, 220, 221, 222, 223, 224, 225, 397, 385, 386, 387, 303, 304, 305, 306, 24, 242, 247] (by decide +kernel) (by decide +kernel)) (goodIn_app (goodIn_r _ [248, 249, 23, 250, 81, 82, 83, 251, 252, 272, 273, 274, 275, 276, 277, 278, 279, 280, 281, 282, 283, 284, 270, 271] (by decide +kernel) (by decide +kernel)) (goodIn_app (goodIn_r _ [285, 286, 287, 288, 289, 290, 291, 292, 293, 294, 295, 296, 297, 298, 299, 300, 301, 302, 307, 308, 309, 310, 319, 320] (by decide +kernel) (by decide +kernel)) (goodIn_r _ [321, 322, 398, 399, 400] (by decide +kernel) (by decide +kernel)))))))))))) (goodIn_r _ [452, 453, 454, 455, 456] (by decide +kernel) (by decide +kernel))) (goodIn_r _ [457, 458, 459, 460, 461, 462, 463] (by decide +kernel) (by decide +kernel))) (goodIn_r _ [464, 465, 466] (by decide +kernel) (by decide +kernel))) (goodIn_r _ [473, 474] (by decide +kernel) (by decide +kernel))) (goodIn_r _ [475, 476, 477, 478] (by decide +kernel) (by decide +kernel))) (goodIn_r _ [467, 468] (by decide +kernel) (by decide +kernel))) (goodIn_r _ [469, 470, 471] (by decide +kernel) (by decide +kernel))) (goodIn_sub (fun _ h => List.mem_append_left _ (List.mem_append_left _ (List.mem_append_right _ h))) (by decide +kernel))) (goodIn_sub (fun _ h => List.mem_append_left _ (List.mem_append_right _ h)) (by decide +kernel))) (goodIn_sub (fun _ h => List.mem_append_right _ h) (by decide +kernel))
set_option maxRecDepth 20000 in
theorem gL_law_L_volts : GoodIn wsL_law (va_wsS RL 162 yL_volts wsL_volts) := goodIn_app (goodIn_of _ (by decide +kernel)) ggL_law_L_volts
set_option maxRecDepth 20000 in
theorem ggL_law_X7_undo : GoodIn wsL_law wsX7_undo := goodIn_ca (goodIn_r _ [220, 173, 174, 16, 221, 12, 222, 223, 224, 15, 225, 70, 69, 71, 116, 117, 118, 11, 119, 32, 33, 34, 35, 36, 40, 44, 120, 121, 122, 39, 123, 50, 53, 54, 55, 56, 52, 124, 125, 126, 43, 127, 60, 128, 61, 62, 63, 452, 453, 454, 455, 456, 464, 465, 466, 457, 458, 459, 460, 461, 462, 463, 473, 474, 475, 476, 477, 478] (by decide +kernel) (by decide +kernel)) (goodIn_sub (fun _ h => List.mem_append_right _ h) (by decide +kernel))
set_option maxRecDepth 20000 in
theorem gL_law_X7_undo : GoodIn wsL_law (wsV RL 46 RX7 yX7_undo wsX7_undo) := goodIn_app (goodIn_of _ (by decide +kernel)) ggL_law_X7_undo
set_option maxRecDepth 20000 in
theorem ggL_law_L_converts : GoodIn wsL_law wsL_converts := goodIn_ca (goodIn_ca (goodIn_ca (goodIn_ca (goodIn_ca (goodIn_ca (goodIn_ca (goodIn_ca (goodIn_ca (goodIn_r _ [403, 238, 239, 240, 2, 241, 24, 242, 243, 244, 245, 246, 12, 166, 101, 136, 148, 153, 247, 248, 249, 23, 250, 81, 82] (by decide +kernel) (by decide +kernel)) (goodIn_app (goodIn_r _ [83, 251, 252, 138, 139, 160, 161, 266, 267, 268, 269, 270, 271, 226, 227, 228, 229, 272, 273, 91, 274, 93, 94, 275] (by decide +kernel) (by decide +kernel)) (goodIn_app (goodIn_r _ [276, 277, 278, 279, 280, 167, 168, 154, 155, 156, 157, 158, 281, 282, 283, 284, 285, 286, 287, 288, 289, 290, 291, 292] (by decide +kernel) (by decide +kernel)) (goodIn_app (goodIn_r _ [293, 294, 295, 296, 297, 43, 298, 62, 60, 299, 300, 301, 302, 100, 103, 104, 105, 106, 107, 303, 304, 305, 306, 307] (by decide +kernel) (by decide +kernel)) (goodIn_app (goodIn_r _ [308, 309, 310, 311, 312, 313, 314, 315, 316, 317, 114, 318, 102, 129, 130, 131, 404, 405, 406, 407, 16, 408, 409, 108] (by decide +kernel) (by decide +kernel)) (goodIn_app (goodIn_r _ [109, 110, 15, 111, 69, 70, 71, 112, 113, 115, 116, 117, 118, 11, 119, 32, 33, 34, 35, 36, 40, 44, 120, 121] (by decide +kernel) (by decide +kernel)) (goodIn_app (goodIn_r _ [122, 39, 123, 50, 53, 54, 55, 56, 52, 124, 125, 126, 127, 128, 61, 63, 410, 411, 412, 413, 414, 262, 263, 264] (by decide +kernel) (by decide +kernel)) (goodIn_r _ [265] (by decide +kernel) (by decide +kernel))))))))) (goodIn_r _ [452, 453, 454, 455, 456] (by decide +kernel) (by decide +kernel))) (goodIn_r _ [469, 470, 471] (by decide +kernel) (by decide +kernel))) (goodIn_r _ [457, 458, 459, 460, 461, 462, 463] (by decide +kernel) (by decide +kernel))) (goodIn_r _ [473, 474] (by decide +kernel) (by decide +kernel))) (goodIn_r _ [475, 476, 477, 478] (by decide +kernel) (by decide +kernel))) (goodIn_r _ [464, 465, 466] (by decide +kernel) (by decide +kernel))) (goodIn_sub (fun _ h => List.mem_append_left _ (List.mem_append_right _ h)) (by decide +kernel))) (goodIn_sub (fun _ h => List.mem_append_left _ (List.mem_append_left _ (List.mem_append_right _ h))) (by decide +kernel))
set_option maxRecDepth 20000 in
theorem gL_law_L_converts : GoodIn wsL_law (va_wsS RL 166 yL_converts wsL_converts) := goodIn_app (goodIn_of _ (by decide +kernel)) ggL_law_L_converts
set_option maxRecDepth 20000 in
theorem ggL_law_L_weights : GoodIn wsL_law wsL_weights := goodIn_ca (goodIn_ca (goodIn_ca (goodIn_ca (goodIn_ca (goodIn_ca (goodIn_ca (goodIn_ca (goodIn_ca (goodIn_ca (goodIn_ca (goodIn_ca (goodIn_r _ [417, 262, 263, 264, 2, 265, 12, 166, 167, 230, 231, 232, 233, 234, 235, 236, 39, 237, 52, 50, 272, 273, 91, 274, 93] (by decide +kernel) (by decide +kernel)) (goodIn_app (goodIn_r _ [94, 275, 276, 277, 278, 279, 280, 168, 154, 155, 156, 157, 158, 281, 282, 283, 284, 270, 271, 285, 286, 287, 288, 289] (by decide +kernel) (by decide +kernel)) (goodIn_app (goodIn_r _ [290, 291, 292, 293, 294, 295, 296, 297, 43, 298, 62, 60, 299, 300, 301, 302, 100, 103, 104, 105, 106, 107, 303, 304] (by decide +kernel) (by decide +kernel)) (goodIn_app (goodIn_r _ [305, 306, 24, 242, 247, 248, 249, 23, 250, 81, 82, 83, 251, 252, 138, 139, 160, 161, 307, 308, 309, 310, 311, 312] (by decide +kernel) (by decide +kernel)) (goodIn_app (goodIn_r _ [313, 314, 101, 315, 316, 317, 114, 318, 102, 129, 130, 131, 418, 419, 420, 89, 90, 92, 95, 96, 97, 98, 99, 16] (by decide +kernel) (by decide +kernel)) (goodIn_app (goodIn_r _ [108, 109, 110, 15, 111, 69, 70, 71, 112, 113, 115, 116, 117, 118, 11, 119, 32, 33, 34, 35, 36, 40, 44, 120] (by decide +kernel) (by decide +kernel)) (goodIn_app (goodIn_r _ [121, 122, 123, 53, 54, 55, 56, 124, 125, 126, 127, 128, 61, 63, 132, 133, 134, 135, 136, 137, 140, 141, 142, 143] (by decide +kernel) (by decide +kernel)) (goodIn_app (goodIn_r _ [144, 145, 146, 147, 148, 149, 150, 151, 152, 153, 159, 162, 163, 164, 165, 169, 170, 171, 172, 173, 174, 175, 176, 177] (by decide +kernel) (by decide +kernel)) (goodIn_app (goodIn_r _ [178, 179, 180, 181, 182, 183, 184, 185, 186, 187, 188, 189, 190, 20, 191, 192, 193, 194, 19, 195, 76, 77, 196, 197] (by decide +kernel) (by decide +kernel)) (goodIn_app (goodIn_r _ [198, 199, 200, 201, 202, 203, 204, 205, 206, 207, 208, 209, 210, 211, 212, 213, 214, 215, 216, 217, 218, 219, 220, 221] (by decide +kernel) (by decide +kernel)) (goodIn_app (goodIn_r _ [222, 223, 224, 225, 421, 352, 353, 354, 28, 355, 356, 357, 27, 358, 88, 359, 360, 361, 362, 363, 364, 365, 366, 367] (by decide +kernel) (by decide +kernel)) (goodIn_app (goodIn_r _ [368, 369, 370, 371, 372, 373, 374, 375, 422, 377, 378, 379, 380, 381, 382, 383, 423, 424, 425, 426, 427, 428, 429, 430] (by decide +kernel) (by decide +kernel)) (goodIn_r _ [431, 432, 433, 434, 435, 436, 437, 438] (by decide +kernel) (by decide +kernel)))))))))))))) (goodIn_r _ [452, 453, 454, 455, 456] (by decide +kernel) (by decide +kernel))) (goodIn_r _ [457, 458, 459, 460, 461, 462, 463] (by decide +kernel) (by decide +kernel))) (goodIn_r _ [473, 474] (by decide +kernel) (by decide +kernel))) (goodIn_r _ [475, 476, 477, 478] (by decide +kernel) (by decide +kernel))) (goodIn_r _ [469, 470, 471] (by decide +kernel) (by decide +kernel))) (goodIn_r _ [464, 465, 466] (by decide +kernel) (by decide +kernel))) (goodIn_r _ [467, 468] (by decide +kernel) (by decide +kernel))) (goodIn_r _ [472] (by decide +kernel) (by decide +kernel))) (goodIn_sub (fun _ h => List.mem_append_left _ (List.mem_append_right _ h)) (by decide +kernel))) (goodIn_sub (fun _ h => List.mem_append_left _ (List.mem_append_left _ (List.mem_append_right _ h))) (by decide +kernel))) (goodIn_sub (fun _ h => List.mem_append_right _ h) (by decide +kernel))
set_option maxRecDepth 20000 in
theorem gL_law_L_weights : GoodIn wsL_law (va_wsS RL 170 yL_weights wsL_weights) := goodIn_app (goodIn_of _ (by decide +kernel)) ggL_law_L_weights
set_option maxRecDepth 20000 in
theorem ggL_law_L_isWhole : GoodIn wsL_law wsL_isWhole := goodIn_ca (goodIn_ca (goodIn_ca (goodIn_ca (goodIn_ca (goodIn_ca (goodIn_ca (goodIn_ca (goodIn_ca (goodIn_r _ [441, 326, 442, 262, 263, 264, 2, 265, 12, 166, 167, 422, 377, 378, 379, 28, 355, 356, 357, 27, 358, 88, 359, 360, 361] (by decide +kernel) (by decide +kernel)) (goodIn_app (goodIn_r _ [362, 363, 364, 380, 381, 382, 383, 226, 227, 228, 229, 101, 266, 267, 268, 269, 270, 271, 272, 273, 91, 274, 93, 94] (by decide +kernel) (by decide +kernel)) (goodIn_app (goodIn_r _ [275, 276, 277, 278, 279, 280, 168, 154, 155, 156, 157, 158, 281, 282, 283, 284, 285, 286, 287, 288, 289, 290, 291, 292] (by decide +kernel) (by decide +kernel)) (goodIn_app (goodIn_r _ [293, 294, 295, 296, 297, 43, 298, 62, 60, 299, 300, 301, 302, 100, 103, 104, 105, 106, 107, 303, 304, 305, 306, 24] (by decide +kernel) (by decide +kernel)) (goodIn_app (goodIn_r _ [242, 247, 248, 249, 23, 250, 81, 82, 83, 251, 252, 138, 139, 160, 161, 307, 308, 309, 310, 311, 312, 313, 314, 315] (by decide +kernel) (by decide +kernel)) (goodIn_app (goodIn_r _ [316, 317, 114, 318, 102, 129, 130, 131, 421, 352, 353, 354, 365, 366, 367, 368, 369, 370, 371, 372, 373, 374, 375, 230] (by decide +kernel) (by decide +kernel)) (goodIn_app (goodIn_r _ [231, 232, 233, 234, 235, 236, 39, 237, 52, 50, 238, 239, 240, 241, 243, 244, 245, 246, 136, 148, 153, 443, 444, 445] (by decide +kernel) (by decide +kernel)) (goodIn_r _ [446, 447, 448, 449, 450, 63, 451] (by decide +kernel) (by decide +kernel))))))))) (goodIn_r _ [452, 453, 454, 455, 456] (by decide +kernel) (by decide +kernel))) (goodIn_r _ [457, 458, 459, 460, 461, 462, 463] (by decide +kernel) (by decide +kernel))) (goodIn_r _ [473, 474] (by decide +kernel) (by decide +kernel))) (goodIn_r _ [472] (by decide +kernel) (by decide +kernel))) (goodIn_r _ [475, 476, 477, 478] (by decide +kernel) (by decide +kernel))) (goodIn_r _ [469, 470, 471] (by decide +kernel) (by decide +kernel))) (goodIn_sub (fun _ h => List.mem_append_left _ (List.mem_append_right _ h)) (by decide +kernel))) (goodIn_sub (fun _ h => List.mem_append_left _ (List.mem_append_left _ (List.mem_append_right _ h))) (by decide +kernel))
set_option maxRecDepth 20000 in
theorem gL_law_L_isWhole : GoodIn wsL_law (va_wsS RL 172 yL_isWhole wsL_isWhole) := goodIn_app (goodIn_of _ (by decide +kernel)) ggL_law_L_isWhole
theorem dL_law_0 : decode cL_law 0 = .ok (.new 11, 3) := by decide +kernel
theorem dL_law_3 : decode cL_law 3 = .ok (.dup, 1) := by decide +kernel
theorem dL_law_4 : decode cL_law 4 = .ok (.invokespecial 150, 3) := by decide +kernel
theorem dL_law_7 : decode cL_law 7 = .ok (.astore_n 1, 1) := by decide +kernel
theorem dL_law_8 : decode cL_law 8 = .ok (.aload_n 1, 1) := by decide +kernel
theorem dL_law_9 : decode cL_law 9 = .ok (.bipush 10, 2) := by decide +kernel
theorem dL_law_11 : decode cL_law 11 = .ok (.iconst 0, 1) := by decide +kernel
theorem dL_law_12 : decode cL_law 12 = .ok (.iconst 0, 1) := by decide +kernel
theorem dL_law_13 : decode cL_law 13 = .ok (.invokestatic 117, 3) := by decide +kernel
theorem dL_law_16 : decode cL_law 16 = .ok (.bipush (-12), 2) := by decide +kernel
theorem dL_law_18 : decode cL_law 18 = .ok (.if_icmp .ne 47, 3) := by decide +kernel
theorem dL_law_21 : decode cL_law 21 = .ok (.aload_n 1, 1) := by decide +kernel
theorem dL_law_22 : decode cL_law 22 = .ok (.invokevirtual 80, 3) := by decide +kernel
theorem dL_law_25 : decode cL_law 25 = .ok (.ifCond .ne 40, 3) := by decide +kernel
theorem dL_law_28 : decode cL_law 28 = .ok (.aload_n 1, 1) := by decide +kernel
theorem dL_law_29 : decode cL_law 29 = .ok (.invokevirtual 88, 3) := by decide +kernel
theorem dL_law_32 : decode cL_law 32 = .ok (.sipush 255, 3) := by decide +kernel
theorem dL_law_35 : decode cL_law 35 = .ok (.if_icmp .ne 30, 3) := by decide +kernel
theorem dL_law_38 : decode cL_law 38 = .ok (.aload_n 1, 1) := by decide +kernel
theorem dL_law_39 : decode cL_law 39 = .ok (.invokevirtual 100, 3) := by decide +kernel
theorem dL_law_42 : decode cL_law 42 = .ok (.ifCond .ne 23, 3) := by decide +kernel
theorem dL_law_45 : decode cL_law 45 = .ok (.aload_n 1, 1) := by decide +kernel
theorem dL_law_46 : decode cL_law 46 = .ok (.iconst 0, 1) := by decide +kernel
theorem dL_law_47 : decode cL_law 47 = .ok (.invokestatic 151, 3) := by decide +kernel
theorem dL_law_50 : decode cL_law 50 = .ok (.ifCond .eq 15, 3) := by decide +kernel
theorem dL_law_53 : decode cL_law 53 = .ok (.aload_n 1, 1) := by decide +kernel
theorem dL_law_54 : decode cL_law 54 = .ok (.iconst 1, 1) := by decide +kernel
theorem dL_law_55 : decode cL_law 55 = .ok (.invokestatic 151, 3) := by decide +kernel
theorem dL_law_58 : decode cL_law 58 = .ok (.ifCond .eq 7, 3) := by decide +kernel
theorem dL_law_61 : decode cL_law 61 = .ok (.iconst 1, 1) := by decide +kernel
theorem dL_law_62 : decode cL_law 62 = .ok (.goto 4, 3) := by decide +kernel
theorem dL_law_65 : decode cL_law 65 = .ok (.iconst 0, 1) := by decide +kernel
theorem dL_law_66 : decode cL_law 66 = .ok (.istore_n 2, 1) := by decide +kernel
theorem dL_law_67 : decode cL_law 67 = .ok (.iconst 0, 1) := by decide +kernel
theorem dL_law_68 : decode cL_law 68 = .ok (.istore_n 3, 1) := by decide +kernel
theorem dL_law_69 : decode cL_law 69 = .ok (.iload_n 3, 1) := by decide +kernel
theorem dL_law_70 : decode cL_law 70 = .ok (.bipush 50, 2) := by decide +kernel
theorem dL_law_72 : decode cL_law 72 = .ok (.if_icmp .ge 357, 3) := by decide +kernel
theorem dL_law_75 : decode cL_law 75 = .ok (.iload_n 2, 1) := by decide +kernel
theorem dL_law_76 : decode cL_law 76 = .ok (.ifCond .eq 353, 3) := by decide +kernel
theorem dL_law_79 : decode cL_law 79 = .ok (.aload_n 0, 1) := by decide +kernel
theorem dL_law_80 : decode cL_law 80 = .ok (.iload_n 3, 1) := by decide +kernel
theorem dL_law_81 : decode cL_law 81 = .ok (.invokestatic 154, 3) := by decide +kernel
theorem dL_law_84 : decode cL_law 84 = .ok (.istore 4, 2) := by decide +kernel
theorem dL_law_86 : decode cL_law 86 = .ok (.iload 4, 2) := by decide +kernel
theorem dL_law_88 : decode cL_law 88 = .ok (.bipush 12, 2) := by decide +kernel
theorem dL_law_90 : decode cL_law 90 = .ok (.irem, 1) := by decide +kernel
theorem dL_law_91 : decode cL_law 91 = .ok (.istore 5, 2) := by decide +kernel
theorem dL_law_93 : decode cL_law 93 = .ok (.iload 4, 2) := by decide +kernel
theorem dL_law_95 : decode cL_law 95 = .ok (.bipush 12, 2) := by decide +kernel
theorem dL_law_97 : decode cL_law 97 = .ok (.idiv, 1) := by decide +kernel
theorem dL_law_98 : decode cL_law 98 = .ok (.istore 6, 2) := by decide +kernel
theorem dL_law_100 : decode cL_law 100 = .ok (.aload_n 1, 1) := by decide +kernel
theorem dL_law_101 : decode cL_law 101 = .ok (.invokestatic 124, 3) := by decide +kernel
theorem dL_law_104 : decode cL_law 104 = .ok (.lstore 7, 2) := by decide +kernel
theorem dL_law_106 : decode cL_law 106 = .ok (.iload_n 3, 1) := by decide +kernel
theorem dL_law_107 : decode cL_law 107 = .ok (.iconst 5, 1) := by decide +kernel
theorem dL_law_108 : decode cL_law 108 = .ok (.irem, 1) := by decide +kernel
theorem dL_law_109 : decode cL_law 109 = .ok (.iconst 4, 1) := by decide +kernel
theorem dL_law_110 : decode cL_law 110 = .ok (.if_icmp .ne 7, 3) := by decide +kernel
theorem dL_law_113 : decode cL_law 113 = .ok (.iconst 1, 1) := by decide +kernel
theorem dL_law_114 : decode cL_law 114 = .ok (.goto 4, 3) := by decide +kernel
theorem dL_law_117 : decode cL_law 117 = .ok (.iconst 0, 1) := by decide +kernel
theorem dL_law_118 : decode cL_law 118 = .ok (.istore 9, 2) := by decide +kernel
theorem dL_law_120 : decode cL_law 120 = .ok (.iload 9, 2) := by decide +kernel
theorem dL_law_122 : decode cL_law 122 = .ok (.ifCond .eq 10, 3) := by decide +kernel
theorem dL_law_125 : decode cL_law 125 = .ok (.aload_n 1, 1) := by decide +kernel
theorem dL_law_126 : decode cL_law 126 = .ok (.invokevirtual 158, 3) := by decide +kernel
theorem dL_law_129 : decode cL_law 129 = .ok (.goto 4, 3) := by decide +kernel
theorem dL_law_132 : decode cL_law 132 = .ok (.lconst 0, 1) := by decide +kernel
theorem dL_law_133 : decode cL_law 133 = .ok (.lstore 10, 2) := by decide +kernel
theorem dL_law_135 : decode cL_law 135 = .ok (.aload_n 1, 1) := by decide +kernel
theorem dL_law_136 : decode cL_law 136 = .ok (.invokevirtual 128, 3) := by decide +kernel
theorem dL_law_139 : decode cL_law 139 = .ok (.istore 12, 2) := by decide +kernel
theorem dL_law_141 : decode cL_law 141 = .ok (.iload 5, 2) := by decide +kernel
theorem dL_law_143 : decode cL_law 143 = .ok (.iconst 5, 1) := by decide +kernel
theorem dL_law_144 : decode cL_law 144 = .ok (.if_icmp .ge 14, 3) := by decide +kernel
theorem dL_law_147 : decode cL_law 147 = .ok (.aload_n 1, 1) := by decide +kernel
theorem dL_law_148 : decode cL_law 148 = .ok (.iload 5, 2) := by decide +kernel
theorem dL_law_150 : decode cL_law 150 = .ok (.iload 6, 2) := by decide +kernel
theorem dL_law_152 : decode cL_law 152 = .ok (.invokestatic 162, 3) := by decide +kernel
theorem dL_law_155 : decode cL_law 155 = .ok (.goto 78, 3) := by decide +kernel
theorem dL_law_158 : decode cL_law 158 = .ok (.iload 5, 2) := by decide +kernel
theorem dL_law_160 : decode cL_law 160 = .ok (.iconst 5, 1) := by decide +kernel
theorem dL_law_161 : decode cL_law 161 = .ok (.if_icmp .ne 47, 3) := by decide +kernel
theorem dL_law_164 : decode cL_law 164 = .ok (.aload_n 1, 1) := by decide +kernel
theorem dL_law_165 : decode cL_law 165 = .ok (.iconst 4, 1) := by decide +kernel
theorem dL_law_166 : decode cL_law 166 = .ok (.iload 6, 2) := by decide +kernel
theorem dL_law_168 : decode cL_law 168 = .ok (.bipush 12, 2) := by decide +kernel
theorem dL_law_170 : decode cL_law 170 = .ok (.irem, 1) := by decide +kernel
theorem dL_law_171 : decode cL_law 171 = .ok (.iconst 0, 1) := by decide +kernel
theorem dL_law_172 : decode cL_law 172 = .ok (.invokestatic 117, 3) := by decide +kernel
theorem dL_law_175 : decode cL_law 175 = .ok (.ifCond .lt 29, 3) := by decide +kernel
theorem dL_law_178 : decode cL_law 178 = .ok (.aload_n 1, 1) := by decide +kernel
theorem dL_law_179 : decode cL_law 179 = .ok (.iconst 4, 1) := by decide +kernel
theorem dL_law_180 : decode cL_law 180 = .ok (.iload 6, 2) := by decide +kernel
theorem dL_law_182 : decode cL_law 182 = .ok (.bipush 12, 2) := by decide +kernel
theorem dL_law_184 : decode cL_law 184 = .ok (.irem, 1) := by decide +kernel
theorem dL_law_185 : decode cL_law 185 = .ok (.iconst 0, 1) := by decide +kernel
theorem dL_law_186 : decode cL_law 186 = .ok (.invokestatic 117, 3) := by decide +kernel
theorem dL_law_189 : decode cL_law 189 = .ok (.iconst 1, 1) := by decide +kernel
theorem dL_law_190 : decode cL_law 190 = .ok (.if_icmp .ne 14, 3) := by decide +kernel
theorem dL_law_193 : decode cL_law 193 = .ok (.aload_n 1, 1) := by decide +kernel
theorem dL_law_194 : decode cL_law 194 = .ok (.invokevirtual 46, 3) := by decide +kernel
theorem dL_law_197 : decode cL_law 197 = .ok (.ifCond .lt 7, 3) := by decide +kernel
theorem dL_law_200 : decode cL_law 200 = .ok (.iconst 1, 1) := by decide +kernel
theorem dL_law_201 : decode cL_law 201 = .ok (.goto 32, 3) := by decide +kernel
theorem dL_law_204 : decode cL_law 204 = .ok (.iconst 0, 1) := by decide +kernel
theorem dL_law_205 : decode cL_law 205 = .ok (.goto 28, 3) := by decide +kernel
theorem dL_law_208 : decode cL_law 208 = .ok (.iload 5, 2) := by decide +kernel
theorem dL_law_210 : decode cL_law 210 = .ok (.bipush 9, 2) := by decide +kernel
theorem dL_law_212 : decode cL_law 212 = .ok (.if_icmp .ge 10, 3) := by decide +kernel
theorem dL_law_215 : decode cL_law 215 = .ok (.aload_n 1, 1) := by decide +kernel
theorem dL_law_216 : decode cL_law 216 = .ok (.invokestatic 166, 3) := by decide +kernel
theorem dL_law_219 : decode cL_law 219 = .ok (.goto 14, 3) := by decide +kernel
theorem dL_law_222 : decode cL_law 222 = .ok (.aload_n 1, 1) := by decide +kernel
theorem dL_law_223 : decode cL_law 223 = .ok (.iload 5, 2) := by decide +kernel
theorem dL_law_225 : decode cL_law 225 = .ok (.bipush 9, 2) := by decide +kernel
theorem dL_law_227 : decode cL_law 227 = .ok (.isub, 1) := by decide +kernel
theorem dL_law_228 : decode cL_law 228 = .ok (.iload 6, 2) := by decide +kernel
theorem dL_law_230 : decode cL_law 230 = .ok (.invokestatic 170, 3) := by decide +kernel
theorem dL_law_233 : decode cL_law 233 = .ok (.istore_n 2, 1) := by decide +kernel
theorem dL_law_234 : decode cL_law 234 = .ok (.aload_n 1, 1) := by decide +kernel
theorem dL_law_235 : decode cL_law 235 = .ok (.invokevirtual 128, 3) := by decide +kernel
theorem dL_law_238 : decode cL_law 238 = .ok (.istore 13, 2) := by decide +kernel
theorem dL_law_240 : decode cL_law 240 = .ok (.iload 5, 2) := by decide +kernel
theorem dL_law_242 : decode cL_law 242 = .ok (.iconst 3, 1) := by decide +kernel
theorem dL_law_243 : decode cL_law 243 = .ok (.if_icmp .eq 9, 3) := by decide +kernel
theorem dL_law_246 : decode cL_law 246 = .ok (.iload 5, 2) := by decide +kernel
theorem dL_law_248 : decode cL_law 248 = .ok (.iconst 5, 1) := by decide +kernel
theorem dL_law_249 : decode cL_law 249 = .ok (.if_icmp .ne 7, 3) := by decide +kernel
theorem dL_law_252 : decode cL_law 252 = .ok (.iconst 1, 1) := by decide +kernel
theorem dL_law_253 : decode cL_law 253 = .ok (.goto 4, 3) := by decide +kernel
theorem dL_law_256 : decode cL_law 256 = .ok (.iconst 0, 1) := by decide +kernel
theorem dL_law_257 : decode cL_law 257 = .ok (.istore 14, 2) := by decide +kernel
theorem dL_law_259 : decode cL_law 259 = .ok (.iload_n 2, 1) := by decide +kernel
theorem dL_law_260 : decode cL_law 260 = .ok (.ifCond .eq 71, 3) := by decide +kernel
theorem dL_law_263 : decode cL_law 263 = .ok (.iload 14, 2) := by decide +kernel
theorem dL_law_265 : decode cL_law 265 = .ok (.ifCond .eq 13, 3) := by decide +kernel
theorem dL_law_268 : decode cL_law 268 = .ok (.iload 13, 2) := by decide +kernel
theorem dL_law_270 : decode cL_law 270 = .ok (.bipush 6, 2) := by decide +kernel
theorem dL_law_272 : decode cL_law 272 = .ok (.if_icmp .gt 59, 3) := by decide +kernel
theorem dL_law_275 : decode cL_law 275 = .ok (.goto 24, 3) := by decide +kernel
theorem dL_law_278 : decode cL_law 278 = .ok (.iload 13, 2) := by decide +kernel
theorem dL_law_280 : decode cL_law 280 = .ok (.iload 12, 2) := by decide +kernel
theorem dL_law_282 : decode cL_law 282 = .ok (.bipush 6, 2) := by decide +kernel
theorem dL_law_284 : decode cL_law 284 = .ok (.if_icmp .ge 10, 3) := by decide +kernel
theorem dL_law_287 : decode cL_law 287 = .ok (.iload 12, 2) := by decide +kernel
theorem dL_law_289 : decode cL_law 289 = .ok (.iconst 1, 1) := by decide +kernel
theorem dL_law_290 : decode cL_law 290 = .ok (.iadd, 1) := by decide +kernel
theorem dL_law_291 : decode cL_law 291 = .ok (.goto 5, 3) := by decide +kernel
theorem dL_law_294 : decode cL_law 294 = .ok (.bipush 6, 2) := by decide +kernel
theorem dL_law_296 : decode cL_law 296 = .ok (.if_icmp .ne 35, 3) := by decide +kernel
theorem dL_law_299 : decode cL_law 299 = .ok (.aload_n 1, 1) := by decide +kernel
theorem dL_law_300 : decode cL_law 300 = .ok (.invokestatic 172, 3) := by decide +kernel
theorem dL_law_303 : decode cL_law 303 = .ok (.ifCond .eq 28, 3) := by decide +kernel
theorem dL_law_306 : decode cL_law 306 = .ok (.iload_n 3, 1) := by decide +kernel
theorem dL_law_307 : decode cL_law 307 = .ok (.bipush 7, 2) := by decide +kernel
theorem dL_law_309 : decode cL_law 309 = .ok (.irem, 1) := by decide +kernel
theorem dL_law_310 : decode cL_law 310 = .ok (.bipush 6, 2) := by decide +kernel
theorem dL_law_312 : decode cL_law 312 = .ok (.if_icmp .ne 15, 3) := by decide +kernel
theorem dL_law_315 : decode cL_law 315 = .ok (.aload_n 1, 1) := by decide +kernel
theorem dL_law_316 : decode cL_law 316 = .ok (.iload 4, 2) := by decide +kernel
theorem dL_law_318 : decode cL_law 318 = .ok (.bipush 7, 2) := by decide +kernel
theorem dL_law_320 : decode cL_law 320 = .ok (.idiv, 1) := by decide +kernel
theorem dL_law_321 : decode cL_law 321 = .ok (.invokestatic 151, 3) := by decide +kernel
theorem dL_law_324 : decode cL_law 324 = .ok (.ifCond .eq 7, 3) := by decide +kernel
theorem dL_law_327 : decode cL_law 327 = .ok (.iconst 1, 1) := by decide +kernel
theorem dL_law_328 : decode cL_law 328 = .ok (.goto 4, 3) := by decide +kernel
theorem dL_law_331 : decode cL_law 331 = .ok (.iconst 0, 1) := by decide +kernel
theorem dL_law_332 : decode cL_law 332 = .ok (.istore_n 2, 1) := by decide +kernel
theorem dL_law_333 : decode cL_law 333 = .ok (.iload_n 2, 1) := by decide +kernel
theorem dL_law_334 : decode cL_law 334 = .ok (.ifCond .eq 89, 3) := by decide +kernel
theorem dL_law_337 : decode cL_law 337 = .ok (.iload 14, 2) := by decide +kernel
theorem dL_law_339 : decode cL_law 339 = .ok (.ifCond .ne 84, 3) := by decide +kernel
theorem dL_law_342 : decode cL_law 342 = .ok (.iload 4, 2) := by decide +kernel
theorem dL_law_344 : decode cL_law 344 = .ok (.bipush 17, 2) := by decide +kernel
theorem dL_law_346 : decode cL_law 346 = .ok (.idiv, 1) := by decide +kernel
theorem dL_law_347 : decode cL_law 347 = .ok (.iconst 3, 1) := by decide +kernel
theorem dL_law_348 : decode cL_law 348 = .ok (.irem, 1) := by decide +kernel
theorem dL_law_349 : decode cL_law 349 = .ok (.ifCond .ne 74, 3) := by decide +kernel
theorem dL_law_352 : decode cL_law 352 = .ok (.aload_n 1, 1) := by decide +kernel
theorem dL_law_353 : decode cL_law 353 = .ok (.invokevirtual 46, 3) := by decide +kernel
theorem dL_law_356 : decode cL_law 356 = .ok (.iload 12, 2) := by decide +kernel
theorem dL_law_358 : decode cL_law 358 = .ok (.bipush 6, 2) := by decide +kernel
theorem dL_law_360 : decode cL_law 360 = .ok (.if_icmp .ge 8, 3) := by decide +kernel
theorem dL_law_363 : decode cL_law 363 = .ok (.iload 12, 2) := by decide +kernel
theorem dL_law_365 : decode cL_law 365 = .ok (.goto 4, 3) := by decide +kernel
theorem dL_law_368 : decode cL_law 368 = .ok (.iconst 5, 1) := by decide +kernel
theorem dL_law_369 : decode cL_law 369 = .ok (.if_icmp .ne 52, 3) := by decide +kernel
theorem dL_law_372 : decode cL_law 372 = .ok (.aload_n 1, 1) := by decide +kernel
theorem dL_law_373 : decode cL_law 373 = .ok (.invokevirtual 128, 3) := by decide +kernel
theorem dL_law_376 : decode cL_law 376 = .ok (.iload 12, 2) := by decide +kernel
theorem dL_law_378 : decode cL_law 378 = .ok (.bipush 6, 2) := by decide +kernel
theorem dL_law_380 : decode cL_law 380 = .ok (.if_icmp .ge 8, 3) := by decide +kernel
theorem dL_law_383 : decode cL_law 383 = .ok (.iload 12, 2) := by decide +kernel
theorem dL_law_385 : decode cL_law 385 = .ok (.goto 4, 3) := by decide +kernel
theorem dL_law_388 : decode cL_law 388 = .ok (.iconst 5, 1) := by decide +kernel
theorem dL_law_389 : decode cL_law 389 = .ok (.if_icmp .ne 32, 3) := by decide +kernel
theorem dL_law_392 : decode cL_law 392 = .ok (.aload_n 1, 1) := by decide +kernel
theorem dL_law_393 : decode cL_law 393 = .ok (.invokestatic 124, 3) := by decide +kernel
theorem dL_law_396 : decode cL_law 396 = .ok (.lload 7, 2) := by decide +kernel
theorem dL_law_398 : decode cL_law 398 = .ok (.lcmp, 1) := by decide +kernel
theorem dL_law_399 : decode cL_law 399 = .ok (.ifCond .ne 22, 3) := by decide +kernel
theorem dL_law_402 : decode cL_law 402 = .ok (.iload 9, 2) := by decide +kernel
theorem dL_law_404 : decode cL_law 404 = .ok (.ifCond .eq 13, 3) := by decide +kernel
theorem dL_law_407 : decode cL_law 407 = .ok (.aload_n 1, 1) := by decide +kernel
theorem dL_law_408 : decode cL_law 408 = .ok (.invokevirtual 158, 3) := by decide +kernel
theorem dL_law_411 : decode cL_law 411 = .ok (.lload 10, 2) := by decide +kernel
theorem dL_law_413 : decode cL_law 413 = .ok (.lcmp, 1) := by decide +kernel
theorem dL_law_414 : decode cL_law 414 = .ok (.ifCond .ne 7, 3) := by decide +kernel
theorem dL_law_417 : decode cL_law 417 = .ok (.iconst 1, 1) := by decide +kernel
theorem dL_law_418 : decode cL_law 418 = .ok (.goto 4, 3) := by decide +kernel
theorem dL_law_421 : decode cL_law 421 = .ok (.iconst 0, 1) := by decide +kernel
theorem dL_law_422 : decode cL_law 422 = .ok (.istore_n 2, 1) := by decide +kernel
theorem dL_law_423 : decode cL_law 423 = .ok (.iinc 3 1, 3) := by decide +kernel
theorem dL_law_426 : decode cL_law 426 = .ok (.goto (-357), 3) := by decide +kernel
theorem dL_law_429 : decode cL_law 429 = .ok (.iload_n 2, 1) := by decide +kernel
theorem dL_law_430 : decode cL_law 430 = .ok (.ireturn, 1) := by decide +kernel
abbrev vwCl : List vw_C := [(RX0, TX0, 4), (RX1, TX1, 3), (RX2, TX2, 7), (RX3, TX3, 1), (RX4, TX4, 3), (RX5, TX5, 2), (RX6, TX6, 2), (RX7, TX7, 5)]
