theorem dL_of_0 : decode cL_of 0 = .ok (.aload_n 3, 1) := dr_45 (by decide +kernel)
theorem dL_of_1 : decode cL_of 1 = .ok (.iconst 0, 1) := dr_3 (by decide +kernel)
theorem dL_of_2 : decode cL_of 2 = .ok (.aload_n 0, 1) := dr_42 (by decide +kernel)
theorem dL_of_3 : decode cL_of 3 = .ok (.iload_n 1, 1) := dr_27 (by decide +kernel)
theorem dL_of_4 : decode cL_of 4 = .ok (.iload_n 2, 1) := dr_28 (by decide +kernel)
theorem dL_of_5 : decode cL_of 5 = .ok (.invokevirtual 7, 3) := dr_182 (by decide +kernel)
theorem dL_of_8 : decode cL_of 8 = .ok (.i2l, 1) := dr_133 (by decide +kernel)
theorem dL_of_9 : decode cL_of 9 = .ok (.lastore, 1) := dr_80 (by decide +kernel)
theorem dL_of_10 : decode cL_of 10 = .ok (.goto 7, 3) := dr_167 (by decide +kernel)
theorem dL_of_13 : decode cL_of 13 = .ok (.astore 4, 2) := dr_58 (by decide +kernel)
theorem dL_of_15 : decode cL_of 15 = .ok (.iconst 1, 1) := dr_4 (by decide +kernel)
theorem dL_of_16 : decode cL_of 16 = .ok (.ireturn, 1) := dr_172 (by decide +kernel)
theorem dL_of_17 : decode cL_of 17 = .ok (.iconst 0, 1) := dr_3 (by decide +kernel)
theorem dL_of_18 : decode cL_of 18 = .ok (.ireturn, 1) := dr_172 (by decide +kernel)
theorem dL_row_0 : decode cL_row 0 = .ok (.aload_n 2, 1) := dr_44 (by decide +kernel)
theorem dL_row_1 : decode cL_row 1 = .ok (.iconst 0, 1) := dr_3 (by decide +kernel)
theorem dL_row_2 : decode cL_row 2 = .ok (.aload_n 0, 1) := dr_42 (by decide +kernel)
theorem dL_row_3 : decode cL_row 3 = .ok (.iload_n 1, 1) := dr_27 (by decide +kernel)
theorem dL_row_4 : decode cL_row 4 = .ok (.invokevirtual 15, 3) := dr_182 (by decide +kernel)
theorem dL_row_7 : decode cL_row 7 = .ok (.lastore, 1) := dr_80 (by decide +kernel)
theorem dL_row_8 : decode cL_row 8 = .ok (.goto 6, 3) := dr_167 (by decide +kernel)
theorem dL_row_11 : decode cL_row 11 = .ok (.astore_n 3, 1) := dr_78 (by decide +kernel)
theorem dL_row_12 : decode cL_row 12 = .ok (.iconst 1, 1) := dr_4 (by decide +kernel)
theorem dL_row_13 : decode cL_row 13 = .ok (.ireturn, 1) := dr_172 (by decide +kernel)
theorem dL_row_14 : decode cL_row 14 = .ok (.iconst 0, 1) := dr_3 (by decide +kernel)
theorem dL_row_15 : decode cL_row 15 = .ok (.ireturn, 1) := dr_172 (by decide +kernel)
theorem dL_law_0 : decode cL_law 0 = .ok (.new 8, 3) := dr_187 (by decide +kernel)
theorem dL_law_3 : decode cL_law 3 = .ok (.dup, 1) := dr_89 (by decide +kernel)
theorem dL_law_4 : decode cL_law 4 = .ok (.invokespecial 19, 3) := dr_183 (by decide +kernel)
theorem dL_law_7 : decode cL_law 7 = .ok (.astore_n 1, 1) := dr_76 (by decide +kernel)
theorem dL_law_8 : decode cL_law 8 = .ok (.new 20, 3) := dr_187 (by decide +kernel)
theorem dL_law_11 : decode cL_law 11 = .ok (.dup, 1) := dr_89 (by decide +kernel)
theorem dL_law_12 : decode cL_law 12 = .ok (.invokespecial 22, 3) := dr_183 (by decide +kernel)
theorem dL_law_15 : decode cL_law 15 = .ok (.astore_n 2, 1) := dr_77 (by decide +kernel)
theorem dL_law_16 : decode cL_law 16 = .ok (.iconst 1, 1) := dr_4 (by decide +kernel)
theorem dL_law_17 : decode cL_law 17 = .ok (.newarray .long, 2) := by decide +kernel
theorem dL_law_19 : decode cL_law 19 = .ok (.astore_n 3, 1) := dr_78 (by decide +kernel)
theorem dL_law_20 : decode cL_law 20 = .ok (.iconst 0, 1) := dr_3 (by decide +kernel)
theorem dL_law_21 : decode cL_law 21 = .ok (.istore 4, 2) := dr_54 (by decide +kernel)
theorem dL_law_23 : decode cL_law 23 = .ok (.iload 4, 2) := dr_21 (by decide +kernel)
theorem dL_law_25 : decode cL_law 25 = .ok (.aload_n 0, 1) := dr_42 (by decide +kernel)
theorem dL_law_26 : decode cL_law 26 = .ok (.arraylength, 1) := dr_190 (by decide +kernel)
theorem dL_law_27 : decode cL_law 27 = .ok (.bipush 6, 2) := dr_16 (by decide +kernel)
theorem dL_law_29 : decode cL_law 29 = .ok (.isub, 1) := dr_100 (by decide +kernel)
theorem dL_law_30 : decode cL_law 30 = .ok (.if_icmp .gt 1498, 3) := dr_163 (by decide +kernel)
theorem dL_law_33 : decode cL_law 33 = .ok (.aload_n 0, 1) := dr_42 (by decide +kernel)
theorem dL_law_34 : decode cL_law 34 = .ok (.iload 4, 2) := dr_21 (by decide +kernel)
theorem dL_law_36 : decode cL_law 36 = .ok (.iaload, 1) := dr_46 (by decide +kernel)
theorem dL_law_37 : decode cL_law 37 = .ok (.bipush 63, 2) := dr_16 (by decide +kernel)
theorem dL_law_39 : decode cL_law 39 = .ok (.iand, 1) := dr_126 (by decide +kernel)
theorem dL_law_40 : decode cL_law 40 = .ok (.tableswitch 1482 0 43 #[192, 217, 242, 255, 268, 281, 318, 358, 395, 468, 521, 558, 571, 620, 657, 706, 719, 756, 781, 806, 819, 844, 857, 870, 883, 920, 969, 1018, 1043, 1092, 1117, 1154, 1179, 1192, 1217, 1266, 1279, 1292, 1329, 1354, 1379, 1404, 1429, 1454], 192) := by decide +kernel
set_option maxRecDepth 100000 in
theorem dL_law_232 : decode cL_law 232 = .ok (.aload_n 1, 1) := dr_43 (by decide +kernel)
set_option maxRecDepth 100000 in
theorem dL_law_233 : decode cL_law 233 = .ok (.aload_n 0, 1) := dr_42 (by decide +kernel)
set_option maxRecDepth 100000 in
theorem dL_law_234 : decode cL_law 234 = .ok (.iload 4, 2) := dr_21 (by decide +kernel)
set_option maxRecDepth 100000 in
theorem dL_law_236 : decode cL_law 236 = .ok (.iconst 1, 1) := dr_4 (by decide +kernel)
set_option maxRecDepth 100000 in
theorem dL_law_237 : decode cL_law 237 = .ok (.iadd, 1) := dr_96 (by decide +kernel)
set_option maxRecDepth 100000 in
theorem dL_law_238 : decode cL_law 238 = .ok (.iaload, 1) := dr_46 (by decide +kernel)
set_option maxRecDepth 100000 in
theorem dL_law_239 : decode cL_law 239 = .ok (.invokevirtual 23, 3) := dr_182 (by decide +kernel)
set_option maxRecDepth 100000 in
theorem dL_law_242 : decode cL_law 242 = .ok (.pop, 1) := dr_87 (by decide +kernel)
set_option maxRecDepth 100000 in
theorem dL_law_243 : decode cL_law 243 = .ok (.aload_n 2, 1) := dr_44 (by decide +kernel)
set_option maxRecDepth 100000 in
theorem dL_law_244 : decode cL_law 244 = .ok (.aload_n 0, 1) := dr_42 (by decide +kernel)
set_option maxRecDepth 100000 in
theorem dL_law_245 : decode cL_law 245 = .ok (.iload 4, 2) := dr_21 (by decide +kernel)
set_option maxRecDepth 100000 in
theorem dL_law_247 : decode cL_law 247 = .ok (.iconst 1, 1) := dr_4 (by decide +kernel)
set_option maxRecDepth 100000 in
theorem dL_law_248 : decode cL_law 248 = .ok (.iadd, 1) := dr_96 (by decide +kernel)
set_option maxRecDepth 100000 in
theorem dL_law_249 : decode cL_law 249 = .ok (.iaload, 1) := dr_46 (by decide +kernel)
set_option maxRecDepth 100000 in
theorem dL_law_250 : decode cL_law 250 = .ok (.invokevirtual 27, 3) := dr_182 (by decide +kernel)
set_option maxRecDepth 100000 in
theorem dL_law_253 : decode cL_law 253 = .ok (.pop, 1) := dr_87 (by decide +kernel)
set_option maxRecDepth 100000 in
theorem dL_law_254 : decode cL_law 254 = .ok (.goto 1268, 3) := dr_167 (by decide +kernel)
set_option maxRecDepth 100000 in
theorem dL_law_257 : decode cL_law 257 = .ok (.aload_n 1, 1) := dr_43 (by decide +kernel)
set_option maxRecDepth 100000 in
theorem dL_law_258 : decode cL_law 258 = .ok (.aload_n 0, 1) := dr_42 (by decide +kernel)
set_option maxRecDepth 100000 in
theorem dL_law_259 : decode cL_law 259 = .ok (.iload 4, 2) := dr_21 (by decide +kernel)
set_option maxRecDepth 100000 in
theorem dL_law_261 : decode cL_law 261 = .ok (.iconst 1, 1) := dr_4 (by decide +kernel)
set_option maxRecDepth 100000 in
theorem dL_law_262 : decode cL_law 262 = .ok (.iadd, 1) := dr_96 (by decide +kernel)
set_option maxRecDepth 100000 in
theorem dL_law_263 : decode cL_law 263 = .ok (.iaload, 1) := dr_46 (by decide +kernel)
set_option maxRecDepth 100000 in
theorem dL_law_264 : decode cL_law 264 = .ok (.invokevirtual 28, 3) := dr_182 (by decide +kernel)
set_option maxRecDepth 100000 in
theorem dL_law_267 : decode cL_law 267 = .ok (.pop, 1) := dr_87 (by decide +kernel)
set_option maxRecDepth 100000 in
theorem dL_law_268 : decode cL_law 268 = .ok (.aload_n 2, 1) := dr_44 (by decide +kernel)
set_option maxRecDepth 100000 in
theorem dL_law_269 : decode cL_law 269 = .ok (.aload_n 0, 1) := dr_42 (by decide +kernel)
set_option maxRecDepth 100000 in
theorem dL_law_270 : decode cL_law 270 = .ok (.iload 4, 2) := dr_21 (by decide +kernel)
set_option maxRecDepth 100000 in
theorem dL_law_272 : decode cL_law 272 = .ok (.iconst 1, 1) := dr_4 (by decide +kernel)
set_option maxRecDepth 100000 in
theorem dL_law_273 : decode cL_law 273 = .ok (.iadd, 1) := dr_96 (by decide +kernel)
set_option maxRecDepth 100000 in
theorem dL_law_274 : decode cL_law 274 = .ok (.iaload, 1) := dr_46 (by decide +kernel)
set_option maxRecDepth 100000 in
theorem dL_law_275 : decode cL_law 275 = .ok (.invokevirtual 32, 3) := dr_182 (by decide +kernel)
set_option maxRecDepth 100000 in
theorem dL_law_278 : decode cL_law 278 = .ok (.pop, 1) := dr_87 (by decide +kernel)
set_option maxRecDepth 100000 in
theorem dL_law_279 : decode cL_law 279 = .ok (.goto 1243, 3) := dr_167 (by decide +kernel)
set_option maxRecDepth 100000 in
theorem dL_law_282 : decode cL_law 282 = .ok (.aload_n 1, 1) := dr_43 (by decide +kernel)
set_option maxRecDepth 100000 in
theorem dL_law_283 : decode cL_law 283 = .ok (.invokevirtual 33, 3) := dr_182 (by decide +kernel)
set_option maxRecDepth 100000 in
theorem dL_law_286 : decode cL_law 286 = .ok (.pop, 1) := dr_87 (by decide +kernel)
set_option maxRecDepth 100000 in
theorem dL_law_287 : decode cL_law 287 = .ok (.aload_n 2, 1) := dr_44 (by decide +kernel)
set_option maxRecDepth 100000 in
theorem dL_law_288 : decode cL_law 288 = .ok (.invokevirtual 37, 3) := dr_182 (by decide +kernel)
set_option maxRecDepth 100000 in
theorem dL_law_291 : decode cL_law 291 = .ok (.pop, 1) := dr_87 (by decide +kernel)
set_option maxRecDepth 100000 in
theorem dL_law_292 : decode cL_law 292 = .ok (.goto 1230, 3) := dr_167 (by decide +kernel)
set_option maxRecDepth 100000 in
theorem dL_law_295 : decode cL_law 295 = .ok (.aload_n 1, 1) := dr_43 (by decide +kernel)
set_option maxRecDepth 100000 in
theorem dL_law_296 : decode cL_law 296 = .ok (.invokevirtual 38, 3) := dr_182 (by decide +kernel)
set_option maxRecDepth 100000 in
theorem dL_law_299 : decode cL_law 299 = .ok (.pop, 1) := dr_87 (by decide +kernel)
set_option maxRecDepth 100000 in
theorem dL_law_300 : decode cL_law 300 = .ok (.aload_n 2, 1) := dr_44 (by decide +kernel)
set_option maxRecDepth 100000 in
theorem dL_law_301 : decode cL_law 301 = .ok (.invokevirtual 41, 3) := dr_182 (by decide +kernel)
set_option maxRecDepth 100000 in
theorem dL_law_304 : decode cL_law 304 = .ok (.pop, 1) := dr_87 (by decide +kernel)
set_option maxRecDepth 100000 in
theorem dL_law_305 : decode cL_law 305 = .ok (.goto 1217, 3) := dr_167 (by decide +kernel)
set_option maxRecDepth 100000 in
theorem dL_law_308 : decode cL_law 308 = .ok (.aload_n 1, 1) := dr_43 (by decide +kernel)
set_option maxRecDepth 100000 in
theorem dL_law_309 : decode cL_law 309 = .ok (.invokevirtual 42, 3) := dr_182 (by decide +kernel)
set_option maxRecDepth 100000 in
theorem dL_law_312 : decode cL_law 312 = .ok (.pop, 1) := dr_87 (by decide +kernel)
set_option maxRecDepth 100000 in
theorem dL_law_313 : decode cL_law 313 = .ok (.aload_n 2, 1) := dr_44 (by decide +kernel)
set_option maxRecDepth 100000 in
theorem dL_law_314 : decode cL_law 314 = .ok (.invokevirtual 45, 3) := dr_182 (by decide +kernel)
set_option maxRecDepth 100000 in
theorem dL_law_317 : decode cL_law 317 = .ok (.pop, 1) := dr_87 (by decide +kernel)
set_option maxRecDepth 100000 in
theorem dL_law_318 : decode cL_law 318 = .ok (.goto 1204, 3) := dr_167 (by decide +kernel)
set_option maxRecDepth 100000 in
theorem dL_law_321 : decode cL_law 321 = .ok (.aload_n 1, 1) := dr_43 (by decide +kernel)
set_option maxRecDepth 100000 in
theorem dL_law_322 : decode cL_law 322 = .ok (.aload_n 0, 1) := dr_42 (by decide +kernel)
set_option maxRecDepth 100000 in
theorem dL_law_323 : decode cL_law 323 = .ok (.iload 4, 2) := dr_21 (by decide +kernel)
set_option maxRecDepth 100000 in
theorem dL_law_325 : decode cL_law 325 = .ok (.iconst 1, 1) := dr_4 (by decide +kernel)
set_option maxRecDepth 100000 in
theorem dL_law_326 : decode cL_law 326 = .ok (.iadd, 1) := dr_96 (by decide +kernel)
set_option maxRecDepth 100000 in
theorem dL_law_327 : decode cL_law 327 = .ok (.iaload, 1) := dr_46 (by decide +kernel)
set_option maxRecDepth 100000 in
theorem dL_law_328 : decode cL_law 328 = .ok (.aload_n 0, 1) := dr_42 (by decide +kernel)
set_option maxRecDepth 100000 in
theorem dL_law_329 : decode cL_law 329 = .ok (.iload 4, 2) := dr_21 (by decide +kernel)
set_option maxRecDepth 100000 in
theorem dL_law_331 : decode cL_law 331 = .ok (.iconst 2, 1) := dr_5 (by decide +kernel)
set_option maxRecDepth 100000 in
theorem dL_law_332 : decode cL_law 332 = .ok (.iadd, 1) := dr_96 (by decide +kernel)
set_option maxRecDepth 100000 in
theorem dL_law_333 : decode cL_law 333 = .ok (.iaload, 1) := dr_46 (by decide +kernel)
set_option maxRecDepth 100000 in
theorem dL_law_334 : decode cL_law 334 = .ok (.invokevirtual 46, 3) := dr_182 (by decide +kernel)
set_option maxRecDepth 100000 in
theorem dL_law_337 : decode cL_law 337 = .ok (.pop, 1) := dr_87 (by decide +kernel)
set_option maxRecDepth 100000 in
theorem dL_law_338 : decode cL_law 338 = .ok (.aload_n 2, 1) := dr_44 (by decide +kernel)
set_option maxRecDepth 100000 in
theorem dL_law_339 : decode cL_law 339 = .ok (.aload_n 0, 1) := dr_42 (by decide +kernel)
set_option maxRecDepth 100000 in
theorem dL_law_340 : decode cL_law 340 = .ok (.iload 4, 2) := dr_21 (by decide +kernel)
set_option maxRecDepth 100000 in
theorem dL_law_342 : decode cL_law 342 = .ok (.iconst 1, 1) := dr_4 (by decide +kernel)
set_option maxRecDepth 100000 in
theorem dL_law_343 : decode cL_law 343 = .ok (.iadd, 1) := dr_96 (by decide +kernel)
set_option maxRecDepth 100000 in
theorem dL_law_344 : decode cL_law 344 = .ok (.iaload, 1) := dr_46 (by decide +kernel)
set_option maxRecDepth 100000 in
theorem dL_law_345 : decode cL_law 345 = .ok (.aload_n 0, 1) := dr_42 (by decide +kernel)
set_option maxRecDepth 100000 in
theorem dL_law_346 : decode cL_law 346 = .ok (.iload 4, 2) := dr_21 (by decide +kernel)
set_option maxRecDepth 100000 in
theorem dL_law_348 : decode cL_law 348 = .ok (.iconst 2, 1) := dr_5 (by decide +kernel)
set_option maxRecDepth 100000 in
theorem dL_law_349 : decode cL_law 349 = .ok (.iadd, 1) := dr_96 (by decide +kernel)
set_option maxRecDepth 100000 in
theorem dL_law_350 : decode cL_law 350 = .ok (.iaload, 1) := dr_46 (by decide +kernel)
set_option maxRecDepth 100000 in
theorem dL_law_351 : decode cL_law 351 = .ok (.invokevirtual 49, 3) := dr_182 (by decide +kernel)
set_option maxRecDepth 100000 in
theorem dL_law_354 : decode cL_law 354 = .ok (.pop, 1) := dr_87 (by decide +kernel)
set_option maxRecDepth 100000 in
theorem dL_law_355 : decode cL_law 355 = .ok (.goto 1167, 3) := dr_167 (by decide +kernel)
set_option maxRecDepth 100000 in
theorem dL_law_358 : decode cL_law 358 = .ok (.aload_n 1, 1) := dr_43 (by decide +kernel)
set_option maxRecDepth 100000 in
theorem dL_law_359 : decode cL_law 359 = .ok (.aload_n 0, 1) := dr_42 (by decide +kernel)
set_option maxRecDepth 100000 in
theorem dL_law_360 : decode cL_law 360 = .ok (.iload 4, 2) := dr_21 (by decide +kernel)
set_option maxRecDepth 100000 in
theorem dL_law_362 : decode cL_law 362 = .ok (.iconst 1, 1) := dr_4 (by decide +kernel)
set_option maxRecDepth 100000 in
theorem dL_law_363 : decode cL_law 363 = .ok (.iadd, 1) := dr_96 (by decide +kernel)
set_option maxRecDepth 100000 in
theorem dL_law_364 : decode cL_law 364 = .ok (.iaload, 1) := dr_46 (by decide +kernel)
set_option maxRecDepth 100000 in
theorem dL_law_365 : decode cL_law 365 = .ok (.aload_n 0, 1) := dr_42 (by decide +kernel)
set_option maxRecDepth 100000 in
theorem dL_law_366 : decode cL_law 366 = .ok (.iload 4, 2) := dr_21 (by decide +kernel)
set_option maxRecDepth 100000 in
theorem dL_law_368 : decode cL_law 368 = .ok (.iconst 2, 1) := dr_5 (by decide +kernel)
set_option maxRecDepth 100000 in
theorem dL_law_369 : decode cL_law 369 = .ok (.iadd, 1) := dr_96 (by decide +kernel)
set_option maxRecDepth 100000 in
theorem dL_law_370 : decode cL_law 370 = .ok (.iaload, 1) := dr_46 (by decide +kernel)
set_option maxRecDepth 100000 in
theorem dL_law_371 : decode cL_law 371 = .ok (.aload_n 3, 1) := dr_45 (by decide +kernel)
set_option maxRecDepth 100000 in
theorem dL_law_372 : decode cL_law 372 = .ok (.invokestatic 50, 3) := dr_184 (by decide +kernel)
set_option maxRecDepth 100000 in
theorem dL_law_375 : decode cL_law 375 = .ok (.istore 5, 2) := dr_54 (by decide +kernel)
set_option maxRecDepth 100000 in
theorem dL_law_377 : decode cL_law 377 = .ok (.aload_n 2, 1) := dr_44 (by decide +kernel)
set_option maxRecDepth 100000 in
theorem dL_law_378 : decode cL_law 378 = .ok (.aload_n 0, 1) := dr_42 (by decide +kernel)
set_option maxRecDepth 100000 in
theorem dL_law_379 : decode cL_law 379 = .ok (.iload 4, 2) := dr_21 (by decide +kernel)
set_option maxRecDepth 100000 in
theorem dL_law_381 : decode cL_law 381 = .ok (.iconst 1, 1) := dr_4 (by decide +kernel)
set_option maxRecDepth 100000 in
theorem dL_law_382 : decode cL_law 382 = .ok (.iadd, 1) := dr_96 (by decide +kernel)
set_option maxRecDepth 100000 in
theorem dL_law_383 : decode cL_law 383 = .ok (.iaload, 1) := dr_46 (by decide +kernel)
set_option maxRecDepth 100000 in
theorem dL_law_384 : decode cL_law 384 = .ok (.aload_n 0, 1) := dr_42 (by decide +kernel)
set_option maxRecDepth 100000 in
theorem dL_law_385 : decode cL_law 385 = .ok (.iload 4, 2) := dr_21 (by decide +kernel)
set_option maxRecDepth 100000 in
theorem dL_law_387 : decode cL_law 387 = .ok (.iconst 2, 1) := dr_5 (by decide +kernel)
set_option maxRecDepth 100000 in
theorem dL_law_388 : decode cL_law 388 = .ok (.iadd, 1) := dr_96 (by decide +kernel)
set_option maxRecDepth 100000 in
theorem dL_law_389 : decode cL_law 389 = .ok (.iaload, 1) := dr_46 (by decide +kernel)
set_option maxRecDepth 100000 in
theorem dL_law_390 : decode cL_law 390 = .ok (.invokevirtual 55, 3) := dr_182 (by decide +kernel)
set_option maxRecDepth 100000 in
theorem dL_law_393 : decode cL_law 393 = .ok (.istore 6, 2) := dr_54 (by decide +kernel)
set_option maxRecDepth 100000 in
theorem dL_law_395 : decode cL_law 395 = .ok (.goto 1127, 3) := dr_167 (by decide +kernel)
set_option maxRecDepth 100000 in
theorem dL_law_398 : decode cL_law 398 = .ok (.aload_n 1, 1) := dr_43 (by decide +kernel)
set_option maxRecDepth 100000 in
theorem dL_law_399 : decode cL_law 399 = .ok (.aload_n 0, 1) := dr_42 (by decide +kernel)
set_option maxRecDepth 100000 in
theorem dL_law_400 : decode cL_law 400 = .ok (.iload 4, 2) := dr_21 (by decide +kernel)
set_option maxRecDepth 100000 in
theorem dL_law_402 : decode cL_law 402 = .ok (.iconst 1, 1) := dr_4 (by decide +kernel)
set_option maxRecDepth 100000 in
theorem dL_law_403 : decode cL_law 403 = .ok (.iadd, 1) := dr_96 (by decide +kernel)
set_option maxRecDepth 100000 in
theorem dL_law_404 : decode cL_law 404 = .ok (.iaload, 1) := dr_46 (by decide +kernel)
set_option maxRecDepth 100000 in
theorem dL_law_405 : decode cL_law 405 = .ok (.aload_n 0, 1) := dr_42 (by decide +kernel)
set_option maxRecDepth 100000 in
theorem dL_law_406 : decode cL_law 406 = .ok (.iload 4, 2) := dr_21 (by decide +kernel)
set_option maxRecDepth 100000 in
theorem dL_law_408 : decode cL_law 408 = .ok (.iconst 2, 1) := dr_5 (by decide +kernel)
set_option maxRecDepth 100000 in
theorem dL_law_409 : decode cL_law 409 = .ok (.iadd, 1) := dr_96 (by decide +kernel)
set_option maxRecDepth 100000 in
theorem dL_law_410 : decode cL_law 410 = .ok (.iaload, 1) := dr_46 (by decide +kernel)
set_option maxRecDepth 100000 in
theorem dL_law_411 : decode cL_law 411 = .ok (.invokevirtual 56, 3) := dr_182 (by decide +kernel)
set_option maxRecDepth 100000 in
theorem dL_law_414 : decode cL_law 414 = .ok (.pop, 1) := dr_87 (by decide +kernel)
set_option maxRecDepth 100000 in
theorem dL_law_415 : decode cL_law 415 = .ok (.aload_n 2, 1) := dr_44 (by decide +kernel)
set_option maxRecDepth 100000 in
theorem dL_law_416 : decode cL_law 416 = .ok (.aload_n 0, 1) := dr_42 (by decide +kernel)
set_option maxRecDepth 100000 in
theorem dL_law_417 : decode cL_law 417 = .ok (.iload 4, 2) := dr_21 (by decide +kernel)
set_option maxRecDepth 100000 in
theorem dL_law_419 : decode cL_law 419 = .ok (.iconst 1, 1) := dr_4 (by decide +kernel)
set_option maxRecDepth 100000 in
theorem dL_law_420 : decode cL_law 420 = .ok (.iadd, 1) := dr_96 (by decide +kernel)
set_option maxRecDepth 100000 in
theorem dL_law_421 : decode cL_law 421 = .ok (.iaload, 1) := dr_46 (by decide +kernel)
set_option maxRecDepth 100000 in
theorem dL_law_422 : decode cL_law 422 = .ok (.aload_n 0, 1) := dr_42 (by decide +kernel)
set_option maxRecDepth 100000 in
theorem dL_law_423 : decode cL_law 423 = .ok (.iload 4, 2) := dr_21 (by decide +kernel)
set_option maxRecDepth 100000 in
theorem dL_law_425 : decode cL_law 425 = .ok (.iconst 2, 1) := dr_5 (by decide +kernel)
set_option maxRecDepth 100000 in
theorem dL_law_426 : decode cL_law 426 = .ok (.iadd, 1) := dr_96 (by decide +kernel)
set_option maxRecDepth 100000 in
theorem dL_law_427 : decode cL_law 427 = .ok (.iaload, 1) := dr_46 (by decide +kernel)
set_option maxRecDepth 100000 in
theorem dL_law_428 : decode cL_law 428 = .ok (.invokevirtual 59, 3) := dr_182 (by decide +kernel)
set_option maxRecDepth 100000 in
theorem dL_law_431 : decode cL_law 431 = .ok (.pop, 1) := dr_87 (by decide +kernel)
set_option maxRecDepth 100000 in
theorem dL_law_432 : decode cL_law 432 = .ok (.goto 1090, 3) := dr_167 (by decide +kernel)
set_option maxRecDepth 100000 in
theorem dL_law_435 : decode cL_law 435 = .ok (.aload_n 1, 1) := dr_43 (by decide +kernel)
set_option maxRecDepth 100000 in
theorem dL_law_436 : decode cL_law 436 = .ok (.aload_n 0, 1) := dr_42 (by decide +kernel)
set_option maxRecDepth 100000 in
theorem dL_law_437 : decode cL_law 437 = .ok (.iload 4, 2) := dr_21 (by decide +kernel)
set_option maxRecDepth 100000 in
theorem dL_law_439 : decode cL_law 439 = .ok (.iconst 1, 1) := dr_4 (by decide +kernel)
set_option maxRecDepth 100000 in
theorem dL_law_440 : decode cL_law 440 = .ok (.iadd, 1) := dr_96 (by decide +kernel)
set_option maxRecDepth 100000 in
theorem dL_law_441 : decode cL_law 441 = .ok (.iaload, 1) := dr_46 (by decide +kernel)
set_option maxRecDepth 100000 in
theorem dL_law_442 : decode cL_law 442 = .ok (.aload_n 0, 1) := dr_42 (by decide +kernel)
set_option maxRecDepth 100000 in
theorem dL_law_443 : decode cL_law 443 = .ok (.iload 4, 2) := dr_21 (by decide +kernel)
set_option maxRecDepth 100000 in
theorem dL_law_445 : decode cL_law 445 = .ok (.iconst 2, 1) := dr_5 (by decide +kernel)
set_option maxRecDepth 100000 in
theorem dL_law_446 : decode cL_law 446 = .ok (.iadd, 1) := dr_96 (by decide +kernel)
set_option maxRecDepth 100000 in
theorem dL_law_447 : decode cL_law 447 = .ok (.iaload, 1) := dr_46 (by decide +kernel)
set_option maxRecDepth 100000 in
theorem dL_law_448 : decode cL_law 448 = .ok (.aload_n 0, 1) := dr_42 (by decide +kernel)
set_option maxRecDepth 100000 in
theorem dL_law_449 : decode cL_law 449 = .ok (.iload 4, 2) := dr_21 (by decide +kernel)
set_option maxRecDepth 100000 in
theorem dL_law_451 : decode cL_law 451 = .ok (.iconst 3, 1) := dr_6 (by decide +kernel)
set_option maxRecDepth 100000 in
theorem dL_law_452 : decode cL_law 452 = .ok (.iadd, 1) := dr_96 (by decide +kernel)
set_option maxRecDepth 100000 in
theorem dL_law_453 : decode cL_law 453 = .ok (.iaload, 1) := dr_46 (by decide +kernel)
set_option maxRecDepth 100000 in
theorem dL_law_454 : decode cL_law 454 = .ok (.aload_n 0, 1) := dr_42 (by decide +kernel)
set_option maxRecDepth 100000 in
theorem dL_law_455 : decode cL_law 455 = .ok (.iload 4, 2) := dr_21 (by decide +kernel)
set_option maxRecDepth 100000 in
theorem dL_law_457 : decode cL_law 457 = .ok (.iconst 4, 1) := dr_7 (by decide +kernel)
set_option maxRecDepth 100000 in
theorem dL_law_458 : decode cL_law 458 = .ok (.iadd, 1) := dr_96 (by decide +kernel)
set_option maxRecDepth 100000 in
theorem dL_law_459 : decode cL_law 459 = .ok (.iaload, 1) := dr_46 (by decide +kernel)
set_option maxRecDepth 100000 in
theorem dL_law_460 : decode cL_law 460 = .ok (.aload_n 0, 1) := dr_42 (by decide +kernel)
set_option maxRecDepth 100000 in
theorem dL_law_461 : decode cL_law 461 = .ok (.iload 4, 2) := dr_21 (by decide +kernel)
set_option maxRecDepth 100000 in
theorem dL_law_463 : decode cL_law 463 = .ok (.iconst 5, 1) := dr_8 (by decide +kernel)
set_option maxRecDepth 100000 in
theorem dL_law_464 : decode cL_law 464 = .ok (.iadd, 1) := dr_96 (by decide +kernel)
set_option maxRecDepth 100000 in
theorem dL_law_465 : decode cL_law 465 = .ok (.iaload, 1) := dr_46 (by decide +kernel)
set_option maxRecDepth 100000 in
theorem dL_law_466 : decode cL_law 466 = .ok (.invokevirtual 60, 3) := dr_182 (by decide +kernel)
set_option maxRecDepth 100000 in
theorem dL_law_469 : decode cL_law 469 = .ok (.pop, 1) := dr_87 (by decide +kernel)
set_option maxRecDepth 100000 in
theorem dL_law_470 : decode cL_law 470 = .ok (.aload_n 2, 1) := dr_44 (by decide +kernel)
set_option maxRecDepth 100000 in
theorem dL_law_471 : decode cL_law 471 = .ok (.aload_n 0, 1) := dr_42 (by decide +kernel)
set_option maxRecDepth 100000 in
theorem dL_law_472 : decode cL_law 472 = .ok (.iload 4, 2) := dr_21 (by decide +kernel)
set_option maxRecDepth 100000 in
theorem dL_law_474 : decode cL_law 474 = .ok (.iconst 1, 1) := dr_4 (by decide +kernel)
set_option maxRecDepth 100000 in
theorem dL_law_475 : decode cL_law 475 = .ok (.iadd, 1) := dr_96 (by decide +kernel)
set_option maxRecDepth 100000 in
theorem dL_law_476 : decode cL_law 476 = .ok (.iaload, 1) := dr_46 (by decide +kernel)
set_option maxRecDepth 100000 in
theorem dL_law_477 : decode cL_law 477 = .ok (.aload_n 0, 1) := dr_42 (by decide +kernel)
set_option maxRecDepth 100000 in
theorem dL_law_478 : decode cL_law 478 = .ok (.iload 4, 2) := dr_21 (by decide +kernel)
set_option maxRecDepth 100000 in
theorem dL_law_480 : decode cL_law 480 = .ok (.iconst 2, 1) := dr_5 (by decide +kernel)
set_option maxRecDepth 100000 in
theorem dL_law_481 : decode cL_law 481 = .ok (.iadd, 1) := dr_96 (by decide +kernel)
set_option maxRecDepth 100000 in
theorem dL_law_482 : decode cL_law 482 = .ok (.iaload, 1) := dr_46 (by decide +kernel)
set_option maxRecDepth 100000 in
theorem dL_law_483 : decode cL_law 483 = .ok (.aload_n 0, 1) := dr_42 (by decide +kernel)
set_option maxRecDepth 100000 in
theorem dL_law_484 : decode cL_law 484 = .ok (.iload 4, 2) := dr_21 (by decide +kernel)
set_option maxRecDepth 100000 in
theorem dL_law_486 : decode cL_law 486 = .ok (.iconst 3, 1) := dr_6 (by decide +kernel)
set_option maxRecDepth 100000 in
theorem dL_law_487 : decode cL_law 487 = .ok (.iadd, 1) := dr_96 (by decide +kernel)
set_option maxRecDepth 100000 in
theorem dL_law_488 : decode cL_law 488 = .ok (.iaload, 1) := dr_46 (by decide +kernel)
set_option maxRecDepth 100000 in
theorem dL_law_489 : decode cL_law 489 = .ok (.aload_n 0, 1) := dr_42 (by decide +kernel)
set_option maxRecDepth 100000 in
theorem dL_law_490 : decode cL_law 490 = .ok (.iload 4, 2) := dr_21 (by decide +kernel)
set_option maxRecDepth 100000 in
theorem dL_law_492 : decode cL_law 492 = .ok (.iconst 4, 1) := dr_7 (by decide +kernel)
set_option maxRecDepth 100000 in
theorem dL_law_493 : decode cL_law 493 = .ok (.iadd, 1) := dr_96 (by decide +kernel)
set_option maxRecDepth 100000 in
theorem dL_law_494 : decode cL_law 494 = .ok (.iaload, 1) := dr_46 (by decide +kernel)
set_option maxRecDepth 100000 in
theorem dL_law_495 : decode cL_law 495 = .ok (.aload_n 0, 1) := dr_42 (by decide +kernel)
set_option maxRecDepth 100000 in
theorem dL_law_496 : decode cL_law 496 = .ok (.iload 4, 2) := dr_21 (by decide +kernel)
set_option maxRecDepth 100000 in
theorem dL_law_498 : decode cL_law 498 = .ok (.iconst 5, 1) := dr_8 (by decide +kernel)
set_option maxRecDepth 100000 in
theorem dL_law_499 : decode cL_law 499 = .ok (.iadd, 1) := dr_96 (by decide +kernel)
set_option maxRecDepth 100000 in
theorem dL_law_500 : decode cL_law 500 = .ok (.iaload, 1) := dr_46 (by decide +kernel)
set_option maxRecDepth 100000 in
theorem dL_law_501 : decode cL_law 501 = .ok (.invokevirtual 64, 3) := dr_182 (by decide +kernel)
set_option maxRecDepth 100000 in
theorem dL_law_504 : decode cL_law 504 = .ok (.pop, 1) := dr_87 (by decide +kernel)
set_option maxRecDepth 100000 in
theorem dL_law_505 : decode cL_law 505 = .ok (.goto 1017, 3) := dr_167 (by decide +kernel)
set_option maxRecDepth 100000 in
theorem dL_law_508 : decode cL_law 508 = .ok (.aload_n 1, 1) := dr_43 (by decide +kernel)
set_option maxRecDepth 100000 in
theorem dL_law_509 : decode cL_law 509 = .ok (.aload_n 0, 1) := dr_42 (by decide +kernel)
set_option maxRecDepth 100000 in
theorem dL_law_510 : decode cL_law 510 = .ok (.iload 4, 2) := dr_21 (by decide +kernel)
set_option maxRecDepth 100000 in
theorem dL_law_512 : decode cL_law 512 = .ok (.iconst 1, 1) := dr_4 (by decide +kernel)
set_option maxRecDepth 100000 in
theorem dL_law_513 : decode cL_law 513 = .ok (.iadd, 1) := dr_96 (by decide +kernel)
set_option maxRecDepth 100000 in
theorem dL_law_514 : decode cL_law 514 = .ok (.iaload, 1) := dr_46 (by decide +kernel)
set_option maxRecDepth 100000 in
theorem dL_law_515 : decode cL_law 515 = .ok (.aload_n 0, 1) := dr_42 (by decide +kernel)
set_option maxRecDepth 100000 in
theorem dL_law_516 : decode cL_law 516 = .ok (.iload 4, 2) := dr_21 (by decide +kernel)
set_option maxRecDepth 100000 in
theorem dL_law_518 : decode cL_law 518 = .ok (.iconst 2, 1) := dr_5 (by decide +kernel)
set_option maxRecDepth 100000 in
theorem dL_law_519 : decode cL_law 519 = .ok (.iadd, 1) := dr_96 (by decide +kernel)
set_option maxRecDepth 100000 in
theorem dL_law_520 : decode cL_law 520 = .ok (.iaload, 1) := dr_46 (by decide +kernel)
set_option maxRecDepth 100000 in
theorem dL_law_521 : decode cL_law 521 = .ok (.ifCond .eq 7, 3) := dr_153 (by decide +kernel)
set_option maxRecDepth 100000 in
theorem dL_law_524 : decode cL_law 524 = .ok (.iconst 1, 1) := dr_4 (by decide +kernel)
set_option maxRecDepth 100000 in
theorem dL_law_525 : decode cL_law 525 = .ok (.goto 4, 3) := dr_167 (by decide +kernel)
set_option maxRecDepth 100000 in
theorem dL_law_528 : decode cL_law 528 = .ok (.iconst 0, 1) := dr_3 (by decide +kernel)
set_option maxRecDepth 100000 in
theorem dL_law_529 : decode cL_law 529 = .ok (.invokevirtual 65, 3) := dr_182 (by decide +kernel)
set_option maxRecDepth 100000 in
theorem dL_law_532 : decode cL_law 532 = .ok (.pop, 1) := dr_87 (by decide +kernel)
set_option maxRecDepth 100000 in
theorem dL_law_533 : decode cL_law 533 = .ok (.aload_n 2, 1) := dr_44 (by decide +kernel)
set_option maxRecDepth 100000 in
theorem dL_law_534 : decode cL_law 534 = .ok (.aload_n 0, 1) := dr_42 (by decide +kernel)
set_option maxRecDepth 100000 in
theorem dL_law_535 : decode cL_law 535 = .ok (.iload 4, 2) := dr_21 (by decide +kernel)
set_option maxRecDepth 100000 in
theorem dL_law_537 : decode cL_law 537 = .ok (.iconst 1, 1) := dr_4 (by decide +kernel)
set_option maxRecDepth 100000 in
theorem dL_law_538 : decode cL_law 538 = .ok (.iadd, 1) := dr_96 (by decide +kernel)
set_option maxRecDepth 100000 in
theorem dL_law_539 : decode cL_law 539 = .ok (.iaload, 1) := dr_46 (by decide +kernel)
set_option maxRecDepth 100000 in
theorem dL_law_540 : decode cL_law 540 = .ok (.aload_n 0, 1) := dr_42 (by decide +kernel)
set_option maxRecDepth 100000 in
theorem dL_law_541 : decode cL_law 541 = .ok (.iload 4, 2) := dr_21 (by decide +kernel)
set_option maxRecDepth 100000 in
theorem dL_law_543 : decode cL_law 543 = .ok (.iconst 2, 1) := dr_5 (by decide +kernel)
set_option maxRecDepth 100000 in
theorem dL_law_544 : decode cL_law 544 = .ok (.iadd, 1) := dr_96 (by decide +kernel)
set_option maxRecDepth 100000 in
theorem dL_law_545 : decode cL_law 545 = .ok (.iaload, 1) := dr_46 (by decide +kernel)
set_option maxRecDepth 100000 in
theorem dL_law_546 : decode cL_law 546 = .ok (.ifCond .eq 7, 3) := dr_153 (by decide +kernel)
set_option maxRecDepth 100000 in
theorem dL_law_549 : decode cL_law 549 = .ok (.iconst 1, 1) := dr_4 (by decide +kernel)
set_option maxRecDepth 100000 in
theorem dL_law_550 : decode cL_law 550 = .ok (.goto 4, 3) := dr_167 (by decide +kernel)
set_option maxRecDepth 100000 in
theorem dL_law_553 : decode cL_law 553 = .ok (.iconst 0, 1) := dr_3 (by decide +kernel)
set_option maxRecDepth 100000 in
theorem dL_law_554 : decode cL_law 554 = .ok (.invokevirtual 69, 3) := dr_182 (by decide +kernel)
set_option maxRecDepth 100000 in
theorem dL_law_557 : decode cL_law 557 = .ok (.pop, 1) := dr_87 (by decide +kernel)
set_option maxRecDepth 100000 in
theorem dL_law_558 : decode cL_law 558 = .ok (.goto 964, 3) := dr_167 (by decide +kernel)
set_option maxRecDepth 100000 in
theorem dL_law_561 : decode cL_law 561 = .ok (.aload_n 1, 1) := dr_43 (by decide +kernel)
set_option maxRecDepth 100000 in
theorem dL_law_562 : decode cL_law 562 = .ok (.aload_n 0, 1) := dr_42 (by decide +kernel)
set_option maxRecDepth 100000 in
theorem dL_law_563 : decode cL_law 563 = .ok (.iload 4, 2) := dr_21 (by decide +kernel)
set_option maxRecDepth 100000 in
theorem dL_law_565 : decode cL_law 565 = .ok (.iconst 1, 1) := dr_4 (by decide +kernel)
set_option maxRecDepth 100000 in
theorem dL_law_566 : decode cL_law 566 = .ok (.iadd, 1) := dr_96 (by decide +kernel)
set_option maxRecDepth 100000 in
theorem dL_law_567 : decode cL_law 567 = .ok (.iaload, 1) := dr_46 (by decide +kernel)
set_option maxRecDepth 100000 in
theorem dL_law_568 : decode cL_law 568 = .ok (.aload_n 0, 1) := dr_42 (by decide +kernel)
set_option maxRecDepth 100000 in
theorem dL_law_569 : decode cL_law 569 = .ok (.iload 4, 2) := dr_21 (by decide +kernel)
set_option maxRecDepth 100000 in
theorem dL_law_571 : decode cL_law 571 = .ok (.iconst 2, 1) := dr_5 (by decide +kernel)
set_option maxRecDepth 100000 in
theorem dL_law_572 : decode cL_law 572 = .ok (.iadd, 1) := dr_96 (by decide +kernel)
set_option maxRecDepth 100000 in
theorem dL_law_573 : decode cL_law 573 = .ok (.iaload, 1) := dr_46 (by decide +kernel)
set_option maxRecDepth 100000 in
theorem dL_law_574 : decode cL_law 574 = .ok (.invokevirtual 70, 3) := dr_182 (by decide +kernel)
set_option maxRecDepth 100000 in
theorem dL_law_577 : decode cL_law 577 = .ok (.pop, 1) := dr_87 (by decide +kernel)
set_option maxRecDepth 100000 in
theorem dL_law_578 : decode cL_law 578 = .ok (.aload_n 2, 1) := dr_44 (by decide +kernel)
set_option maxRecDepth 100000 in
theorem dL_law_579 : decode cL_law 579 = .ok (.aload_n 0, 1) := dr_42 (by decide +kernel)
set_option maxRecDepth 100000 in
theorem dL_law_580 : decode cL_law 580 = .ok (.iload 4, 2) := dr_21 (by decide +kernel)
set_option maxRecDepth 100000 in
theorem dL_law_582 : decode cL_law 582 = .ok (.iconst 1, 1) := dr_4 (by decide +kernel)
set_option maxRecDepth 100000 in
theorem dL_law_583 : decode cL_law 583 = .ok (.iadd, 1) := dr_96 (by decide +kernel)
set_option maxRecDepth 100000 in
theorem dL_law_584 : decode cL_law 584 = .ok (.iaload, 1) := dr_46 (by decide +kernel)
set_option maxRecDepth 100000 in
theorem dL_law_585 : decode cL_law 585 = .ok (.aload_n 0, 1) := dr_42 (by decide +kernel)
set_option maxRecDepth 100000 in
theorem dL_law_586 : decode cL_law 586 = .ok (.iload 4, 2) := dr_21 (by decide +kernel)
set_option maxRecDepth 100000 in
theorem dL_law_588 : decode cL_law 588 = .ok (.iconst 2, 1) := dr_5 (by decide +kernel)
set_option maxRecDepth 100000 in
theorem dL_law_589 : decode cL_law 589 = .ok (.iadd, 1) := dr_96 (by decide +kernel)
set_option maxRecDepth 100000 in
theorem dL_law_590 : decode cL_law 590 = .ok (.iaload, 1) := dr_46 (by decide +kernel)
set_option maxRecDepth 100000 in
theorem dL_law_591 : decode cL_law 591 = .ok (.invokevirtual 74, 3) := dr_182 (by decide +kernel)
set_option maxRecDepth 100000 in
theorem dL_law_594 : decode cL_law 594 = .ok (.pop, 1) := dr_87 (by decide +kernel)
set_option maxRecDepth 100000 in
theorem dL_law_595 : decode cL_law 595 = .ok (.goto 927, 3) := dr_167 (by decide +kernel)
set_option maxRecDepth 100000 in
theorem dL_law_598 : decode cL_law 598 = .ok (.aload_n 1, 1) := dr_43 (by decide +kernel)
set_option maxRecDepth 100000 in
theorem dL_law_599 : decode cL_law 599 = .ok (.invokevirtual 75, 3) := dr_182 (by decide +kernel)
set_option maxRecDepth 100000 in
theorem dL_law_602 : decode cL_law 602 = .ok (.pop, 1) := dr_87 (by decide +kernel)
set_option maxRecDepth 100000 in
theorem dL_law_603 : decode cL_law 603 = .ok (.aload_n 2, 1) := dr_44 (by decide +kernel)
set_option maxRecDepth 100000 in
theorem dL_law_604 : decode cL_law 604 = .ok (.invokevirtual 78, 3) := dr_182 (by decide +kernel)
set_option maxRecDepth 100000 in
theorem dL_law_607 : decode cL_law 607 = .ok (.pop, 1) := dr_87 (by decide +kernel)
set_option maxRecDepth 100000 in
theorem dL_law_608 : decode cL_law 608 = .ok (.goto 914, 3) := dr_167 (by decide +kernel)
set_option maxRecDepth 100000 in
theorem dL_law_611 : decode cL_law 611 = .ok (.aload_n 1, 1) := dr_43 (by decide +kernel)
set_option maxRecDepth 100000 in
theorem dL_law_612 : decode cL_law 612 = .ok (.aload_n 0, 1) := dr_42 (by decide +kernel)
set_option maxRecDepth 100000 in
theorem dL_law_613 : decode cL_law 613 = .ok (.iload 4, 2) := dr_21 (by decide +kernel)
set_option maxRecDepth 100000 in
theorem dL_law_615 : decode cL_law 615 = .ok (.iconst 1, 1) := dr_4 (by decide +kernel)
set_option maxRecDepth 100000 in
theorem dL_law_616 : decode cL_law 616 = .ok (.iadd, 1) := dr_96 (by decide +kernel)
set_option maxRecDepth 100000 in
theorem dL_law_617 : decode cL_law 617 = .ok (.iaload, 1) := dr_46 (by decide +kernel)
set_option maxRecDepth 100000 in
theorem dL_law_618 : decode cL_law 618 = .ok (.aload_n 0, 1) := dr_42 (by decide +kernel)
set_option maxRecDepth 100000 in
theorem dL_law_619 : decode cL_law 619 = .ok (.iload 4, 2) := dr_21 (by decide +kernel)
set_option maxRecDepth 100000 in
theorem dL_law_621 : decode cL_law 621 = .ok (.iconst 2, 1) := dr_5 (by decide +kernel)
set_option maxRecDepth 100000 in
theorem dL_law_622 : decode cL_law 622 = .ok (.iadd, 1) := dr_96 (by decide +kernel)
set_option maxRecDepth 100000 in
theorem dL_law_623 : decode cL_law 623 = .ok (.iaload, 1) := dr_46 (by decide +kernel)
set_option maxRecDepth 100000 in
theorem dL_law_624 : decode cL_law 624 = .ok (.aload_n 0, 1) := dr_42 (by decide +kernel)
set_option maxRecDepth 100000 in
theorem dL_law_625 : decode cL_law 625 = .ok (.iload 4, 2) := dr_21 (by decide +kernel)
set_option maxRecDepth 100000 in
theorem dL_law_627 : decode cL_law 627 = .ok (.iconst 3, 1) := dr_6 (by decide +kernel)
set_option maxRecDepth 100000 in
theorem dL_law_628 : decode cL_law 628 = .ok (.iadd, 1) := dr_96 (by decide +kernel)
set_option maxRecDepth 100000 in
theorem dL_law_629 : decode cL_law 629 = .ok (.iaload, 1) := dr_46 (by decide +kernel)
set_option maxRecDepth 100000 in
theorem dL_law_630 : decode cL_law 630 = .ok (.invokevirtual 79, 3) := dr_182 (by decide +kernel)
set_option maxRecDepth 100000 in
theorem dL_law_633 : decode cL_law 633 = .ok (.pop, 1) := dr_87 (by decide +kernel)
set_option maxRecDepth 100000 in
theorem dL_law_634 : decode cL_law 634 = .ok (.aload_n 2, 1) := dr_44 (by decide +kernel)
set_option maxRecDepth 100000 in
theorem dL_law_635 : decode cL_law 635 = .ok (.aload_n 0, 1) := dr_42 (by decide +kernel)
set_option maxRecDepth 100000 in
theorem dL_law_636 : decode cL_law 636 = .ok (.iload 4, 2) := dr_21 (by decide +kernel)
set_option maxRecDepth 100000 in
theorem dL_law_638 : decode cL_law 638 = .ok (.iconst 1, 1) := dr_4 (by decide +kernel)
set_option maxRecDepth 100000 in
theorem dL_law_639 : decode cL_law 639 = .ok (.iadd, 1) := dr_96 (by decide +kernel)
set_option maxRecDepth 100000 in
theorem dL_law_640 : decode cL_law 640 = .ok (.iaload, 1) := dr_46 (by decide +kernel)
set_option maxRecDepth 100000 in
theorem dL_law_641 : decode cL_law 641 = .ok (.aload_n 0, 1) := dr_42 (by decide +kernel)
set_option maxRecDepth 100000 in
theorem dL_law_642 : decode cL_law 642 = .ok (.iload 4, 2) := dr_21 (by decide +kernel)
set_option maxRecDepth 100000 in
theorem dL_law_644 : decode cL_law 644 = .ok (.iconst 2, 1) := dr_5 (by decide +kernel)
set_option maxRecDepth 100000 in
theorem dL_law_645 : decode cL_law 645 = .ok (.iadd, 1) := dr_96 (by decide +kernel)
set_option maxRecDepth 100000 in
theorem dL_law_646 : decode cL_law 646 = .ok (.iaload, 1) := dr_46 (by decide +kernel)
set_option maxRecDepth 100000 in
theorem dL_law_647 : decode cL_law 647 = .ok (.aload_n 0, 1) := dr_42 (by decide +kernel)
set_option maxRecDepth 100000 in
theorem dL_law_648 : decode cL_law 648 = .ok (.iload 4, 2) := dr_21 (by decide +kernel)
set_option maxRecDepth 100000 in
theorem dL_law_650 : decode cL_law 650 = .ok (.iconst 3, 1) := dr_6 (by decide +kernel)
set_option maxRecDepth 100000 in
theorem dL_law_651 : decode cL_law 651 = .ok (.iadd, 1) := dr_96 (by decide +kernel)
set_option maxRecDepth 100000 in
theorem dL_law_652 : decode cL_law 652 = .ok (.iaload, 1) := dr_46 (by decide +kernel)
set_option maxRecDepth 100000 in
theorem dL_law_653 : decode cL_law 653 = .ok (.invokevirtual 83, 3) := dr_182 (by decide +kernel)
set_option maxRecDepth 100000 in
theorem dL_law_656 : decode cL_law 656 = .ok (.pop, 1) := dr_87 (by decide +kernel)
set_option maxRecDepth 100000 in
theorem dL_law_657 : decode cL_law 657 = .ok (.goto 865, 3) := dr_167 (by decide +kernel)
set_option maxRecDepth 100000 in
theorem dL_law_660 : decode cL_law 660 = .ok (.aload_n 1, 1) := dr_43 (by decide +kernel)
set_option maxRecDepth 100000 in
theorem dL_law_661 : decode cL_law 661 = .ok (.aload_n 0, 1) := dr_42 (by decide +kernel)
set_option maxRecDepth 100000 in
theorem dL_law_662 : decode cL_law 662 = .ok (.iload 4, 2) := dr_21 (by decide +kernel)
set_option maxRecDepth 100000 in
theorem dL_law_664 : decode cL_law 664 = .ok (.iconst 1, 1) := dr_4 (by decide +kernel)
set_option maxRecDepth 100000 in
theorem dL_law_665 : decode cL_law 665 = .ok (.iadd, 1) := dr_96 (by decide +kernel)
set_option maxRecDepth 100000 in
theorem dL_law_666 : decode cL_law 666 = .ok (.iaload, 1) := dr_46 (by decide +kernel)
set_option maxRecDepth 100000 in
theorem dL_law_667 : decode cL_law 667 = .ok (.aload_n 0, 1) := dr_42 (by decide +kernel)
set_option maxRecDepth 100000 in
theorem dL_law_668 : decode cL_law 668 = .ok (.iload 4, 2) := dr_21 (by decide +kernel)
set_option maxRecDepth 100000 in
theorem dL_law_670 : decode cL_law 670 = .ok (.iconst 2, 1) := dr_5 (by decide +kernel)
set_option maxRecDepth 100000 in
theorem dL_law_671 : decode cL_law 671 = .ok (.iadd, 1) := dr_96 (by decide +kernel)
set_option maxRecDepth 100000 in
theorem dL_law_672 : decode cL_law 672 = .ok (.iaload, 1) := dr_46 (by decide +kernel)
set_option maxRecDepth 100000 in
theorem dL_law_673 : decode cL_law 673 = .ok (.invokevirtual 84, 3) := dr_182 (by decide +kernel)
set_option maxRecDepth 100000 in
theorem dL_law_676 : decode cL_law 676 = .ok (.pop, 1) := dr_87 (by decide +kernel)
set_option maxRecDepth 100000 in
theorem dL_law_677 : decode cL_law 677 = .ok (.aload_n 2, 1) := dr_44 (by decide +kernel)
set_option maxRecDepth 100000 in
theorem dL_law_678 : decode cL_law 678 = .ok (.aload_n 0, 1) := dr_42 (by decide +kernel)
set_option maxRecDepth 100000 in
theorem dL_law_679 : decode cL_law 679 = .ok (.iload 4, 2) := dr_21 (by decide +kernel)
set_option maxRecDepth 100000 in
theorem dL_law_681 : decode cL_law 681 = .ok (.iconst 1, 1) := dr_4 (by decide +kernel)
set_option maxRecDepth 100000 in
theorem dL_law_682 : decode cL_law 682 = .ok (.iadd, 1) := dr_96 (by decide +kernel)
set_option maxRecDepth 100000 in
theorem dL_law_683 : decode cL_law 683 = .ok (.iaload, 1) := dr_46 (by decide +kernel)
set_option maxRecDepth 100000 in
theorem dL_law_684 : decode cL_law 684 = .ok (.aload_n 0, 1) := dr_42 (by decide +kernel)
set_option maxRecDepth 100000 in
theorem dL_law_685 : decode cL_law 685 = .ok (.iload 4, 2) := dr_21 (by decide +kernel)
set_option maxRecDepth 100000 in
theorem dL_law_687 : decode cL_law 687 = .ok (.iconst 2, 1) := dr_5 (by decide +kernel)
set_option maxRecDepth 100000 in
theorem dL_law_688 : decode cL_law 688 = .ok (.iadd, 1) := dr_96 (by decide +kernel)
set_option maxRecDepth 100000 in
theorem dL_law_689 : decode cL_law 689 = .ok (.iaload, 1) := dr_46 (by decide +kernel)
set_option maxRecDepth 100000 in
theorem dL_law_690 : decode cL_law 690 = .ok (.invokevirtual 87, 3) := dr_182 (by decide +kernel)
set_option maxRecDepth 100000 in
theorem dL_law_693 : decode cL_law 693 = .ok (.pop, 1) := dr_87 (by decide +kernel)
set_option maxRecDepth 100000 in
theorem dL_law_694 : decode cL_law 694 = .ok (.goto 828, 3) := dr_167 (by decide +kernel)
set_option maxRecDepth 100000 in
theorem dL_law_697 : decode cL_law 697 = .ok (.aload_n 1, 1) := dr_43 (by decide +kernel)
set_option maxRecDepth 100000 in
theorem dL_law_698 : decode cL_law 698 = .ok (.aload_n 0, 1) := dr_42 (by decide +kernel)
set_option maxRecDepth 100000 in
theorem dL_law_699 : decode cL_law 699 = .ok (.iload 4, 2) := dr_21 (by decide +kernel)
set_option maxRecDepth 100000 in
theorem dL_law_701 : decode cL_law 701 = .ok (.iconst 1, 1) := dr_4 (by decide +kernel)
set_option maxRecDepth 100000 in
theorem dL_law_702 : decode cL_law 702 = .ok (.iadd, 1) := dr_96 (by decide +kernel)
set_option maxRecDepth 100000 in
theorem dL_law_703 : decode cL_law 703 = .ok (.iaload, 1) := dr_46 (by decide +kernel)
set_option maxRecDepth 100000 in
theorem dL_law_704 : decode cL_law 704 = .ok (.aload_n 0, 1) := dr_42 (by decide +kernel)
set_option maxRecDepth 100000 in
theorem dL_law_705 : decode cL_law 705 = .ok (.iload 4, 2) := dr_21 (by decide +kernel)
set_option maxRecDepth 100000 in
theorem dL_law_707 : decode cL_law 707 = .ok (.iconst 2, 1) := dr_5 (by decide +kernel)
set_option maxRecDepth 100000 in
theorem dL_law_708 : decode cL_law 708 = .ok (.iadd, 1) := dr_96 (by decide +kernel)
set_option maxRecDepth 100000 in
theorem dL_law_709 : decode cL_law 709 = .ok (.iaload, 1) := dr_46 (by decide +kernel)
set_option maxRecDepth 100000 in
theorem dL_law_710 : decode cL_law 710 = .ok (.aload_n 0, 1) := dr_42 (by decide +kernel)
set_option maxRecDepth 100000 in
theorem dL_law_711 : decode cL_law 711 = .ok (.iload 4, 2) := dr_21 (by decide +kernel)
set_option maxRecDepth 100000 in
theorem dL_law_713 : decode cL_law 713 = .ok (.iconst 3, 1) := dr_6 (by decide +kernel)
set_option maxRecDepth 100000 in
theorem dL_law_714 : decode cL_law 714 = .ok (.iadd, 1) := dr_96 (by decide +kernel)
set_option maxRecDepth 100000 in
theorem dL_law_715 : decode cL_law 715 = .ok (.iaload, 1) := dr_46 (by decide +kernel)
set_option maxRecDepth 100000 in
theorem dL_law_716 : decode cL_law 716 = .ok (.invokevirtual 88, 3) := dr_182 (by decide +kernel)
set_option maxRecDepth 100000 in
theorem dL_law_719 : decode cL_law 719 = .ok (.pop, 1) := dr_87 (by decide +kernel)
set_option maxRecDepth 100000 in
theorem dL_law_720 : decode cL_law 720 = .ok (.aload_n 2, 1) := dr_44 (by decide +kernel)
set_option maxRecDepth 100000 in
theorem dL_law_721 : decode cL_law 721 = .ok (.aload_n 0, 1) := dr_42 (by decide +kernel)
set_option maxRecDepth 100000 in
theorem dL_law_722 : decode cL_law 722 = .ok (.iload 4, 2) := dr_21 (by decide +kernel)
set_option maxRecDepth 100000 in
theorem dL_law_724 : decode cL_law 724 = .ok (.iconst 1, 1) := dr_4 (by decide +kernel)
set_option maxRecDepth 100000 in
theorem dL_law_725 : decode cL_law 725 = .ok (.iadd, 1) := dr_96 (by decide +kernel)
set_option maxRecDepth 100000 in
theorem dL_law_726 : decode cL_law 726 = .ok (.iaload, 1) := dr_46 (by decide +kernel)
set_option maxRecDepth 100000 in
theorem dL_law_727 : decode cL_law 727 = .ok (.aload_n 0, 1) := dr_42 (by decide +kernel)
set_option maxRecDepth 100000 in
theorem dL_law_728 : decode cL_law 728 = .ok (.iload 4, 2) := dr_21 (by decide +kernel)
set_option maxRecDepth 100000 in
theorem dL_law_730 : decode cL_law 730 = .ok (.iconst 2, 1) := dr_5 (by decide +kernel)
set_option maxRecDepth 100000 in
theorem dL_law_731 : decode cL_law 731 = .ok (.iadd, 1) := dr_96 (by decide +kernel)
set_option maxRecDepth 100000 in
theorem dL_law_732 : decode cL_law 732 = .ok (.iaload, 1) := dr_46 (by decide +kernel)
set_option maxRecDepth 100000 in
theorem dL_law_733 : decode cL_law 733 = .ok (.aload_n 0, 1) := dr_42 (by decide +kernel)
set_option maxRecDepth 100000 in
theorem dL_law_734 : decode cL_law 734 = .ok (.iload 4, 2) := dr_21 (by decide +kernel)
set_option maxRecDepth 100000 in
theorem dL_law_736 : decode cL_law 736 = .ok (.iconst 3, 1) := dr_6 (by decide +kernel)
set_option maxRecDepth 100000 in
theorem dL_law_737 : decode cL_law 737 = .ok (.iadd, 1) := dr_96 (by decide +kernel)
set_option maxRecDepth 100000 in
theorem dL_law_738 : decode cL_law 738 = .ok (.iaload, 1) := dr_46 (by decide +kernel)
set_option maxRecDepth 100000 in
theorem dL_law_739 : decode cL_law 739 = .ok (.invokevirtual 91, 3) := dr_182 (by decide +kernel)
set_option maxRecDepth 100000 in
theorem dL_law_742 : decode cL_law 742 = .ok (.pop, 1) := dr_87 (by decide +kernel)
set_option maxRecDepth 100000 in
theorem dL_law_743 : decode cL_law 743 = .ok (.goto 779, 3) := dr_167 (by decide +kernel)
set_option maxRecDepth 100000 in
theorem dL_law_746 : decode cL_law 746 = .ok (.aload_n 1, 1) := dr_43 (by decide +kernel)
set_option maxRecDepth 100000 in
theorem dL_law_747 : decode cL_law 747 = .ok (.invokevirtual 92, 3) := dr_182 (by decide +kernel)
set_option maxRecDepth 100000 in
theorem dL_law_750 : decode cL_law 750 = .ok (.pop, 1) := dr_87 (by decide +kernel)
set_option maxRecDepth 100000 in
theorem dL_law_751 : decode cL_law 751 = .ok (.aload_n 2, 1) := dr_44 (by decide +kernel)
set_option maxRecDepth 100000 in
theorem dL_law_752 : decode cL_law 752 = .ok (.invokevirtual 95, 3) := dr_182 (by decide +kernel)
set_option maxRecDepth 100000 in
theorem dL_law_755 : decode cL_law 755 = .ok (.pop, 1) := dr_87 (by decide +kernel)
set_option maxRecDepth 100000 in
theorem dL_law_756 : decode cL_law 756 = .ok (.goto 766, 3) := dr_167 (by decide +kernel)
set_option maxRecDepth 100000 in
theorem dL_law_759 : decode cL_law 759 = .ok (.aload_n 1, 1) := dr_43 (by decide +kernel)
set_option maxRecDepth 100000 in
theorem dL_law_760 : decode cL_law 760 = .ok (.aload_n 0, 1) := dr_42 (by decide +kernel)
set_option maxRecDepth 100000 in
theorem dL_law_761 : decode cL_law 761 = .ok (.iload 4, 2) := dr_21 (by decide +kernel)
set_option maxRecDepth 100000 in
theorem dL_law_763 : decode cL_law 763 = .ok (.iconst 1, 1) := dr_4 (by decide +kernel)
set_option maxRecDepth 100000 in
theorem dL_law_764 : decode cL_law 764 = .ok (.iadd, 1) := dr_96 (by decide +kernel)
set_option maxRecDepth 100000 in
theorem dL_law_765 : decode cL_law 765 = .ok (.iaload, 1) := dr_46 (by decide +kernel)
set_option maxRecDepth 100000 in
theorem dL_law_766 : decode cL_law 766 = .ok (.aload_n 0, 1) := dr_42 (by decide +kernel)
set_option maxRecDepth 100000 in
theorem dL_law_767 : decode cL_law 767 = .ok (.iload 4, 2) := dr_21 (by decide +kernel)
set_option maxRecDepth 100000 in
theorem dL_law_769 : decode cL_law 769 = .ok (.iconst 2, 1) := dr_5 (by decide +kernel)
set_option maxRecDepth 100000 in
theorem dL_law_770 : decode cL_law 770 = .ok (.iadd, 1) := dr_96 (by decide +kernel)
set_option maxRecDepth 100000 in
theorem dL_law_771 : decode cL_law 771 = .ok (.iaload, 1) := dr_46 (by decide +kernel)
set_option maxRecDepth 100000 in
theorem dL_law_772 : decode cL_law 772 = .ok (.invokevirtual 96, 3) := dr_182 (by decide +kernel)
set_option maxRecDepth 100000 in
theorem dL_law_775 : decode cL_law 775 = .ok (.pop, 1) := dr_87 (by decide +kernel)
set_option maxRecDepth 100000 in
theorem dL_law_776 : decode cL_law 776 = .ok (.aload_n 2, 1) := dr_44 (by decide +kernel)
set_option maxRecDepth 100000 in
theorem dL_law_777 : decode cL_law 777 = .ok (.aload_n 0, 1) := dr_42 (by decide +kernel)
set_option maxRecDepth 100000 in
theorem dL_law_778 : decode cL_law 778 = .ok (.iload 4, 2) := dr_21 (by decide +kernel)
set_option maxRecDepth 100000 in
theorem dL_law_780 : decode cL_law 780 = .ok (.iconst 1, 1) := dr_4 (by decide +kernel)
set_option maxRecDepth 100000 in
theorem dL_law_781 : decode cL_law 781 = .ok (.iadd, 1) := dr_96 (by decide +kernel)
set_option maxRecDepth 100000 in
theorem dL_law_782 : decode cL_law 782 = .ok (.iaload, 1) := dr_46 (by decide +kernel)
set_option maxRecDepth 100000 in
theorem dL_law_783 : decode cL_law 783 = .ok (.aload_n 0, 1) := dr_42 (by decide +kernel)
set_option maxRecDepth 100000 in
theorem dL_law_784 : decode cL_law 784 = .ok (.iload 4, 2) := dr_21 (by decide +kernel)
set_option maxRecDepth 100000 in
theorem dL_law_786 : decode cL_law 786 = .ok (.iconst 2, 1) := dr_5 (by decide +kernel)
set_option maxRecDepth 100000 in
theorem dL_law_787 : decode cL_law 787 = .ok (.iadd, 1) := dr_96 (by decide +kernel)
set_option maxRecDepth 100000 in
theorem dL_law_788 : decode cL_law 788 = .ok (.iaload, 1) := dr_46 (by decide +kernel)
set_option maxRecDepth 100000 in
theorem dL_law_789 : decode cL_law 789 = .ok (.invokevirtual 99, 3) := dr_182 (by decide +kernel)
set_option maxRecDepth 100000 in
theorem dL_law_792 : decode cL_law 792 = .ok (.pop, 1) := dr_87 (by decide +kernel)
set_option maxRecDepth 100000 in
theorem dL_law_793 : decode cL_law 793 = .ok (.goto 729, 3) := dr_167 (by decide +kernel)
set_option maxRecDepth 100000 in
theorem dL_law_796 : decode cL_law 796 = .ok (.aload_n 1, 1) := dr_43 (by decide +kernel)
set_option maxRecDepth 100000 in
theorem dL_law_797 : decode cL_law 797 = .ok (.aload_n 0, 1) := dr_42 (by decide +kernel)
set_option maxRecDepth 100000 in
theorem dL_law_798 : decode cL_law 798 = .ok (.iload 4, 2) := dr_21 (by decide +kernel)
set_option maxRecDepth 100000 in
theorem dL_law_800 : decode cL_law 800 = .ok (.iconst 1, 1) := dr_4 (by decide +kernel)
set_option maxRecDepth 100000 in
theorem dL_law_801 : decode cL_law 801 = .ok (.iadd, 1) := dr_96 (by decide +kernel)
set_option maxRecDepth 100000 in
theorem dL_law_802 : decode cL_law 802 = .ok (.iaload, 1) := dr_46 (by decide +kernel)
set_option maxRecDepth 100000 in
theorem dL_law_803 : decode cL_law 803 = .ok (.invokevirtual 100, 3) := dr_182 (by decide +kernel)
set_option maxRecDepth 100000 in
theorem dL_law_806 : decode cL_law 806 = .ok (.aload_n 2, 1) := dr_44 (by decide +kernel)
set_option maxRecDepth 100000 in
theorem dL_law_807 : decode cL_law 807 = .ok (.aload_n 0, 1) := dr_42 (by decide +kernel)
set_option maxRecDepth 100000 in
theorem dL_law_808 : decode cL_law 808 = .ok (.iload 4, 2) := dr_21 (by decide +kernel)
set_option maxRecDepth 100000 in
theorem dL_law_810 : decode cL_law 810 = .ok (.iconst 1, 1) := dr_4 (by decide +kernel)
set_option maxRecDepth 100000 in
theorem dL_law_811 : decode cL_law 811 = .ok (.iadd, 1) := dr_96 (by decide +kernel)
set_option maxRecDepth 100000 in
theorem dL_law_812 : decode cL_law 812 = .ok (.iaload, 1) := dr_46 (by decide +kernel)
set_option maxRecDepth 100000 in
theorem dL_law_813 : decode cL_law 813 = .ok (.invokevirtual 103, 3) := dr_182 (by decide +kernel)
set_option maxRecDepth 100000 in
theorem dL_law_816 : decode cL_law 816 = .ok (.if_icmp .eq 706, 3) := dr_159 (by decide +kernel)
set_option maxRecDepth 100000 in
theorem dL_law_819 : decode cL_law 819 = .ok (.iconst 0, 1) := dr_3 (by decide +kernel)
set_option maxRecDepth 100000 in
theorem dL_law_820 : decode cL_law 820 = .ok (.ireturn, 1) := dr_172 (by decide +kernel)
set_option maxRecDepth 100000 in
theorem dL_law_821 : decode cL_law 821 = .ok (.aload_n 1, 1) := dr_43 (by decide +kernel)
set_option maxRecDepth 100000 in
theorem dL_law_822 : decode cL_law 822 = .ok (.aload_n 0, 1) := dr_42 (by decide +kernel)
set_option maxRecDepth 100000 in
theorem dL_law_823 : decode cL_law 823 = .ok (.iload 4, 2) := dr_21 (by decide +kernel)
set_option maxRecDepth 100000 in
theorem dL_law_825 : decode cL_law 825 = .ok (.iconst 1, 1) := dr_4 (by decide +kernel)
set_option maxRecDepth 100000 in
theorem dL_law_826 : decode cL_law 826 = .ok (.iadd, 1) := dr_96 (by decide +kernel)
set_option maxRecDepth 100000 in
theorem dL_law_827 : decode cL_law 827 = .ok (.iaload, 1) := dr_46 (by decide +kernel)
set_option maxRecDepth 100000 in
theorem dL_law_828 : decode cL_law 828 = .ok (.invokevirtual 104, 3) := dr_182 (by decide +kernel)
set_option maxRecDepth 100000 in
theorem dL_law_831 : decode cL_law 831 = .ok (.pop, 1) := dr_87 (by decide +kernel)
set_option maxRecDepth 100000 in
theorem dL_law_832 : decode cL_law 832 = .ok (.aload_n 2, 1) := dr_44 (by decide +kernel)
set_option maxRecDepth 100000 in
theorem dL_law_833 : decode cL_law 833 = .ok (.aload_n 0, 1) := dr_42 (by decide +kernel)
set_option maxRecDepth 100000 in
theorem dL_law_834 : decode cL_law 834 = .ok (.iload 4, 2) := dr_21 (by decide +kernel)
set_option maxRecDepth 100000 in
theorem dL_law_836 : decode cL_law 836 = .ok (.iconst 1, 1) := dr_4 (by decide +kernel)
set_option maxRecDepth 100000 in
theorem dL_law_837 : decode cL_law 837 = .ok (.iadd, 1) := dr_96 (by decide +kernel)
set_option maxRecDepth 100000 in
theorem dL_law_838 : decode cL_law 838 = .ok (.iaload, 1) := dr_46 (by decide +kernel)
set_option maxRecDepth 100000 in
theorem dL_law_839 : decode cL_law 839 = .ok (.invokevirtual 107, 3) := dr_182 (by decide +kernel)
set_option maxRecDepth 100000 in
theorem dL_law_842 : decode cL_law 842 = .ok (.pop, 1) := dr_87 (by decide +kernel)
set_option maxRecDepth 100000 in
theorem dL_law_843 : decode cL_law 843 = .ok (.goto 679, 3) := dr_167 (by decide +kernel)
set_option maxRecDepth 100000 in
theorem dL_law_846 : decode cL_law 846 = .ok (.aload_n 1, 1) := dr_43 (by decide +kernel)
set_option maxRecDepth 100000 in
theorem dL_law_847 : decode cL_law 847 = .ok (.invokevirtual 108, 3) := dr_182 (by decide +kernel)
set_option maxRecDepth 100000 in
theorem dL_law_850 : decode cL_law 850 = .ok (.pop, 1) := dr_87 (by decide +kernel)
set_option maxRecDepth 100000 in
theorem dL_law_851 : decode cL_law 851 = .ok (.aload_n 2, 1) := dr_44 (by decide +kernel)
set_option maxRecDepth 100000 in
theorem dL_law_852 : decode cL_law 852 = .ok (.invokevirtual 111, 3) := dr_182 (by decide +kernel)
set_option maxRecDepth 100000 in
theorem dL_law_855 : decode cL_law 855 = .ok (.pop, 1) := dr_87 (by decide +kernel)
set_option maxRecDepth 100000 in
theorem dL_law_856 : decode cL_law 856 = .ok (.goto 666, 3) := dr_167 (by decide +kernel)
set_option maxRecDepth 100000 in
theorem dL_law_859 : decode cL_law 859 = .ok (.aload_n 1, 1) := dr_43 (by decide +kernel)
set_option maxRecDepth 100000 in
theorem dL_law_860 : decode cL_law 860 = .ok (.aload_n 0, 1) := dr_42 (by decide +kernel)
set_option maxRecDepth 100000 in
theorem dL_law_861 : decode cL_law 861 = .ok (.iload 4, 2) := dr_21 (by decide +kernel)
set_option maxRecDepth 100000 in
theorem dL_law_863 : decode cL_law 863 = .ok (.iconst 1, 1) := dr_4 (by decide +kernel)
set_option maxRecDepth 100000 in
theorem dL_law_864 : decode cL_law 864 = .ok (.iadd, 1) := dr_96 (by decide +kernel)
set_option maxRecDepth 100000 in
theorem dL_law_865 : decode cL_law 865 = .ok (.iaload, 1) := dr_46 (by decide +kernel)
set_option maxRecDepth 100000 in
theorem dL_law_866 : decode cL_law 866 = .ok (.invokevirtual 112, 3) := dr_182 (by decide +kernel)
set_option maxRecDepth 100000 in
theorem dL_law_869 : decode cL_law 869 = .ok (.pop, 1) := dr_87 (by decide +kernel)
set_option maxRecDepth 100000 in
theorem dL_law_870 : decode cL_law 870 = .ok (.aload_n 2, 1) := dr_44 (by decide +kernel)
set_option maxRecDepth 100000 in
theorem dL_law_871 : decode cL_law 871 = .ok (.aload_n 0, 1) := dr_42 (by decide +kernel)
set_option maxRecDepth 100000 in
theorem dL_law_872 : decode cL_law 872 = .ok (.iload 4, 2) := dr_21 (by decide +kernel)
set_option maxRecDepth 100000 in
theorem dL_law_874 : decode cL_law 874 = .ok (.iconst 1, 1) := dr_4 (by decide +kernel)
set_option maxRecDepth 100000 in
theorem dL_law_875 : decode cL_law 875 = .ok (.iadd, 1) := dr_96 (by decide +kernel)
set_option maxRecDepth 100000 in
theorem dL_law_876 : decode cL_law 876 = .ok (.iaload, 1) := dr_46 (by decide +kernel)
set_option maxRecDepth 100000 in
theorem dL_law_877 : decode cL_law 877 = .ok (.invokevirtual 115, 3) := dr_182 (by decide +kernel)
set_option maxRecDepth 100000 in
theorem dL_law_880 : decode cL_law 880 = .ok (.pop, 1) := dr_87 (by decide +kernel)
set_option maxRecDepth 100000 in
theorem dL_law_881 : decode cL_law 881 = .ok (.goto 641, 3) := dr_167 (by decide +kernel)
set_option maxRecDepth 100000 in
theorem dL_law_884 : decode cL_law 884 = .ok (.aload_n 1, 1) := dr_43 (by decide +kernel)
set_option maxRecDepth 100000 in
theorem dL_law_885 : decode cL_law 885 = .ok (.invokevirtual 116, 3) := dr_182 (by decide +kernel)
set_option maxRecDepth 100000 in
theorem dL_law_888 : decode cL_law 888 = .ok (.pop, 1) := dr_87 (by decide +kernel)
set_option maxRecDepth 100000 in
theorem dL_law_889 : decode cL_law 889 = .ok (.aload_n 2, 1) := dr_44 (by decide +kernel)
set_option maxRecDepth 100000 in
theorem dL_law_890 : decode cL_law 890 = .ok (.invokevirtual 119, 3) := dr_182 (by decide +kernel)
set_option maxRecDepth 100000 in
theorem dL_law_893 : decode cL_law 893 = .ok (.pop, 1) := dr_87 (by decide +kernel)
set_option maxRecDepth 100000 in
theorem dL_law_894 : decode cL_law 894 = .ok (.goto 628, 3) := dr_167 (by decide +kernel)
set_option maxRecDepth 100000 in
theorem dL_law_897 : decode cL_law 897 = .ok (.aload_n 1, 1) := dr_43 (by decide +kernel)
set_option maxRecDepth 100000 in
theorem dL_law_898 : decode cL_law 898 = .ok (.invokevirtual 120, 3) := dr_182 (by decide +kernel)
set_option maxRecDepth 100000 in
theorem dL_law_901 : decode cL_law 901 = .ok (.pop, 1) := dr_87 (by decide +kernel)
set_option maxRecDepth 100000 in
theorem dL_law_902 : decode cL_law 902 = .ok (.aload_n 2, 1) := dr_44 (by decide +kernel)
set_option maxRecDepth 100000 in
theorem dL_law_903 : decode cL_law 903 = .ok (.invokevirtual 123, 3) := dr_182 (by decide +kernel)
set_option maxRecDepth 100000 in
theorem dL_law_906 : decode cL_law 906 = .ok (.pop, 1) := dr_87 (by decide +kernel)
set_option maxRecDepth 100000 in
theorem dL_law_907 : decode cL_law 907 = .ok (.goto 615, 3) := dr_167 (by decide +kernel)
set_option maxRecDepth 100000 in
theorem dL_law_910 : decode cL_law 910 = .ok (.aload_n 1, 1) := dr_43 (by decide +kernel)
set_option maxRecDepth 100000 in
theorem dL_law_911 : decode cL_law 911 = .ok (.invokevirtual 124, 3) := dr_182 (by decide +kernel)
set_option maxRecDepth 100000 in
theorem dL_law_914 : decode cL_law 914 = .ok (.pop, 1) := dr_87 (by decide +kernel)
set_option maxRecDepth 100000 in
theorem dL_law_915 : decode cL_law 915 = .ok (.aload_n 2, 1) := dr_44 (by decide +kernel)
set_option maxRecDepth 100000 in
theorem dL_law_916 : decode cL_law 916 = .ok (.invokevirtual 127, 3) := dr_182 (by decide +kernel)
set_option maxRecDepth 100000 in
theorem dL_law_919 : decode cL_law 919 = .ok (.pop, 1) := dr_87 (by decide +kernel)
set_option maxRecDepth 100000 in
theorem dL_law_920 : decode cL_law 920 = .ok (.goto 602, 3) := dr_167 (by decide +kernel)
set_option maxRecDepth 100000 in
theorem dL_law_923 : decode cL_law 923 = .ok (.aload_n 1, 1) := dr_43 (by decide +kernel)
set_option maxRecDepth 100000 in
theorem dL_law_924 : decode cL_law 924 = .ok (.aload_n 0, 1) := dr_42 (by decide +kernel)
set_option maxRecDepth 100000 in
theorem dL_law_925 : decode cL_law 925 = .ok (.iload 4, 2) := dr_21 (by decide +kernel)
set_option maxRecDepth 100000 in
theorem dL_law_927 : decode cL_law 927 = .ok (.iconst 1, 1) := dr_4 (by decide +kernel)
set_option maxRecDepth 100000 in
theorem dL_law_928 : decode cL_law 928 = .ok (.iadd, 1) := dr_96 (by decide +kernel)
set_option maxRecDepth 100000 in
theorem dL_law_929 : decode cL_law 929 = .ok (.iaload, 1) := dr_46 (by decide +kernel)
set_option maxRecDepth 100000 in
theorem dL_law_930 : decode cL_law 930 = .ok (.aload_n 0, 1) := dr_42 (by decide +kernel)
set_option maxRecDepth 100000 in
theorem dL_law_931 : decode cL_law 931 = .ok (.iload 4, 2) := dr_21 (by decide +kernel)
set_option maxRecDepth 100000 in
theorem dL_law_933 : decode cL_law 933 = .ok (.iconst 2, 1) := dr_5 (by decide +kernel)
set_option maxRecDepth 100000 in
theorem dL_law_934 : decode cL_law 934 = .ok (.iadd, 1) := dr_96 (by decide +kernel)
set_option maxRecDepth 100000 in
theorem dL_law_935 : decode cL_law 935 = .ok (.iaload, 1) := dr_46 (by decide +kernel)
set_option maxRecDepth 100000 in
theorem dL_law_936 : decode cL_law 936 = .ok (.invokevirtual 128, 3) := dr_182 (by decide +kernel)
set_option maxRecDepth 100000 in
theorem dL_law_939 : decode cL_law 939 = .ok (.pop, 1) := dr_87 (by decide +kernel)
set_option maxRecDepth 100000 in
theorem dL_law_940 : decode cL_law 940 = .ok (.aload_n 2, 1) := dr_44 (by decide +kernel)
set_option maxRecDepth 100000 in
theorem dL_law_941 : decode cL_law 941 = .ok (.aload_n 0, 1) := dr_42 (by decide +kernel)
set_option maxRecDepth 100000 in
theorem dL_law_942 : decode cL_law 942 = .ok (.iload 4, 2) := dr_21 (by decide +kernel)
set_option maxRecDepth 100000 in
theorem dL_law_944 : decode cL_law 944 = .ok (.iconst 1, 1) := dr_4 (by decide +kernel)
set_option maxRecDepth 100000 in
theorem dL_law_945 : decode cL_law 945 = .ok (.iadd, 1) := dr_96 (by decide +kernel)
set_option maxRecDepth 100000 in
theorem dL_law_946 : decode cL_law 946 = .ok (.iaload, 1) := dr_46 (by decide +kernel)
set_option maxRecDepth 100000 in
theorem dL_law_947 : decode cL_law 947 = .ok (.aload_n 0, 1) := dr_42 (by decide +kernel)
set_option maxRecDepth 100000 in
theorem dL_law_948 : decode cL_law 948 = .ok (.iload 4, 2) := dr_21 (by decide +kernel)
set_option maxRecDepth 100000 in
theorem dL_law_950 : decode cL_law 950 = .ok (.iconst 2, 1) := dr_5 (by decide +kernel)
set_option maxRecDepth 100000 in
theorem dL_law_951 : decode cL_law 951 = .ok (.iadd, 1) := dr_96 (by decide +kernel)
set_option maxRecDepth 100000 in
theorem dL_law_952 : decode cL_law 952 = .ok (.iaload, 1) := dr_46 (by decide +kernel)
set_option maxRecDepth 100000 in
theorem dL_law_953 : decode cL_law 953 = .ok (.invokevirtual 131, 3) := dr_182 (by decide +kernel)
set_option maxRecDepth 100000 in
theorem dL_law_956 : decode cL_law 956 = .ok (.pop, 1) := dr_87 (by decide +kernel)
set_option maxRecDepth 100000 in
theorem dL_law_957 : decode cL_law 957 = .ok (.goto 565, 3) := dr_167 (by decide +kernel)
set_option maxRecDepth 100000 in
theorem dL_law_960 : decode cL_law 960 = .ok (.aload_n 1, 1) := dr_43 (by decide +kernel)
set_option maxRecDepth 100000 in
theorem dL_law_961 : decode cL_law 961 = .ok (.aload_n 0, 1) := dr_42 (by decide +kernel)
set_option maxRecDepth 100000 in
theorem dL_law_962 : decode cL_law 962 = .ok (.iload 4, 2) := dr_21 (by decide +kernel)
set_option maxRecDepth 100000 in
theorem dL_law_964 : decode cL_law 964 = .ok (.iconst 1, 1) := dr_4 (by decide +kernel)
set_option maxRecDepth 100000 in
theorem dL_law_965 : decode cL_law 965 = .ok (.iadd, 1) := dr_96 (by decide +kernel)
set_option maxRecDepth 100000 in
theorem dL_law_966 : decode cL_law 966 = .ok (.iaload, 1) := dr_46 (by decide +kernel)
set_option maxRecDepth 100000 in
theorem dL_law_967 : decode cL_law 967 = .ok (.aload_n 0, 1) := dr_42 (by decide +kernel)
set_option maxRecDepth 100000 in
theorem dL_law_968 : decode cL_law 968 = .ok (.iload 4, 2) := dr_21 (by decide +kernel)
set_option maxRecDepth 100000 in
theorem dL_law_970 : decode cL_law 970 = .ok (.iconst 2, 1) := dr_5 (by decide +kernel)
set_option maxRecDepth 100000 in
theorem dL_law_971 : decode cL_law 971 = .ok (.iadd, 1) := dr_96 (by decide +kernel)
set_option maxRecDepth 100000 in
theorem dL_law_972 : decode cL_law 972 = .ok (.iaload, 1) := dr_46 (by decide +kernel)
set_option maxRecDepth 100000 in
theorem dL_law_973 : decode cL_law 973 = .ok (.aload_n 0, 1) := dr_42 (by decide +kernel)
set_option maxRecDepth 100000 in
theorem dL_law_974 : decode cL_law 974 = .ok (.iload 4, 2) := dr_21 (by decide +kernel)
set_option maxRecDepth 100000 in
theorem dL_law_976 : decode cL_law 976 = .ok (.iconst 3, 1) := dr_6 (by decide +kernel)
set_option maxRecDepth 100000 in
theorem dL_law_977 : decode cL_law 977 = .ok (.iadd, 1) := dr_96 (by decide +kernel)
set_option maxRecDepth 100000 in
theorem dL_law_978 : decode cL_law 978 = .ok (.iaload, 1) := dr_46 (by decide +kernel)
set_option maxRecDepth 100000 in
theorem dL_law_979 : decode cL_law 979 = .ok (.invokevirtual 132, 3) := dr_182 (by decide +kernel)
set_option maxRecDepth 100000 in
theorem dL_law_982 : decode cL_law 982 = .ok (.pop, 1) := dr_87 (by decide +kernel)
set_option maxRecDepth 100000 in
theorem dL_law_983 : decode cL_law 983 = .ok (.aload_n 2, 1) := dr_44 (by decide +kernel)
set_option maxRecDepth 100000 in
theorem dL_law_984 : decode cL_law 984 = .ok (.aload_n 0, 1) := dr_42 (by decide +kernel)
set_option maxRecDepth 100000 in
theorem dL_law_985 : decode cL_law 985 = .ok (.iload 4, 2) := dr_21 (by decide +kernel)
set_option maxRecDepth 100000 in
theorem dL_law_987 : decode cL_law 987 = .ok (.iconst 1, 1) := dr_4 (by decide +kernel)
set_option maxRecDepth 100000 in
theorem dL_law_988 : decode cL_law 988 = .ok (.iadd, 1) := dr_96 (by decide +kernel)
set_option maxRecDepth 100000 in
theorem dL_law_989 : decode cL_law 989 = .ok (.iaload, 1) := dr_46 (by decide +kernel)
set_option maxRecDepth 100000 in
theorem dL_law_990 : decode cL_law 990 = .ok (.aload_n 0, 1) := dr_42 (by decide +kernel)
set_option maxRecDepth 100000 in
theorem dL_law_991 : decode cL_law 991 = .ok (.iload 4, 2) := dr_21 (by decide +kernel)
set_option maxRecDepth 100000 in
theorem dL_law_993 : decode cL_law 993 = .ok (.iconst 2, 1) := dr_5 (by decide +kernel)
set_option maxRecDepth 100000 in
theorem dL_law_994 : decode cL_law 994 = .ok (.iadd, 1) := dr_96 (by decide +kernel)
set_option maxRecDepth 100000 in
theorem dL_law_995 : decode cL_law 995 = .ok (.iaload, 1) := dr_46 (by decide +kernel)
set_option maxRecDepth 100000 in
theorem dL_law_996 : decode cL_law 996 = .ok (.aload_n 0, 1) := dr_42 (by decide +kernel)
set_option maxRecDepth 100000 in
theorem dL_law_997 : decode cL_law 997 = .ok (.iload 4, 2) := dr_21 (by decide +kernel)
set_option maxRecDepth 100000 in
theorem dL_law_999 : decode cL_law 999 = .ok (.iconst 3, 1) := dr_6 (by decide +kernel)
set_option maxRecDepth 100000 in
theorem dL_law_1000 : decode cL_law 1000 = .ok (.iadd, 1) := dr_96 (by decide +kernel)
set_option maxRecDepth 100000 in
theorem dL_law_1001 : decode cL_law 1001 = .ok (.iaload, 1) := dr_46 (by decide +kernel)
set_option maxRecDepth 100000 in
theorem dL_law_1002 : decode cL_law 1002 = .ok (.invokevirtual 135, 3) := dr_182 (by decide +kernel)
set_option maxRecDepth 100000 in
theorem dL_law_1005 : decode cL_law 1005 = .ok (.pop, 1) := dr_87 (by decide +kernel)
set_option maxRecDepth 100000 in
theorem dL_law_1006 : decode cL_law 1006 = .ok (.goto 516, 3) := dr_167 (by decide +kernel)
set_option maxRecDepth 100000 in
theorem dL_law_1009 : decode cL_law 1009 = .ok (.aload_n 1, 1) := dr_43 (by decide +kernel)
set_option maxRecDepth 100000 in
theorem dL_law_1010 : decode cL_law 1010 = .ok (.aload_n 0, 1) := dr_42 (by decide +kernel)
set_option maxRecDepth 100000 in
theorem dL_law_1011 : decode cL_law 1011 = .ok (.iload 4, 2) := dr_21 (by decide +kernel)
set_option maxRecDepth 100000 in
theorem dL_law_1013 : decode cL_law 1013 = .ok (.iconst 1, 1) := dr_4 (by decide +kernel)
set_option maxRecDepth 100000 in
theorem dL_law_1014 : decode cL_law 1014 = .ok (.iadd, 1) := dr_96 (by decide +kernel)
set_option maxRecDepth 100000 in
theorem dL_law_1015 : decode cL_law 1015 = .ok (.iaload, 1) := dr_46 (by decide +kernel)
set_option maxRecDepth 100000 in
theorem dL_law_1016 : decode cL_law 1016 = .ok (.aload_n 0, 1) := dr_42 (by decide +kernel)
set_option maxRecDepth 100000 in
theorem dL_law_1017 : decode cL_law 1017 = .ok (.iload 4, 2) := dr_21 (by decide +kernel)
set_option maxRecDepth 100000 in
theorem dL_law_1019 : decode cL_law 1019 = .ok (.iconst 2, 1) := dr_5 (by decide +kernel)
set_option maxRecDepth 100000 in
theorem dL_law_1020 : decode cL_law 1020 = .ok (.iadd, 1) := dr_96 (by decide +kernel)
set_option maxRecDepth 100000 in
theorem dL_law_1021 : decode cL_law 1021 = .ok (.iaload, 1) := dr_46 (by decide +kernel)
set_option maxRecDepth 100000 in
theorem dL_law_1022 : decode cL_law 1022 = .ok (.aload_n 0, 1) := dr_42 (by decide +kernel)
set_option maxRecDepth 100000 in
theorem dL_law_1023 : decode cL_law 1023 = .ok (.iload 4, 2) := dr_21 (by decide +kernel)
set_option maxRecDepth 100000 in
theorem dL_law_1025 : decode cL_law 1025 = .ok (.iconst 3, 1) := dr_6 (by decide +kernel)
set_option maxRecDepth 100000 in
theorem dL_law_1026 : decode cL_law 1026 = .ok (.iadd, 1) := dr_96 (by decide +kernel)
set_option maxRecDepth 100000 in
theorem dL_law_1027 : decode cL_law 1027 = .ok (.iaload, 1) := dr_46 (by decide +kernel)
set_option maxRecDepth 100000 in
theorem dL_law_1028 : decode cL_law 1028 = .ok (.invokevirtual 136, 3) := dr_182 (by decide +kernel)
set_option maxRecDepth 100000 in
theorem dL_law_1031 : decode cL_law 1031 = .ok (.pop, 1) := dr_87 (by decide +kernel)
set_option maxRecDepth 100000 in
theorem dL_law_1032 : decode cL_law 1032 = .ok (.aload_n 2, 1) := dr_44 (by decide +kernel)
set_option maxRecDepth 100000 in
theorem dL_law_1033 : decode cL_law 1033 = .ok (.aload_n 0, 1) := dr_42 (by decide +kernel)
set_option maxRecDepth 100000 in
theorem dL_law_1034 : decode cL_law 1034 = .ok (.iload 4, 2) := dr_21 (by decide +kernel)
set_option maxRecDepth 100000 in
theorem dL_law_1036 : decode cL_law 1036 = .ok (.iconst 1, 1) := dr_4 (by decide +kernel)
set_option maxRecDepth 100000 in
theorem dL_law_1037 : decode cL_law 1037 = .ok (.iadd, 1) := dr_96 (by decide +kernel)
set_option maxRecDepth 100000 in
theorem dL_law_1038 : decode cL_law 1038 = .ok (.iaload, 1) := dr_46 (by decide +kernel)
set_option maxRecDepth 100000 in
theorem dL_law_1039 : decode cL_law 1039 = .ok (.aload_n 0, 1) := dr_42 (by decide +kernel)
set_option maxRecDepth 100000 in
theorem dL_law_1040 : decode cL_law 1040 = .ok (.iload 4, 2) := dr_21 (by decide +kernel)
set_option maxRecDepth 100000 in
theorem dL_law_1042 : decode cL_law 1042 = .ok (.iconst 2, 1) := dr_5 (by decide +kernel)
set_option maxRecDepth 100000 in
theorem dL_law_1043 : decode cL_law 1043 = .ok (.iadd, 1) := dr_96 (by decide +kernel)
set_option maxRecDepth 100000 in
theorem dL_law_1044 : decode cL_law 1044 = .ok (.iaload, 1) := dr_46 (by decide +kernel)
set_option maxRecDepth 100000 in
theorem dL_law_1045 : decode cL_law 1045 = .ok (.aload_n 0, 1) := dr_42 (by decide +kernel)
set_option maxRecDepth 100000 in
theorem dL_law_1046 : decode cL_law 1046 = .ok (.iload 4, 2) := dr_21 (by decide +kernel)
set_option maxRecDepth 100000 in
theorem dL_law_1048 : decode cL_law 1048 = .ok (.iconst 3, 1) := dr_6 (by decide +kernel)
set_option maxRecDepth 100000 in
theorem dL_law_1049 : decode cL_law 1049 = .ok (.iadd, 1) := dr_96 (by decide +kernel)
set_option maxRecDepth 100000 in
theorem dL_law_1050 : decode cL_law 1050 = .ok (.iaload, 1) := dr_46 (by decide +kernel)
set_option maxRecDepth 100000 in
theorem dL_law_1051 : decode cL_law 1051 = .ok (.invokevirtual 139, 3) := dr_182 (by decide +kernel)
set_option maxRecDepth 100000 in
theorem dL_law_1054 : decode cL_law 1054 = .ok (.pop, 1) := dr_87 (by decide +kernel)
set_option maxRecDepth 100000 in
theorem dL_law_1055 : decode cL_law 1055 = .ok (.goto 467, 3) := dr_167 (by decide +kernel)
set_option maxRecDepth 100000 in
theorem dL_law_1058 : decode cL_law 1058 = .ok (.aload_n 1, 1) := dr_43 (by decide +kernel)
set_option maxRecDepth 100000 in
theorem dL_law_1059 : decode cL_law 1059 = .ok (.aload_n 0, 1) := dr_42 (by decide +kernel)
set_option maxRecDepth 100000 in
theorem dL_law_1060 : decode cL_law 1060 = .ok (.iload 4, 2) := dr_21 (by decide +kernel)
set_option maxRecDepth 100000 in
theorem dL_law_1062 : decode cL_law 1062 = .ok (.iconst 1, 1) := dr_4 (by decide +kernel)
set_option maxRecDepth 100000 in
theorem dL_law_1063 : decode cL_law 1063 = .ok (.iadd, 1) := dr_96 (by decide +kernel)
set_option maxRecDepth 100000 in
theorem dL_law_1064 : decode cL_law 1064 = .ok (.iaload, 1) := dr_46 (by decide +kernel)
set_option maxRecDepth 100000 in
theorem dL_law_1065 : decode cL_law 1065 = .ok (.invokevirtual 140, 3) := dr_182 (by decide +kernel)
set_option maxRecDepth 100000 in
theorem dL_law_1068 : decode cL_law 1068 = .ok (.pop, 1) := dr_87 (by decide +kernel)
set_option maxRecDepth 100000 in
theorem dL_law_1069 : decode cL_law 1069 = .ok (.aload_n 2, 1) := dr_44 (by decide +kernel)
set_option maxRecDepth 100000 in
theorem dL_law_1070 : decode cL_law 1070 = .ok (.aload_n 0, 1) := dr_42 (by decide +kernel)
set_option maxRecDepth 100000 in
theorem dL_law_1071 : decode cL_law 1071 = .ok (.iload 4, 2) := dr_21 (by decide +kernel)
set_option maxRecDepth 100000 in
theorem dL_law_1073 : decode cL_law 1073 = .ok (.iconst 1, 1) := dr_4 (by decide +kernel)
set_option maxRecDepth 100000 in
theorem dL_law_1074 : decode cL_law 1074 = .ok (.iadd, 1) := dr_96 (by decide +kernel)
set_option maxRecDepth 100000 in
theorem dL_law_1075 : decode cL_law 1075 = .ok (.iaload, 1) := dr_46 (by decide +kernel)
set_option maxRecDepth 100000 in
theorem dL_law_1076 : decode cL_law 1076 = .ok (.invokevirtual 143, 3) := dr_182 (by decide +kernel)
set_option maxRecDepth 100000 in
theorem dL_law_1079 : decode cL_law 1079 = .ok (.pop, 1) := dr_87 (by decide +kernel)
set_option maxRecDepth 100000 in
theorem dL_law_1080 : decode cL_law 1080 = .ok (.goto 442, 3) := dr_167 (by decide +kernel)
set_option maxRecDepth 100000 in
theorem dL_law_1083 : decode cL_law 1083 = .ok (.aload_n 1, 1) := dr_43 (by decide +kernel)
set_option maxRecDepth 100000 in
theorem dL_law_1084 : decode cL_law 1084 = .ok (.aload_n 0, 1) := dr_42 (by decide +kernel)
set_option maxRecDepth 100000 in
theorem dL_law_1085 : decode cL_law 1085 = .ok (.iload 4, 2) := dr_21 (by decide +kernel)
set_option maxRecDepth 100000 in
theorem dL_law_1087 : decode cL_law 1087 = .ok (.iconst 1, 1) := dr_4 (by decide +kernel)
set_option maxRecDepth 100000 in
theorem dL_law_1088 : decode cL_law 1088 = .ok (.iadd, 1) := dr_96 (by decide +kernel)
set_option maxRecDepth 100000 in
theorem dL_law_1089 : decode cL_law 1089 = .ok (.iaload, 1) := dr_46 (by decide +kernel)
set_option maxRecDepth 100000 in
theorem dL_law_1090 : decode cL_law 1090 = .ok (.aload_n 0, 1) := dr_42 (by decide +kernel)
set_option maxRecDepth 100000 in
theorem dL_law_1091 : decode cL_law 1091 = .ok (.iload 4, 2) := dr_21 (by decide +kernel)
set_option maxRecDepth 100000 in
theorem dL_law_1093 : decode cL_law 1093 = .ok (.iconst 2, 1) := dr_5 (by decide +kernel)
set_option maxRecDepth 100000 in
theorem dL_law_1094 : decode cL_law 1094 = .ok (.iadd, 1) := dr_96 (by decide +kernel)
set_option maxRecDepth 100000 in
theorem dL_law_1095 : decode cL_law 1095 = .ok (.iaload, 1) := dr_46 (by decide +kernel)
set_option maxRecDepth 100000 in
theorem dL_law_1096 : decode cL_law 1096 = .ok (.aload_n 0, 1) := dr_42 (by decide +kernel)
set_option maxRecDepth 100000 in
theorem dL_law_1097 : decode cL_law 1097 = .ok (.iload 4, 2) := dr_21 (by decide +kernel)
set_option maxRecDepth 100000 in
theorem dL_law_1099 : decode cL_law 1099 = .ok (.iconst 3, 1) := dr_6 (by decide +kernel)
set_option maxRecDepth 100000 in
theorem dL_law_1100 : decode cL_law 1100 = .ok (.iadd, 1) := dr_96 (by decide +kernel)
set_option maxRecDepth 100000 in
theorem dL_law_1101 : decode cL_law 1101 = .ok (.iaload, 1) := dr_46 (by decide +kernel)
set_option maxRecDepth 100000 in
theorem dL_law_1102 : decode cL_law 1102 = .ok (.invokevirtual 144, 3) := dr_182 (by decide +kernel)
set_option maxRecDepth 100000 in
theorem dL_law_1105 : decode cL_law 1105 = .ok (.pop, 1) := dr_87 (by decide +kernel)
set_option maxRecDepth 100000 in
theorem dL_law_1106 : decode cL_law 1106 = .ok (.aload_n 2, 1) := dr_44 (by decide +kernel)
set_option maxRecDepth 100000 in
theorem dL_law_1107 : decode cL_law 1107 = .ok (.aload_n 0, 1) := dr_42 (by decide +kernel)
set_option maxRecDepth 100000 in
theorem dL_law_1108 : decode cL_law 1108 = .ok (.iload 4, 2) := dr_21 (by decide +kernel)
set_option maxRecDepth 100000 in
theorem dL_law_1110 : decode cL_law 1110 = .ok (.iconst 1, 1) := dr_4 (by decide +kernel)
set_option maxRecDepth 100000 in
theorem dL_law_1111 : decode cL_law 1111 = .ok (.iadd, 1) := dr_96 (by decide +kernel)
set_option maxRecDepth 100000 in
theorem dL_law_1112 : decode cL_law 1112 = .ok (.iaload, 1) := dr_46 (by decide +kernel)
set_option maxRecDepth 100000 in
theorem dL_law_1113 : decode cL_law 1113 = .ok (.aload_n 0, 1) := dr_42 (by decide +kernel)
set_option maxRecDepth 100000 in
theorem dL_law_1114 : decode cL_law 1114 = .ok (.iload 4, 2) := dr_21 (by decide +kernel)
set_option maxRecDepth 100000 in
theorem dL_law_1116 : decode cL_law 1116 = .ok (.iconst 2, 1) := dr_5 (by decide +kernel)
set_option maxRecDepth 100000 in
theorem dL_law_1117 : decode cL_law 1117 = .ok (.iadd, 1) := dr_96 (by decide +kernel)
set_option maxRecDepth 100000 in
theorem dL_law_1118 : decode cL_law 1118 = .ok (.iaload, 1) := dr_46 (by decide +kernel)
set_option maxRecDepth 100000 in
theorem dL_law_1119 : decode cL_law 1119 = .ok (.aload_n 0, 1) := dr_42 (by decide +kernel)
set_option maxRecDepth 100000 in
theorem dL_law_1120 : decode cL_law 1120 = .ok (.iload 4, 2) := dr_21 (by decide +kernel)
set_option maxRecDepth 100000 in
theorem dL_law_1122 : decode cL_law 1122 = .ok (.iconst 3, 1) := dr_6 (by decide +kernel)
set_option maxRecDepth 100000 in
theorem dL_law_1123 : decode cL_law 1123 = .ok (.iadd, 1) := dr_96 (by decide +kernel)
set_option maxRecDepth 100000 in
theorem dL_law_1124 : decode cL_law 1124 = .ok (.iaload, 1) := dr_46 (by decide +kernel)
set_option maxRecDepth 100000 in
theorem dL_law_1125 : decode cL_law 1125 = .ok (.invokevirtual 147, 3) := dr_182 (by decide +kernel)
set_option maxRecDepth 100000 in
theorem dL_law_1128 : decode cL_law 1128 = .ok (.pop, 1) := dr_87 (by decide +kernel)
set_option maxRecDepth 100000 in
theorem dL_law_1129 : decode cL_law 1129 = .ok (.goto 393, 3) := dr_167 (by decide +kernel)
set_option maxRecDepth 100000 in
theorem dL_law_1132 : decode cL_law 1132 = .ok (.aload_n 1, 1) := dr_43 (by decide +kernel)
set_option maxRecDepth 100000 in
theorem dL_law_1133 : decode cL_law 1133 = .ok (.aload_n 0, 1) := dr_42 (by decide +kernel)
set_option maxRecDepth 100000 in
theorem dL_law_1134 : decode cL_law 1134 = .ok (.iload 4, 2) := dr_21 (by decide +kernel)
set_option maxRecDepth 100000 in
theorem dL_law_1136 : decode cL_law 1136 = .ok (.iconst 1, 1) := dr_4 (by decide +kernel)
set_option maxRecDepth 100000 in
theorem dL_law_1137 : decode cL_law 1137 = .ok (.iadd, 1) := dr_96 (by decide +kernel)
set_option maxRecDepth 100000 in
theorem dL_law_1138 : decode cL_law 1138 = .ok (.iaload, 1) := dr_46 (by decide +kernel)
set_option maxRecDepth 100000 in
theorem dL_law_1139 : decode cL_law 1139 = .ok (.invokevirtual 148, 3) := dr_182 (by decide +kernel)
set_option maxRecDepth 100000 in
theorem dL_law_1142 : decode cL_law 1142 = .ok (.pop, 1) := dr_87 (by decide +kernel)
set_option maxRecDepth 100000 in
theorem dL_law_1143 : decode cL_law 1143 = .ok (.aload_n 2, 1) := dr_44 (by decide +kernel)
set_option maxRecDepth 100000 in
theorem dL_law_1144 : decode cL_law 1144 = .ok (.aload_n 0, 1) := dr_42 (by decide +kernel)
set_option maxRecDepth 100000 in
theorem dL_law_1145 : decode cL_law 1145 = .ok (.iload 4, 2) := dr_21 (by decide +kernel)
set_option maxRecDepth 100000 in
theorem dL_law_1147 : decode cL_law 1147 = .ok (.iconst 1, 1) := dr_4 (by decide +kernel)
set_option maxRecDepth 100000 in
theorem dL_law_1148 : decode cL_law 1148 = .ok (.iadd, 1) := dr_96 (by decide +kernel)
set_option maxRecDepth 100000 in
theorem dL_law_1149 : decode cL_law 1149 = .ok (.iaload, 1) := dr_46 (by decide +kernel)
set_option maxRecDepth 100000 in
theorem dL_law_1150 : decode cL_law 1150 = .ok (.invokevirtual 151, 3) := dr_182 (by decide +kernel)
set_option maxRecDepth 100000 in
theorem dL_law_1153 : decode cL_law 1153 = .ok (.pop, 1) := dr_87 (by decide +kernel)
set_option maxRecDepth 100000 in
theorem dL_law_1154 : decode cL_law 1154 = .ok (.goto 368, 3) := dr_167 (by decide +kernel)
set_option maxRecDepth 100000 in
theorem dL_law_1157 : decode cL_law 1157 = .ok (.aload_n 1, 1) := dr_43 (by decide +kernel)
set_option maxRecDepth 100000 in
theorem dL_law_1158 : decode cL_law 1158 = .ok (.aload_n 0, 1) := dr_42 (by decide +kernel)
set_option maxRecDepth 100000 in
theorem dL_law_1159 : decode cL_law 1159 = .ok (.iload 4, 2) := dr_21 (by decide +kernel)
set_option maxRecDepth 100000 in
theorem dL_law_1161 : decode cL_law 1161 = .ok (.iconst 1, 1) := dr_4 (by decide +kernel)
set_option maxRecDepth 100000 in
theorem dL_law_1162 : decode cL_law 1162 = .ok (.iadd, 1) := dr_96 (by decide +kernel)
set_option maxRecDepth 100000 in
theorem dL_law_1163 : decode cL_law 1163 = .ok (.iaload, 1) := dr_46 (by decide +kernel)
set_option maxRecDepth 100000 in
theorem dL_law_1164 : decode cL_law 1164 = .ok (.aload_n 0, 1) := dr_42 (by decide +kernel)
set_option maxRecDepth 100000 in
theorem dL_law_1165 : decode cL_law 1165 = .ok (.iload 4, 2) := dr_21 (by decide +kernel)
set_option maxRecDepth 100000 in
theorem dL_law_1167 : decode cL_law 1167 = .ok (.iconst 2, 1) := dr_5 (by decide +kernel)
set_option maxRecDepth 100000 in
theorem dL_law_1168 : decode cL_law 1168 = .ok (.iadd, 1) := dr_96 (by decide +kernel)
set_option maxRecDepth 100000 in
theorem dL_law_1169 : decode cL_law 1169 = .ok (.iaload, 1) := dr_46 (by decide +kernel)
set_option maxRecDepth 100000 in
theorem dL_law_1170 : decode cL_law 1170 = .ok (.invokevirtual 152, 3) := dr_182 (by decide +kernel)
set_option maxRecDepth 100000 in
theorem dL_law_1173 : decode cL_law 1173 = .ok (.pop, 1) := dr_87 (by decide +kernel)
set_option maxRecDepth 100000 in
theorem dL_law_1174 : decode cL_law 1174 = .ok (.aload_n 2, 1) := dr_44 (by decide +kernel)
set_option maxRecDepth 100000 in
theorem dL_law_1175 : decode cL_law 1175 = .ok (.aload_n 0, 1) := dr_42 (by decide +kernel)
set_option maxRecDepth 100000 in
theorem dL_law_1176 : decode cL_law 1176 = .ok (.iload 4, 2) := dr_21 (by decide +kernel)
set_option maxRecDepth 100000 in
theorem dL_law_1178 : decode cL_law 1178 = .ok (.iconst 1, 1) := dr_4 (by decide +kernel)
set_option maxRecDepth 100000 in
theorem dL_law_1179 : decode cL_law 1179 = .ok (.iadd, 1) := dr_96 (by decide +kernel)
set_option maxRecDepth 100000 in
theorem dL_law_1180 : decode cL_law 1180 = .ok (.iaload, 1) := dr_46 (by decide +kernel)
set_option maxRecDepth 100000 in
theorem dL_law_1181 : decode cL_law 1181 = .ok (.aload_n 0, 1) := dr_42 (by decide +kernel)
set_option maxRecDepth 100000 in
theorem dL_law_1182 : decode cL_law 1182 = .ok (.iload 4, 2) := dr_21 (by decide +kernel)
set_option maxRecDepth 100000 in
theorem dL_law_1184 : decode cL_law 1184 = .ok (.iconst 2, 1) := dr_5 (by decide +kernel)
set_option maxRecDepth 100000 in
theorem dL_law_1185 : decode cL_law 1185 = .ok (.iadd, 1) := dr_96 (by decide +kernel)
set_option maxRecDepth 100000 in
theorem dL_law_1186 : decode cL_law 1186 = .ok (.iaload, 1) := dr_46 (by decide +kernel)
set_option maxRecDepth 100000 in
theorem dL_law_1187 : decode cL_law 1187 = .ok (.invokevirtual 155, 3) := dr_182 (by decide +kernel)
set_option maxRecDepth 100000 in
theorem dL_law_1190 : decode cL_law 1190 = .ok (.pop, 1) := dr_87 (by decide +kernel)
set_option maxRecDepth 100000 in
theorem dL_law_1191 : decode cL_law 1191 = .ok (.goto 331, 3) := dr_167 (by decide +kernel)
set_option maxRecDepth 100000 in
theorem dL_law_1194 : decode cL_law 1194 = .ok (.aload_n 1, 1) := dr_43 (by decide +kernel)
set_option maxRecDepth 100000 in
theorem dL_law_1195 : decode cL_law 1195 = .ok (.aload_n 0, 1) := dr_42 (by decide +kernel)
set_option maxRecDepth 100000 in
theorem dL_law_1196 : decode cL_law 1196 = .ok (.iload 4, 2) := dr_21 (by decide +kernel)
set_option maxRecDepth 100000 in
theorem dL_law_1198 : decode cL_law 1198 = .ok (.iconst 1, 1) := dr_4 (by decide +kernel)
set_option maxRecDepth 100000 in
theorem dL_law_1199 : decode cL_law 1199 = .ok (.iadd, 1) := dr_96 (by decide +kernel)
set_option maxRecDepth 100000 in
theorem dL_law_1200 : decode cL_law 1200 = .ok (.iaload, 1) := dr_46 (by decide +kernel)
set_option maxRecDepth 100000 in
theorem dL_law_1201 : decode cL_law 1201 = .ok (.invokevirtual 156, 3) := dr_182 (by decide +kernel)
set_option maxRecDepth 100000 in
theorem dL_law_1204 : decode cL_law 1204 = .ok (.pop, 1) := dr_87 (by decide +kernel)
set_option maxRecDepth 100000 in
theorem dL_law_1205 : decode cL_law 1205 = .ok (.aload_n 2, 1) := dr_44 (by decide +kernel)
set_option maxRecDepth 100000 in
theorem dL_law_1206 : decode cL_law 1206 = .ok (.aload_n 0, 1) := dr_42 (by decide +kernel)
set_option maxRecDepth 100000 in
theorem dL_law_1207 : decode cL_law 1207 = .ok (.iload 4, 2) := dr_21 (by decide +kernel)
set_option maxRecDepth 100000 in
theorem dL_law_1209 : decode cL_law 1209 = .ok (.iconst 1, 1) := dr_4 (by decide +kernel)
set_option maxRecDepth 100000 in
theorem dL_law_1210 : decode cL_law 1210 = .ok (.iadd, 1) := dr_96 (by decide +kernel)
set_option maxRecDepth 100000 in
theorem dL_law_1211 : decode cL_law 1211 = .ok (.iaload, 1) := dr_46 (by decide +kernel)
set_option maxRecDepth 100000 in
theorem dL_law_1212 : decode cL_law 1212 = .ok (.invokevirtual 159, 3) := dr_182 (by decide +kernel)
set_option maxRecDepth 100000 in
theorem dL_law_1215 : decode cL_law 1215 = .ok (.pop, 1) := dr_87 (by decide +kernel)
set_option maxRecDepth 100000 in
theorem dL_law_1216 : decode cL_law 1216 = .ok (.goto 306, 3) := dr_167 (by decide +kernel)
set_option maxRecDepth 100000 in
theorem dL_law_1219 : decode cL_law 1219 = .ok (.aload_n 1, 1) := dr_43 (by decide +kernel)
set_option maxRecDepth 100000 in
theorem dL_law_1220 : decode cL_law 1220 = .ok (.invokevirtual 160, 3) := dr_182 (by decide +kernel)
set_option maxRecDepth 100000 in
theorem dL_law_1223 : decode cL_law 1223 = .ok (.pop, 1) := dr_87 (by decide +kernel)
set_option maxRecDepth 100000 in
theorem dL_law_1224 : decode cL_law 1224 = .ok (.aload_n 2, 1) := dr_44 (by decide +kernel)
set_option maxRecDepth 100000 in
theorem dL_law_1225 : decode cL_law 1225 = .ok (.invokevirtual 163, 3) := dr_182 (by decide +kernel)
set_option maxRecDepth 100000 in
theorem dL_law_1228 : decode cL_law 1228 = .ok (.pop, 1) := dr_87 (by decide +kernel)
set_option maxRecDepth 100000 in
theorem dL_law_1229 : decode cL_law 1229 = .ok (.goto 293, 3) := dr_167 (by decide +kernel)
set_option maxRecDepth 100000 in
theorem dL_law_1232 : decode cL_law 1232 = .ok (.aload_n 1, 1) := dr_43 (by decide +kernel)
set_option maxRecDepth 100000 in
theorem dL_law_1233 : decode cL_law 1233 = .ok (.aload_n 0, 1) := dr_42 (by decide +kernel)
set_option maxRecDepth 100000 in
theorem dL_law_1234 : decode cL_law 1234 = .ok (.iload 4, 2) := dr_21 (by decide +kernel)
set_option maxRecDepth 100000 in
theorem dL_law_1236 : decode cL_law 1236 = .ok (.iconst 1, 1) := dr_4 (by decide +kernel)
set_option maxRecDepth 100000 in
theorem dL_law_1237 : decode cL_law 1237 = .ok (.iadd, 1) := dr_96 (by decide +kernel)
set_option maxRecDepth 100000 in
theorem dL_law_1238 : decode cL_law 1238 = .ok (.iaload, 1) := dr_46 (by decide +kernel)
set_option maxRecDepth 100000 in
theorem dL_law_1239 : decode cL_law 1239 = .ok (.invokevirtual 164, 3) := dr_182 (by decide +kernel)
set_option maxRecDepth 100000 in
theorem dL_law_1242 : decode cL_law 1242 = .ok (.pop, 1) := dr_87 (by decide +kernel)
set_option maxRecDepth 100000 in
theorem dL_law_1243 : decode cL_law 1243 = .ok (.aload_n 2, 1) := dr_44 (by decide +kernel)
set_option maxRecDepth 100000 in
theorem dL_law_1244 : decode cL_law 1244 = .ok (.aload_n 0, 1) := dr_42 (by decide +kernel)
set_option maxRecDepth 100000 in
theorem dL_law_1245 : decode cL_law 1245 = .ok (.iload 4, 2) := dr_21 (by decide +kernel)
set_option maxRecDepth 100000 in
theorem dL_law_1247 : decode cL_law 1247 = .ok (.iconst 1, 1) := dr_4 (by decide +kernel)
set_option maxRecDepth 100000 in
theorem dL_law_1248 : decode cL_law 1248 = .ok (.iadd, 1) := dr_96 (by decide +kernel)
set_option maxRecDepth 100000 in
theorem dL_law_1249 : decode cL_law 1249 = .ok (.iaload, 1) := dr_46 (by decide +kernel)
set_option maxRecDepth 100000 in
theorem dL_law_1250 : decode cL_law 1250 = .ok (.invokevirtual 167, 3) := dr_182 (by decide +kernel)
set_option maxRecDepth 100000 in
theorem dL_law_1253 : decode cL_law 1253 = .ok (.pop, 1) := dr_87 (by decide +kernel)
set_option maxRecDepth 100000 in
theorem dL_law_1254 : decode cL_law 1254 = .ok (.goto 268, 3) := dr_167 (by decide +kernel)
set_option maxRecDepth 100000 in
theorem dL_law_1257 : decode cL_law 1257 = .ok (.aload_n 1, 1) := dr_43 (by decide +kernel)
set_option maxRecDepth 100000 in
theorem dL_law_1258 : decode cL_law 1258 = .ok (.aload_n 0, 1) := dr_42 (by decide +kernel)
set_option maxRecDepth 100000 in
theorem dL_law_1259 : decode cL_law 1259 = .ok (.iload 4, 2) := dr_21 (by decide +kernel)
set_option maxRecDepth 100000 in
theorem dL_law_1261 : decode cL_law 1261 = .ok (.iconst 1, 1) := dr_4 (by decide +kernel)
set_option maxRecDepth 100000 in
theorem dL_law_1262 : decode cL_law 1262 = .ok (.iadd, 1) := dr_96 (by decide +kernel)
set_option maxRecDepth 100000 in
theorem dL_law_1263 : decode cL_law 1263 = .ok (.iaload, 1) := dr_46 (by decide +kernel)
set_option maxRecDepth 100000 in
theorem dL_law_1264 : decode cL_law 1264 = .ok (.aload_n 0, 1) := dr_42 (by decide +kernel)
set_option maxRecDepth 100000 in
theorem dL_law_1265 : decode cL_law 1265 = .ok (.iload 4, 2) := dr_21 (by decide +kernel)
set_option maxRecDepth 100000 in
theorem dL_law_1267 : decode cL_law 1267 = .ok (.iconst 2, 1) := dr_5 (by decide +kernel)
set_option maxRecDepth 100000 in
theorem dL_law_1268 : decode cL_law 1268 = .ok (.iadd, 1) := dr_96 (by decide +kernel)
set_option maxRecDepth 100000 in
theorem dL_law_1269 : decode cL_law 1269 = .ok (.iaload, 1) := dr_46 (by decide +kernel)
set_option maxRecDepth 100000 in
theorem dL_law_1270 : decode cL_law 1270 = .ok (.aload_n 0, 1) := dr_42 (by decide +kernel)
set_option maxRecDepth 100000 in
theorem dL_law_1271 : decode cL_law 1271 = .ok (.iload 4, 2) := dr_21 (by decide +kernel)
set_option maxRecDepth 100000 in
theorem dL_law_1273 : decode cL_law 1273 = .ok (.iconst 3, 1) := dr_6 (by decide +kernel)
set_option maxRecDepth 100000 in
theorem dL_law_1274 : decode cL_law 1274 = .ok (.iadd, 1) := dr_96 (by decide +kernel)
set_option maxRecDepth 100000 in
theorem dL_law_1275 : decode cL_law 1275 = .ok (.iaload, 1) := dr_46 (by decide +kernel)
set_option maxRecDepth 100000 in
theorem dL_law_1276 : decode cL_law 1276 = .ok (.invokevirtual 168, 3) := dr_182 (by decide +kernel)
set_option maxRecDepth 100000 in
theorem dL_law_1279 : decode cL_law 1279 = .ok (.pop, 1) := dr_87 (by decide +kernel)
set_option maxRecDepth 100000 in
theorem dL_law_1280 : decode cL_law 1280 = .ok (.aload_n 2, 1) := dr_44 (by decide +kernel)
set_option maxRecDepth 100000 in
theorem dL_law_1281 : decode cL_law 1281 = .ok (.aload_n 0, 1) := dr_42 (by decide +kernel)
set_option maxRecDepth 100000 in
theorem dL_law_1282 : decode cL_law 1282 = .ok (.iload 4, 2) := dr_21 (by decide +kernel)
set_option maxRecDepth 100000 in
theorem dL_law_1284 : decode cL_law 1284 = .ok (.iconst 1, 1) := dr_4 (by decide +kernel)
set_option maxRecDepth 100000 in
theorem dL_law_1285 : decode cL_law 1285 = .ok (.iadd, 1) := dr_96 (by decide +kernel)
set_option maxRecDepth 100000 in
theorem dL_law_1286 : decode cL_law 1286 = .ok (.iaload, 1) := dr_46 (by decide +kernel)
set_option maxRecDepth 100000 in
theorem dL_law_1287 : decode cL_law 1287 = .ok (.aload_n 0, 1) := dr_42 (by decide +kernel)
set_option maxRecDepth 100000 in
theorem dL_law_1288 : decode cL_law 1288 = .ok (.iload 4, 2) := dr_21 (by decide +kernel)
set_option maxRecDepth 100000 in
theorem dL_law_1290 : decode cL_law 1290 = .ok (.iconst 2, 1) := dr_5 (by decide +kernel)
set_option maxRecDepth 100000 in
theorem dL_law_1291 : decode cL_law 1291 = .ok (.iadd, 1) := dr_96 (by decide +kernel)
set_option maxRecDepth 100000 in
theorem dL_law_1292 : decode cL_law 1292 = .ok (.iaload, 1) := dr_46 (by decide +kernel)
set_option maxRecDepth 100000 in
theorem dL_law_1293 : decode cL_law 1293 = .ok (.aload_n 0, 1) := dr_42 (by decide +kernel)
set_option maxRecDepth 100000 in
theorem dL_law_1294 : decode cL_law 1294 = .ok (.iload 4, 2) := dr_21 (by decide +kernel)
set_option maxRecDepth 100000 in
theorem dL_law_1296 : decode cL_law 1296 = .ok (.iconst 3, 1) := dr_6 (by decide +kernel)
set_option maxRecDepth 100000 in
theorem dL_law_1297 : decode cL_law 1297 = .ok (.iadd, 1) := dr_96 (by decide +kernel)
set_option maxRecDepth 100000 in
theorem dL_law_1298 : decode cL_law 1298 = .ok (.iaload, 1) := dr_46 (by decide +kernel)
set_option maxRecDepth 100000 in
theorem dL_law_1299 : decode cL_law 1299 = .ok (.invokevirtual 171, 3) := dr_182 (by decide +kernel)
set_option maxRecDepth 100000 in
theorem dL_law_1302 : decode cL_law 1302 = .ok (.pop, 1) := dr_87 (by decide +kernel)
set_option maxRecDepth 100000 in
theorem dL_law_1303 : decode cL_law 1303 = .ok (.goto 219, 3) := dr_167 (by decide +kernel)
set_option maxRecDepth 100000 in
theorem dL_law_1306 : decode cL_law 1306 = .ok (.aload_n 1, 1) := dr_43 (by decide +kernel)
set_option maxRecDepth 100000 in
theorem dL_law_1307 : decode cL_law 1307 = .ok (.invokevirtual 172, 3) := dr_182 (by decide +kernel)
set_option maxRecDepth 100000 in
theorem dL_law_1310 : decode cL_law 1310 = .ok (.pop, 1) := dr_87 (by decide +kernel)
set_option maxRecDepth 100000 in
theorem dL_law_1311 : decode cL_law 1311 = .ok (.aload_n 2, 1) := dr_44 (by decide +kernel)
set_option maxRecDepth 100000 in
theorem dL_law_1312 : decode cL_law 1312 = .ok (.invokevirtual 175, 3) := dr_182 (by decide +kernel)
set_option maxRecDepth 100000 in
theorem dL_law_1315 : decode cL_law 1315 = .ok (.pop, 1) := dr_87 (by decide +kernel)
set_option maxRecDepth 100000 in
theorem dL_law_1316 : decode cL_law 1316 = .ok (.goto 206, 3) := dr_167 (by decide +kernel)
set_option maxRecDepth 100000 in
theorem dL_law_1319 : decode cL_law 1319 = .ok (.aload_n 1, 1) := dr_43 (by decide +kernel)
set_option maxRecDepth 100000 in
theorem dL_law_1320 : decode cL_law 1320 = .ok (.invokevirtual 176, 3) := dr_182 (by decide +kernel)
set_option maxRecDepth 100000 in
theorem dL_law_1323 : decode cL_law 1323 = .ok (.pop, 1) := dr_87 (by decide +kernel)
set_option maxRecDepth 100000 in
theorem dL_law_1324 : decode cL_law 1324 = .ok (.aload_n 2, 1) := dr_44 (by decide +kernel)
set_option maxRecDepth 100000 in
theorem dL_law_1325 : decode cL_law 1325 = .ok (.invokevirtual 179, 3) := dr_182 (by decide +kernel)
set_option maxRecDepth 100000 in
theorem dL_law_1328 : decode cL_law 1328 = .ok (.pop, 1) := dr_87 (by decide +kernel)
set_option maxRecDepth 100000 in
theorem dL_law_1329 : decode cL_law 1329 = .ok (.goto 193, 3) := dr_167 (by decide +kernel)
set_option maxRecDepth 100000 in
theorem dL_law_1332 : decode cL_law 1332 = .ok (.aload_n 1, 1) := dr_43 (by decide +kernel)
set_option maxRecDepth 100000 in
theorem dL_law_1333 : decode cL_law 1333 = .ok (.aload_n 0, 1) := dr_42 (by decide +kernel)
set_option maxRecDepth 100000 in
theorem dL_law_1334 : decode cL_law 1334 = .ok (.iload 4, 2) := dr_21 (by decide +kernel)
set_option maxRecDepth 100000 in
theorem dL_law_1336 : decode cL_law 1336 = .ok (.iconst 1, 1) := dr_4 (by decide +kernel)
set_option maxRecDepth 100000 in
theorem dL_law_1337 : decode cL_law 1337 = .ok (.iadd, 1) := dr_96 (by decide +kernel)
set_option maxRecDepth 100000 in
theorem dL_law_1338 : decode cL_law 1338 = .ok (.iaload, 1) := dr_46 (by decide +kernel)
set_option maxRecDepth 100000 in
theorem dL_law_1339 : decode cL_law 1339 = .ok (.aload_n 0, 1) := dr_42 (by decide +kernel)
set_option maxRecDepth 100000 in
theorem dL_law_1340 : decode cL_law 1340 = .ok (.iload 4, 2) := dr_21 (by decide +kernel)
set_option maxRecDepth 100000 in
theorem dL_law_1342 : decode cL_law 1342 = .ok (.iconst 2, 1) := dr_5 (by decide +kernel)
set_option maxRecDepth 100000 in
theorem dL_law_1343 : decode cL_law 1343 = .ok (.iadd, 1) := dr_96 (by decide +kernel)
set_option maxRecDepth 100000 in
theorem dL_law_1344 : decode cL_law 1344 = .ok (.iaload, 1) := dr_46 (by decide +kernel)
set_option maxRecDepth 100000 in
theorem dL_law_1345 : decode cL_law 1345 = .ok (.invokevirtual 180, 3) := dr_182 (by decide +kernel)
set_option maxRecDepth 100000 in
theorem dL_law_1348 : decode cL_law 1348 = .ok (.pop, 1) := dr_87 (by decide +kernel)
set_option maxRecDepth 100000 in
theorem dL_law_1349 : decode cL_law 1349 = .ok (.aload_n 2, 1) := dr_44 (by decide +kernel)
set_option maxRecDepth 100000 in
theorem dL_law_1350 : decode cL_law 1350 = .ok (.aload_n 0, 1) := dr_42 (by decide +kernel)
set_option maxRecDepth 100000 in
theorem dL_law_1351 : decode cL_law 1351 = .ok (.iload 4, 2) := dr_21 (by decide +kernel)
set_option maxRecDepth 100000 in
theorem dL_law_1353 : decode cL_law 1353 = .ok (.iconst 1, 1) := dr_4 (by decide +kernel)
set_option maxRecDepth 100000 in
theorem dL_law_1354 : decode cL_law 1354 = .ok (.iadd, 1) := dr_96 (by decide +kernel)
set_option maxRecDepth 100000 in
theorem dL_law_1355 : decode cL_law 1355 = .ok (.iaload, 1) := dr_46 (by decide +kernel)
set_option maxRecDepth 100000 in
theorem dL_law_1356 : decode cL_law 1356 = .ok (.aload_n 0, 1) := dr_42 (by decide +kernel)
set_option maxRecDepth 100000 in
theorem dL_law_1357 : decode cL_law 1357 = .ok (.iload 4, 2) := dr_21 (by decide +kernel)
set_option maxRecDepth 100000 in
theorem dL_law_1359 : decode cL_law 1359 = .ok (.iconst 2, 1) := dr_5 (by decide +kernel)
set_option maxRecDepth 100000 in
theorem dL_law_1360 : decode cL_law 1360 = .ok (.iadd, 1) := dr_96 (by decide +kernel)
set_option maxRecDepth 100000 in
theorem dL_law_1361 : decode cL_law 1361 = .ok (.iaload, 1) := dr_46 (by decide +kernel)
set_option maxRecDepth 100000 in
theorem dL_law_1362 : decode cL_law 1362 = .ok (.invokevirtual 183, 3) := dr_182 (by decide +kernel)
set_option maxRecDepth 100000 in
theorem dL_law_1365 : decode cL_law 1365 = .ok (.pop, 1) := dr_87 (by decide +kernel)
set_option maxRecDepth 100000 in
theorem dL_law_1366 : decode cL_law 1366 = .ok (.goto 156, 3) := dr_167 (by decide +kernel)
set_option maxRecDepth 100000 in
theorem dL_law_1369 : decode cL_law 1369 = .ok (.aload_n 1, 1) := dr_43 (by decide +kernel)
set_option maxRecDepth 100000 in
theorem dL_law_1370 : decode cL_law 1370 = .ok (.aload_n 0, 1) := dr_42 (by decide +kernel)
set_option maxRecDepth 100000 in
theorem dL_law_1371 : decode cL_law 1371 = .ok (.iload 4, 2) := dr_21 (by decide +kernel)
set_option maxRecDepth 100000 in
theorem dL_law_1373 : decode cL_law 1373 = .ok (.iconst 1, 1) := dr_4 (by decide +kernel)
set_option maxRecDepth 100000 in
theorem dL_law_1374 : decode cL_law 1374 = .ok (.iadd, 1) := dr_96 (by decide +kernel)
set_option maxRecDepth 100000 in
theorem dL_law_1375 : decode cL_law 1375 = .ok (.iaload, 1) := dr_46 (by decide +kernel)
set_option maxRecDepth 100000 in
theorem dL_law_1376 : decode cL_law 1376 = .ok (.invokevirtual 184, 3) := dr_182 (by decide +kernel)
set_option maxRecDepth 100000 in
theorem dL_law_1379 : decode cL_law 1379 = .ok (.pop, 1) := dr_87 (by decide +kernel)
set_option maxRecDepth 100000 in
theorem dL_law_1380 : decode cL_law 1380 = .ok (.aload_n 2, 1) := dr_44 (by decide +kernel)
set_option maxRecDepth 100000 in
theorem dL_law_1381 : decode cL_law 1381 = .ok (.aload_n 0, 1) := dr_42 (by decide +kernel)
set_option maxRecDepth 100000 in
theorem dL_law_1382 : decode cL_law 1382 = .ok (.iload 4, 2) := dr_21 (by decide +kernel)
set_option maxRecDepth 100000 in
theorem dL_law_1384 : decode cL_law 1384 = .ok (.iconst 1, 1) := dr_4 (by decide +kernel)
set_option maxRecDepth 100000 in
theorem dL_law_1385 : decode cL_law 1385 = .ok (.iadd, 1) := dr_96 (by decide +kernel)
set_option maxRecDepth 100000 in
theorem dL_law_1386 : decode cL_law 1386 = .ok (.iaload, 1) := dr_46 (by decide +kernel)
set_option maxRecDepth 100000 in
theorem dL_law_1387 : decode cL_law 1387 = .ok (.invokevirtual 187, 3) := dr_182 (by decide +kernel)
set_option maxRecDepth 100000 in
theorem dL_law_1390 : decode cL_law 1390 = .ok (.pop, 1) := dr_87 (by decide +kernel)
set_option maxRecDepth 100000 in
theorem dL_law_1391 : decode cL_law 1391 = .ok (.goto 131, 3) := dr_167 (by decide +kernel)
set_option maxRecDepth 100000 in
theorem dL_law_1394 : decode cL_law 1394 = .ok (.aload_n 1, 1) := dr_43 (by decide +kernel)
set_option maxRecDepth 100000 in
theorem dL_law_1395 : decode cL_law 1395 = .ok (.aload_n 0, 1) := dr_42 (by decide +kernel)
set_option maxRecDepth 100000 in
theorem dL_law_1396 : decode cL_law 1396 = .ok (.iload 4, 2) := dr_21 (by decide +kernel)
set_option maxRecDepth 100000 in
theorem dL_law_1398 : decode cL_law 1398 = .ok (.iconst 1, 1) := dr_4 (by decide +kernel)
set_option maxRecDepth 100000 in
theorem dL_law_1399 : decode cL_law 1399 = .ok (.iadd, 1) := dr_96 (by decide +kernel)
set_option maxRecDepth 100000 in
theorem dL_law_1400 : decode cL_law 1400 = .ok (.iaload, 1) := dr_46 (by decide +kernel)
set_option maxRecDepth 100000 in
theorem dL_law_1401 : decode cL_law 1401 = .ok (.invokevirtual 188, 3) := dr_182 (by decide +kernel)
set_option maxRecDepth 100000 in
theorem dL_law_1404 : decode cL_law 1404 = .ok (.pop, 1) := dr_87 (by decide +kernel)
set_option maxRecDepth 100000 in
theorem dL_law_1405 : decode cL_law 1405 = .ok (.aload_n 2, 1) := dr_44 (by decide +kernel)
set_option maxRecDepth 100000 in
theorem dL_law_1406 : decode cL_law 1406 = .ok (.aload_n 0, 1) := dr_42 (by decide +kernel)
set_option maxRecDepth 100000 in
theorem dL_law_1407 : decode cL_law 1407 = .ok (.iload 4, 2) := dr_21 (by decide +kernel)
set_option maxRecDepth 100000 in
theorem dL_law_1409 : decode cL_law 1409 = .ok (.iconst 1, 1) := dr_4 (by decide +kernel)
set_option maxRecDepth 100000 in
theorem dL_law_1410 : decode cL_law 1410 = .ok (.iadd, 1) := dr_96 (by decide +kernel)
set_option maxRecDepth 100000 in
theorem dL_law_1411 : decode cL_law 1411 = .ok (.iaload, 1) := dr_46 (by decide +kernel)
set_option maxRecDepth 100000 in
theorem dL_law_1412 : decode cL_law 1412 = .ok (.invokevirtual 191, 3) := dr_182 (by decide +kernel)
set_option maxRecDepth 100000 in
theorem dL_law_1415 : decode cL_law 1415 = .ok (.pop, 1) := dr_87 (by decide +kernel)
set_option maxRecDepth 100000 in
theorem dL_law_1416 : decode cL_law 1416 = .ok (.goto 106, 3) := dr_167 (by decide +kernel)
set_option maxRecDepth 100000 in
theorem dL_law_1419 : decode cL_law 1419 = .ok (.aload_n 1, 1) := dr_43 (by decide +kernel)
set_option maxRecDepth 100000 in
theorem dL_law_1420 : decode cL_law 1420 = .ok (.aload_n 0, 1) := dr_42 (by decide +kernel)
set_option maxRecDepth 100000 in
theorem dL_law_1421 : decode cL_law 1421 = .ok (.iload 4, 2) := dr_21 (by decide +kernel)
set_option maxRecDepth 100000 in
theorem dL_law_1423 : decode cL_law 1423 = .ok (.iconst 1, 1) := dr_4 (by decide +kernel)
set_option maxRecDepth 100000 in
theorem dL_law_1424 : decode cL_law 1424 = .ok (.iadd, 1) := dr_96 (by decide +kernel)
set_option maxRecDepth 100000 in
theorem dL_law_1425 : decode cL_law 1425 = .ok (.iaload, 1) := dr_46 (by decide +kernel)
set_option maxRecDepth 100000 in
theorem dL_law_1426 : decode cL_law 1426 = .ok (.invokevirtual 192, 3) := dr_182 (by decide +kernel)
set_option maxRecDepth 100000 in
theorem dL_law_1429 : decode cL_law 1429 = .ok (.pop, 1) := dr_87 (by decide +kernel)
set_option maxRecDepth 100000 in
theorem dL_law_1430 : decode cL_law 1430 = .ok (.aload_n 2, 1) := dr_44 (by decide +kernel)
set_option maxRecDepth 100000 in
theorem dL_law_1431 : decode cL_law 1431 = .ok (.aload_n 0, 1) := dr_42 (by decide +kernel)
set_option maxRecDepth 100000 in
theorem dL_law_1432 : decode cL_law 1432 = .ok (.iload 4, 2) := dr_21 (by decide +kernel)
set_option maxRecDepth 100000 in
theorem dL_law_1434 : decode cL_law 1434 = .ok (.iconst 1, 1) := dr_4 (by decide +kernel)
set_option maxRecDepth 100000 in
theorem dL_law_1435 : decode cL_law 1435 = .ok (.iadd, 1) := dr_96 (by decide +kernel)
set_option maxRecDepth 100000 in
theorem dL_law_1436 : decode cL_law 1436 = .ok (.iaload, 1) := dr_46 (by decide +kernel)
set_option maxRecDepth 100000 in
theorem dL_law_1437 : decode cL_law 1437 = .ok (.invokevirtual 195, 3) := dr_182 (by decide +kernel)
set_option maxRecDepth 100000 in
theorem dL_law_1440 : decode cL_law 1440 = .ok (.pop, 1) := dr_87 (by decide +kernel)
set_option maxRecDepth 100000 in
theorem dL_law_1441 : decode cL_law 1441 = .ok (.goto 81, 3) := dr_167 (by decide +kernel)
set_option maxRecDepth 100000 in
theorem dL_law_1444 : decode cL_law 1444 = .ok (.aload_n 1, 1) := dr_43 (by decide +kernel)
set_option maxRecDepth 100000 in
theorem dL_law_1445 : decode cL_law 1445 = .ok (.aload_n 0, 1) := dr_42 (by decide +kernel)
set_option maxRecDepth 100000 in
theorem dL_law_1446 : decode cL_law 1446 = .ok (.iload 4, 2) := dr_21 (by decide +kernel)
set_option maxRecDepth 100000 in
theorem dL_law_1448 : decode cL_law 1448 = .ok (.iconst 1, 1) := dr_4 (by decide +kernel)
set_option maxRecDepth 100000 in
theorem dL_law_1449 : decode cL_law 1449 = .ok (.iadd, 1) := dr_96 (by decide +kernel)
set_option maxRecDepth 100000 in
theorem dL_law_1450 : decode cL_law 1450 = .ok (.iaload, 1) := dr_46 (by decide +kernel)
set_option maxRecDepth 100000 in
theorem dL_law_1451 : decode cL_law 1451 = .ok (.invokevirtual 196, 3) := dr_182 (by decide +kernel)
set_option maxRecDepth 100000 in
theorem dL_law_1454 : decode cL_law 1454 = .ok (.pop, 1) := dr_87 (by decide +kernel)
set_option maxRecDepth 100000 in
theorem dL_law_1455 : decode cL_law 1455 = .ok (.aload_n 2, 1) := dr_44 (by decide +kernel)
set_option maxRecDepth 100000 in
theorem dL_law_1456 : decode cL_law 1456 = .ok (.aload_n 0, 1) := dr_42 (by decide +kernel)
set_option maxRecDepth 100000 in
theorem dL_law_1457 : decode cL_law 1457 = .ok (.iload 4, 2) := dr_21 (by decide +kernel)
set_option maxRecDepth 100000 in
theorem dL_law_1459 : decode cL_law 1459 = .ok (.iconst 1, 1) := dr_4 (by decide +kernel)
set_option maxRecDepth 100000 in
theorem dL_law_1460 : decode cL_law 1460 = .ok (.iadd, 1) := dr_96 (by decide +kernel)
set_option maxRecDepth 100000 in
theorem dL_law_1461 : decode cL_law 1461 = .ok (.iaload, 1) := dr_46 (by decide +kernel)
set_option maxRecDepth 100000 in
theorem dL_law_1462 : decode cL_law 1462 = .ok (.invokevirtual 199, 3) := dr_182 (by decide +kernel)
set_option maxRecDepth 100000 in
theorem dL_law_1465 : decode cL_law 1465 = .ok (.pop, 1) := dr_87 (by decide +kernel)
set_option maxRecDepth 100000 in
theorem dL_law_1466 : decode cL_law 1466 = .ok (.goto 56, 3) := dr_167 (by decide +kernel)
set_option maxRecDepth 100000 in
theorem dL_law_1469 : decode cL_law 1469 = .ok (.aload_n 1, 1) := dr_43 (by decide +kernel)
set_option maxRecDepth 100000 in
theorem dL_law_1470 : decode cL_law 1470 = .ok (.aload_n 0, 1) := dr_42 (by decide +kernel)
set_option maxRecDepth 100000 in
theorem dL_law_1471 : decode cL_law 1471 = .ok (.iload 4, 2) := dr_21 (by decide +kernel)
set_option maxRecDepth 100000 in
theorem dL_law_1473 : decode cL_law 1473 = .ok (.iconst 1, 1) := dr_4 (by decide +kernel)
set_option maxRecDepth 100000 in
theorem dL_law_1474 : decode cL_law 1474 = .ok (.iadd, 1) := dr_96 (by decide +kernel)
set_option maxRecDepth 100000 in
theorem dL_law_1475 : decode cL_law 1475 = .ok (.iaload, 1) := dr_46 (by decide +kernel)
set_option maxRecDepth 100000 in
theorem dL_law_1476 : decode cL_law 1476 = .ok (.invokevirtual 200, 3) := dr_182 (by decide +kernel)
set_option maxRecDepth 100000 in
theorem dL_law_1479 : decode cL_law 1479 = .ok (.pop, 1) := dr_87 (by decide +kernel)
set_option maxRecDepth 100000 in
theorem dL_law_1480 : decode cL_law 1480 = .ok (.aload_n 2, 1) := dr_44 (by decide +kernel)
set_option maxRecDepth 100000 in
theorem dL_law_1481 : decode cL_law 1481 = .ok (.aload_n 0, 1) := dr_42 (by decide +kernel)
set_option maxRecDepth 100000 in
theorem dL_law_1482 : decode cL_law 1482 = .ok (.iload 4, 2) := dr_21 (by decide +kernel)
set_option maxRecDepth 100000 in
theorem dL_law_1484 : decode cL_law 1484 = .ok (.iconst 1, 1) := dr_4 (by decide +kernel)
set_option maxRecDepth 100000 in
theorem dL_law_1485 : decode cL_law 1485 = .ok (.iadd, 1) := dr_96 (by decide +kernel)
set_option maxRecDepth 100000 in
theorem dL_law_1486 : decode cL_law 1486 = .ok (.iaload, 1) := dr_46 (by decide +kernel)
set_option maxRecDepth 100000 in
theorem dL_law_1487 : decode cL_law 1487 = .ok (.invokevirtual 203, 3) := dr_182 (by decide +kernel)
set_option maxRecDepth 100000 in
theorem dL_law_1490 : decode cL_law 1490 = .ok (.pop, 1) := dr_87 (by decide +kernel)
set_option maxRecDepth 100000 in
theorem dL_law_1491 : decode cL_law 1491 = .ok (.goto 31, 3) := dr_167 (by decide +kernel)
set_option maxRecDepth 100000 in
theorem dL_law_1494 : decode cL_law 1494 = .ok (.aload_n 1, 1) := dr_43 (by decide +kernel)
set_option maxRecDepth 100000 in
theorem dL_law_1495 : decode cL_law 1495 = .ok (.aload_n 0, 1) := dr_42 (by decide +kernel)
set_option maxRecDepth 100000 in
theorem dL_law_1496 : decode cL_law 1496 = .ok (.iload 4, 2) := dr_21 (by decide +kernel)
set_option maxRecDepth 100000 in
theorem dL_law_1498 : decode cL_law 1498 = .ok (.iconst 1, 1) := dr_4 (by decide +kernel)
set_option maxRecDepth 100000 in
theorem dL_law_1499 : decode cL_law 1499 = .ok (.iadd, 1) := dr_96 (by decide +kernel)
set_option maxRecDepth 100000 in
theorem dL_law_1500 : decode cL_law 1500 = .ok (.iaload, 1) := dr_46 (by decide +kernel)
set_option maxRecDepth 100000 in
theorem dL_law_1501 : decode cL_law 1501 = .ok (.aload_n 3, 1) := dr_45 (by decide +kernel)
set_option maxRecDepth 100000 in
theorem dL_law_1502 : decode cL_law 1502 = .ok (.invokestatic 204, 3) := dr_184 (by decide +kernel)
set_option maxRecDepth 100000 in
theorem dL_law_1505 : decode cL_law 1505 = .ok (.istore 5, 2) := dr_54 (by decide +kernel)
set_option maxRecDepth 100000 in
theorem dL_law_1507 : decode cL_law 1507 = .ok (.aload_n 2, 1) := dr_44 (by decide +kernel)
set_option maxRecDepth 100000 in
theorem dL_law_1508 : decode cL_law 1508 = .ok (.aload_n 0, 1) := dr_42 (by decide +kernel)
set_option maxRecDepth 100000 in
theorem dL_law_1509 : decode cL_law 1509 = .ok (.iload 4, 2) := dr_21 (by decide +kernel)
set_option maxRecDepth 100000 in
theorem dL_law_1511 : decode cL_law 1511 = .ok (.iconst 1, 1) := dr_4 (by decide +kernel)
set_option maxRecDepth 100000 in
theorem dL_law_1512 : decode cL_law 1512 = .ok (.iadd, 1) := dr_96 (by decide +kernel)
set_option maxRecDepth 100000 in
theorem dL_law_1513 : decode cL_law 1513 = .ok (.iaload, 1) := dr_46 (by decide +kernel)
set_option maxRecDepth 100000 in
theorem dL_law_1514 : decode cL_law 1514 = .ok (.invokevirtual 207, 3) := dr_182 (by decide +kernel)
set_option maxRecDepth 100000 in
theorem dL_law_1517 : decode cL_law 1517 = .ok (.lstore 6, 2) := dr_55 (by decide +kernel)
set_option maxRecDepth 100000 in
theorem dL_law_1519 : decode cL_law 1519 = .ok (.goto 3, 3) := dr_167 (by decide +kernel)
set_option maxRecDepth 100000 in
theorem dL_law_1522 : decode cL_law 1522 = .ok (.iinc 4 6, 3) := dr_132 (by decide +kernel)
set_option maxRecDepth 100000 in
theorem dL_law_1525 : decode cL_law 1525 = .ok (.goto (-1502), 3) := dr_167 (by decide +kernel)
set_option maxRecDepth 100000 in
theorem dL_law_1528 : decode cL_law 1528 = .ok (.iconst 1, 1) := dr_4 (by decide +kernel)
set_option maxRecDepth 100000 in
theorem dL_law_1529 : decode cL_law 1529 = .ok (.ireturn, 1) := dr_172 (by decide +kernel)
