/-! DECODE ROWS of the law's methods -/
theorem dL_areAlike_238 : decode cL_areAlike 238 = .ok (.invokevirtual 31, 3) := by decide +kernel
theorem dL_areAlike_241 : decode cL_areAlike 241 = .ok (.aload_n 1, 1) := by decide +kernel
theorem dL_areAlike_242 : decode cL_areAlike 242 = .ok (.iload 5, 2) := by decide +kernel
theorem dL_areAlike_244 : decode cL_areAlike 244 = .ok (.iload 6, 2) := by decide +kernel
theorem dL_areAlike_246 : decode cL_areAlike 246 = .ok (.invokevirtual 31, 3) := by decide +kernel
theorem dL_areAlike_249 : decode cL_areAlike 249 = .ok (.if_icmp .ne 7, 3) := by decide +kernel
theorem dL_areAlike_252 : decode cL_areAlike 252 = .ok (.iconst 1, 1) := by decide +kernel
theorem dL_areAlike_253 : decode cL_areAlike 253 = .ok (.goto 4, 3) := by decide +kernel
theorem dL_areAlike_256 : decode cL_areAlike 256 = .ok (.iconst 0, 1) := by decide +kernel
theorem dL_areAlike_257 : decode cL_areAlike 257 = .ok (.istore 4, 2) := by decide +kernel
theorem dL_areAlike_259 : decode cL_areAlike 259 = .ok (.iinc 6 1, 3) := by decide +kernel
theorem dL_areAlike_262 : decode cL_areAlike 262 = .ok (.goto (-72), 3) := by decide +kernel
theorem dL_areAlike_265 : decode cL_areAlike 265 = .ok (.iload 4, 2) := by decide +kernel
theorem dL_areAlike_267 : decode cL_areAlike 267 = .ok (.ifCond .eq 37, 3) := by decide +kernel
theorem dL_areAlike_270 : decode cL_areAlike 270 = .ok (.aload_n 0, 1) := by decide +kernel
theorem dL_areAlike_271 : decode cL_areAlike 271 = .ok (.iload 5, 2) := by decide +kernel
theorem dL_areAlike_273 : decode cL_areAlike 273 = .ok (.invokevirtual 73, 3) := by decide +kernel
theorem dL_areAlike_276 : decode cL_areAlike 276 = .ok (.aload_n 1, 1) := by decide +kernel
theorem dL_areAlike_277 : decode cL_areAlike 277 = .ok (.iload 5, 2) := by decide +kernel
theorem dL_areAlike_279 : decode cL_areAlike 279 = .ok (.invokevirtual 73, 3) := by decide +kernel
theorem dL_areAlike_282 : decode cL_areAlike 282 = .ok (.if_icmp .ne 22, 3) := by decide +kernel
theorem dL_areAlike_285 : decode cL_areAlike 285 = .ok (.aload_n 0, 1) := by decide +kernel
theorem dL_areAlike_286 : decode cL_areAlike 286 = .ok (.iload 5, 2) := by decide +kernel
theorem dL_areAlike_288 : decode cL_areAlike 288 = .ok (.invokevirtual 76, 3) := by decide +kernel
theorem dL_areAlike_291 : decode cL_areAlike 291 = .ok (.aload_n 1, 1) := by decide +kernel
theorem dL_areAlike_292 : decode cL_areAlike 292 = .ok (.iload 5, 2) := by decide +kernel
theorem dL_areAlike_294 : decode cL_areAlike 294 = .ok (.invokevirtual 76, 3) := by decide +kernel
theorem dL_areAlike_297 : decode cL_areAlike 297 = .ok (.if_icmp .ne 7, 3) := by decide +kernel
theorem dL_areAlike_300 : decode cL_areAlike 300 = .ok (.iconst 1, 1) := by decide +kernel
theorem dL_areAlike_301 : decode cL_areAlike 301 = .ok (.goto 4, 3) := by decide +kernel
theorem dL_areAlike_304 : decode cL_areAlike 304 = .ok (.iconst 0, 1) := by decide +kernel
theorem dL_areAlike_305 : decode cL_areAlike 305 = .ok (.istore 4, 2) := by decide +kernel
theorem dL_areAlike_307 : decode cL_areAlike 307 = .ok (.iinc 5 1, 3) := by decide +kernel
theorem dL_areAlike_310 : decode cL_areAlike 310 = .ok (.goto (-133), 3) := by decide +kernel
theorem dL_areAlike_313 : decode cL_areAlike 313 = .ok (.iconst 0, 1) := by decide +kernel
theorem dL_areAlike_314 : decode cL_areAlike 314 = .ok (.istore 5, 2) := by decide +kernel
theorem dL_areAlike_316 : decode cL_areAlike 316 = .ok (.iload 5, 2) := by decide +kernel
theorem dL_areAlike_318 : decode cL_areAlike 318 = .ok (.bipush 48, 2) := by decide +kernel
theorem dL_areAlike_320 : decode cL_areAlike 320 = .ok (.if_icmp .ge 48, 3) := by decide +kernel
theorem dL_areAlike_323 : decode cL_areAlike 323 = .ok (.iload 4, 2) := by decide +kernel
theorem dL_areAlike_325 : decode cL_areAlike 325 = .ok (.ifCond .eq 34, 3) := by decide +kernel
theorem dL_areAlike_328 : decode cL_areAlike 328 = .ok (.aload_n 0, 1) := by decide +kernel
theorem dL_areAlike_329 : decode cL_areAlike 329 = .ok (.iload 5, 2) := by decide +kernel
theorem dL_areAlike_331 : decode cL_areAlike 331 = .ok (.iconst 4, 1) := by decide +kernel
theorem dL_areAlike_332 : decode cL_areAlike 332 = .ok (.idiv, 1) := by decide +kernel
theorem dL_areAlike_333 : decode cL_areAlike 333 = .ok (.iload 5, 2) := by decide +kernel
theorem dL_areAlike_335 : decode cL_areAlike 335 = .ok (.iconst 4, 1) := by decide +kernel
theorem dL_areAlike_336 : decode cL_areAlike 336 = .ok (.irem, 1) := by decide +kernel
theorem dL_areAlike_337 : decode cL_areAlike 337 = .ok (.invokevirtual 21, 3) := by decide +kernel
theorem dL_areAlike_340 : decode cL_areAlike 340 = .ok (.aload_n 1, 1) := by decide +kernel
theorem dL_areAlike_341 : decode cL_areAlike 341 = .ok (.iload 5, 2) := by decide +kernel
theorem dL_areAlike_343 : decode cL_areAlike 343 = .ok (.iconst 4, 1) := by decide +kernel
theorem dL_areAlike_344 : decode cL_areAlike 344 = .ok (.idiv, 1) := by decide +kernel
theorem dL_areAlike_345 : decode cL_areAlike 345 = .ok (.iload 5, 2) := by decide +kernel
theorem dL_areAlike_347 : decode cL_areAlike 347 = .ok (.iconst 4, 1) := by decide +kernel
theorem dL_areAlike_348 : decode cL_areAlike 348 = .ok (.irem, 1) := by decide +kernel
theorem dL_areAlike_349 : decode cL_areAlike 349 = .ok (.invokevirtual 21, 3) := by decide +kernel
theorem dL_areAlike_352 : decode cL_areAlike 352 = .ok (.if_icmp .ne 7, 3) := by decide +kernel
theorem dL_areAlike_355 : decode cL_areAlike 355 = .ok (.iconst 1, 1) := by decide +kernel
theorem dL_areAlike_356 : decode cL_areAlike 356 = .ok (.goto 4, 3) := by decide +kernel
theorem dL_areAlike_359 : decode cL_areAlike 359 = .ok (.iconst 0, 1) := by decide +kernel
theorem dL_areAlike_360 : decode cL_areAlike 360 = .ok (.istore 4, 2) := by decide +kernel
theorem dL_areAlike_362 : decode cL_areAlike 362 = .ok (.iinc 5 1, 3) := by decide +kernel
theorem dL_areAlike_365 : decode cL_areAlike 365 = .ok (.goto (-49), 3) := by decide +kernel
theorem dL_areAlike_368 : decode cL_areAlike 368 = .ok (.iload 4, 2) := by decide +kernel
theorem dL_areAlike_370 : decode cL_areAlike 370 = .ok (.ireturn, 1) := by decide +kernel
theorem dL_isWell_0 : decode cL_isWell 0 = .ok (.iconst 0, 1) := by decide +kernel
theorem dL_isWell_1 : decode cL_isWell 1 = .ok (.istore_n 1, 1) := by decide +kernel
theorem dL_isWell_2 : decode cL_isWell 2 = .ok (.iconst 0, 1) := by decide +kernel
theorem dL_isWell_3 : decode cL_isWell 3 = .ok (.istore_n 2, 1) := by decide +kernel
theorem dL_isWell_4 : decode cL_isWell 4 = .ok (.iconst 0, 1) := by decide +kernel
theorem dL_isWell_5 : decode cL_isWell 5 = .ok (.istore_n 3, 1) := by decide +kernel
theorem dL_isWell_6 : decode cL_isWell 6 = .ok (.iconst 4, 1) := by decide +kernel
theorem dL_isWell_7 : decode cL_isWell 7 = .ok (.newarray .int, 2) := by decide +kernel
theorem dL_isWell_9 : decode cL_isWell 9 = .ok (.astore 4, 2) := by decide +kernel
theorem dL_isWell_11 : decode cL_isWell 11 = .ok (.iconst 0, 1) := by decide +kernel
theorem dL_isWell_12 : decode cL_isWell 12 = .ok (.istore 5, 2) := by decide +kernel
theorem dL_isWell_14 : decode cL_isWell 14 = .ok (.iconst 1, 1) := by decide +kernel
theorem dL_isWell_15 : decode cL_isWell 15 = .ok (.istore 6, 2) := by decide +kernel
theorem dL_isWell_17 : decode cL_isWell 17 = .ok (.iconst 0, 1) := by decide +kernel
theorem dL_isWell_18 : decode cL_isWell 18 = .ok (.istore 7, 2) := by decide +kernel
theorem dL_isWell_20 : decode cL_isWell 20 = .ok (.iload 7, 2) := by decide +kernel
theorem dL_isWell_22 : decode cL_isWell 22 = .ok (.aload_n 0, 1) := by decide +kernel
theorem dL_isWell_23 : decode cL_isWell 23 = .ok (.iconst 4, 1) := by decide +kernel
theorem dL_isWell_24 : decode cL_isWell 24 = .ok (.invokevirtual 9, 3) := by decide +kernel
theorem dL_isWell_27 : decode cL_isWell 27 = .ok (.if_icmp .ge 210, 3) := by decide +kernel
theorem dL_isWell_30 : decode cL_isWell 30 = .ok (.aload_n 0, 1) := by decide +kernel
theorem dL_isWell_31 : decode cL_isWell 31 = .ok (.iload 7, 2) := by decide +kernel
theorem dL_isWell_33 : decode cL_isWell 33 = .ok (.iconst 2, 1) := by decide +kernel
theorem dL_isWell_34 : decode cL_isWell 34 = .ok (.invokevirtual 31, 3) := by decide +kernel
theorem dL_isWell_37 : decode cL_isWell 37 = .ok (.istore 8, 2) := by decide +kernel
theorem dL_isWell_39 : decode cL_isWell 39 = .ok (.iload_n 1, 1) := by decide +kernel
theorem dL_isWell_40 : decode cL_isWell 40 = .ok (.aload_n 0, 1) := by decide +kernel
theorem dL_isWell_41 : decode cL_isWell 41 = .ok (.iload 7, 2) := by decide +kernel
theorem dL_isWell_43 : decode cL_isWell 43 = .ok (.bipush 6, 2) := by decide +kernel
theorem dL_isWell_45 : decode cL_isWell 45 = .ok (.invokevirtual 31, 3) := by decide +kernel
theorem dL_isWell_48 : decode cL_isWell 48 = .ok (.iadd, 1) := by decide +kernel
theorem dL_isWell_49 : decode cL_isWell 49 = .ok (.istore_n 1, 1) := by decide +kernel
theorem dL_isWell_50 : decode cL_isWell 50 = .ok (.iload_n 2, 1) := by decide +kernel
theorem dL_isWell_51 : decode cL_isWell 51 = .ok (.aload_n 0, 1) := by decide +kernel
theorem dL_isWell_52 : decode cL_isWell 52 = .ok (.iload 7, 2) := by decide +kernel
theorem dL_isWell_54 : decode cL_isWell 54 = .ok (.iconst 5, 1) := by decide +kernel
theorem dL_isWell_55 : decode cL_isWell 55 = .ok (.invokevirtual 31, 3) := by decide +kernel
theorem dL_isWell_58 : decode cL_isWell 58 = .ok (.iadd, 1) := by decide +kernel
theorem dL_isWell_59 : decode cL_isWell 59 = .ok (.istore_n 2, 1) := by decide +kernel
theorem dL_isWell_60 : decode cL_isWell 60 = .ok (.iload_n 3, 1) := by decide +kernel
theorem dL_isWell_61 : decode cL_isWell 61 = .ok (.aload_n 0, 1) := by decide +kernel
theorem dL_isWell_62 : decode cL_isWell 62 = .ok (.iload 7, 2) := by decide +kernel
theorem dL_isWell_64 : decode cL_isWell 64 = .ok (.iconst 4, 1) := by decide +kernel
theorem dL_isWell_65 : decode cL_isWell 65 = .ok (.invokevirtual 31, 3) := by decide +kernel
