/-! DECODE ROWS of the law's methods -/
theorem dL_isStep_227 : decode cL_isStep 227 = .ok (.ifCond .eq 13, 3) := by decide +kernel
theorem dL_isStep_230 : decode cL_isStep 230 = .ok (.iload 10, 2) := by decide +kernel
theorem dL_isStep_232 : decode cL_isStep 232 = .ok (.ifCond .eq 8, 3) := by decide +kernel
theorem dL_isStep_235 : decode cL_isStep 235 = .ok (.bipush (-5), 2) := by decide +kernel
theorem dL_isStep_237 : decode cL_isStep 237 = .ok (.goto 5, 3) := by decide +kernel
theorem dL_isStep_240 : decode cL_isStep 240 = .ok (.iload 9, 2) := by decide +kernel
theorem dL_isStep_242 : decode cL_isStep 242 = .ok (.if_icmp .ne 7, 3) := by decide +kernel
theorem dL_isStep_245 : decode cL_isStep 245 = .ok (.iconst 1, 1) := by decide +kernel
theorem dL_isStep_246 : decode cL_isStep 246 = .ok (.goto 4, 3) := by decide +kernel
theorem dL_isStep_249 : decode cL_isStep 249 = .ok (.iconst 0, 1) := by decide +kernel
theorem dL_isStep_250 : decode cL_isStep 250 = .ok (.ireturn, 1) := by decide +kernel
theorem dL_isStep_251 : decode cL_isStep 251 = .ok (.iload 4, 2) := by decide +kernel
theorem dL_isStep_253 : decode cL_isStep 253 = .ok (.bipush 12, 2) := by decide +kernel
theorem dL_isStep_255 : decode cL_isStep 255 = .ok (.invokestatic 15, 3) := by decide +kernel
theorem dL_isStep_258 : decode cL_isStep 258 = .ok (.istore 6, 2) := by decide +kernel
theorem dL_isStep_260 : decode cL_isStep 260 = .ok (.iload_n 3, 1) := by decide +kernel
theorem dL_isStep_261 : decode cL_isStep 261 = .ok (.iconst 2, 1) := by decide +kernel
theorem dL_isStep_262 : decode cL_isStep 262 = .ok (.invokestatic 15, 3) := by decide +kernel
theorem dL_isStep_265 : decode cL_isStep 265 = .ok (.ifCond .ne 7, 3) := by decide +kernel
theorem dL_isStep_268 : decode cL_isStep 268 = .ok (.iconst 1, 1) := by decide +kernel
theorem dL_isStep_269 : decode cL_isStep 269 = .ok (.goto 4, 3) := by decide +kernel
theorem dL_isStep_272 : decode cL_isStep 272 = .ok (.iconst 0, 1) := by decide +kernel
theorem dL_isStep_273 : decode cL_isStep 273 = .ok (.istore 7, 2) := by decide +kernel
theorem dL_isStep_275 : decode cL_isStep 275 = .ok (.aload_n 0, 1) := by decide +kernel
theorem dL_isStep_276 : decode cL_isStep 276 = .ok (.iload 6, 2) := by decide +kernel
theorem dL_isStep_278 : decode cL_isStep 278 = .ok (.iconst 0, 1) := by decide +kernel
theorem dL_isStep_279 : decode cL_isStep 279 = .ok (.invokevirtual 21, 3) := by decide +kernel
theorem dL_isStep_282 : decode cL_isStep 282 = .ok (.iconst 1, 1) := by decide +kernel
theorem dL_isStep_283 : decode cL_isStep 283 = .ok (.if_icmp .ne 7, 3) := by decide +kernel
theorem dL_isStep_286 : decode cL_isStep 286 = .ok (.iconst 1, 1) := by decide +kernel
theorem dL_isStep_287 : decode cL_isStep 287 = .ok (.goto 4, 3) := by decide +kernel
theorem dL_isStep_290 : decode cL_isStep 290 = .ok (.iconst 0, 1) := by decide +kernel
theorem dL_isStep_291 : decode cL_isStep 291 = .ok (.iload 7, 2) := by decide +kernel
theorem dL_isStep_293 : decode cL_isStep 293 = .ok (.if_icmp .eq 18, 3) := by decide +kernel
theorem dL_isStep_296 : decode cL_isStep 296 = .ok (.aload_n 0, 1) := by decide +kernel
theorem dL_isStep_297 : decode cL_isStep 297 = .ok (.iload 6, 2) := by decide +kernel
theorem dL_isStep_299 : decode cL_isStep 299 = .ok (.iconst 1, 1) := by decide +kernel
theorem dL_isStep_300 : decode cL_isStep 300 = .ok (.invokevirtual 21, 3) := by decide +kernel
theorem dL_isStep_303 : decode cL_isStep 303 = .ok (.iconst 2, 1) := by decide +kernel
theorem dL_isStep_304 : decode cL_isStep 304 = .ok (.if_icmp .ge 7, 3) := by decide +kernel
theorem dL_isStep_307 : decode cL_isStep 307 = .ok (.iconst 1, 1) := by decide +kernel
theorem dL_isStep_308 : decode cL_isStep 308 = .ok (.goto 4, 3) := by decide +kernel
theorem dL_isStep_311 : decode cL_isStep 311 = .ok (.iconst 0, 1) := by decide +kernel
theorem dL_isStep_312 : decode cL_isStep 312 = .ok (.istore 8, 2) := by decide +kernel
theorem dL_isStep_314 : decode cL_isStep 314 = .ok (.aload_n 0, 1) := by decide +kernel
theorem dL_isStep_315 : decode cL_isStep 315 = .ok (.iload 6, 2) := by decide +kernel
theorem dL_isStep_317 : decode cL_isStep 317 = .ok (.iload 7, 2) := by decide +kernel
theorem dL_isStep_319 : decode cL_isStep 319 = .ok (.invokevirtual 27, 3) := by decide +kernel
theorem dL_isStep_322 : decode cL_isStep 322 = .ok (.istore 9, 2) := by decide +kernel
theorem dL_isStep_324 : decode cL_isStep 324 = .ok (.iload 9, 2) := by decide +kernel
theorem dL_isStep_326 : decode cL_isStep 326 = .ok (.aload_n 1, 1) := by decide +kernel
theorem dL_isStep_327 : decode cL_isStep 327 = .ok (.iload 6, 2) := by decide +kernel
theorem dL_isStep_329 : decode cL_isStep 329 = .ok (.iload 7, 2) := by decide +kernel
theorem dL_isStep_331 : decode cL_isStep 331 = .ok (.invokevirtual 27, 3) := by decide +kernel
theorem dL_isStep_334 : decode cL_isStep 334 = .ok (.if_icmp .ne 48, 3) := by decide +kernel
theorem dL_isStep_337 : decode cL_isStep 337 = .ok (.iload 9, 2) := by decide +kernel
theorem dL_isStep_339 : decode cL_isStep 339 = .ok (.ifCond .lt 7, 3) := by decide +kernel
theorem dL_isStep_342 : decode cL_isStep 342 = .ok (.iconst 1, 1) := by decide +kernel
theorem dL_isStep_343 : decode cL_isStep 343 = .ok (.goto 4, 3) := by decide +kernel
theorem dL_isStep_346 : decode cL_isStep 346 = .ok (.iconst 0, 1) := by decide +kernel
theorem dL_isStep_347 : decode cL_isStep 347 = .ok (.iload 8, 2) := by decide +kernel
theorem dL_isStep_349 : decode cL_isStep 349 = .ok (.if_icmp .ne 33, 3) := by decide +kernel
theorem dL_isStep_352 : decode cL_isStep 352 = .ok (.iload 8, 2) := by decide +kernel
theorem dL_isStep_354 : decode cL_isStep 354 = .ok (.ifCond .eq 24, 3) := by decide +kernel
theorem dL_isStep_357 : decode cL_isStep 357 = .ok (.aload_n 0, 1) := by decide +kernel
theorem dL_isStep_358 : decode cL_isStep 358 = .ok (.iload 6, 2) := by decide +kernel
theorem dL_isStep_360 : decode cL_isStep 360 = .ok (.iconst 0, 1) := by decide +kernel
theorem dL_isStep_361 : decode cL_isStep 361 = .ok (.invokevirtual 21, 3) := by decide +kernel
theorem dL_isStep_364 : decode cL_isStep 364 = .ok (.iconst 1, 1) := by decide +kernel
theorem dL_isStep_365 : decode cL_isStep 365 = .ok (.if_icmp .ne 7, 3) := by decide +kernel
theorem dL_isStep_368 : decode cL_isStep 368 = .ok (.iconst 1, 1) := by decide +kernel
theorem dL_isStep_369 : decode cL_isStep 369 = .ok (.goto 4, 3) := by decide +kernel
theorem dL_isStep_372 : decode cL_isStep 372 = .ok (.iconst 0, 1) := by decide +kernel
theorem dL_isStep_373 : decode cL_isStep 373 = .ok (.iload 7, 2) := by decide +kernel
theorem dL_isStep_375 : decode cL_isStep 375 = .ok (.if_icmp .ne 7, 3) := by decide +kernel
theorem dL_isStep_378 : decode cL_isStep 378 = .ok (.iconst 1, 1) := by decide +kernel
theorem dL_isStep_379 : decode cL_isStep 379 = .ok (.goto 4, 3) := by decide +kernel
theorem dL_isStep_382 : decode cL_isStep 382 = .ok (.iconst 0, 1) := by decide +kernel
theorem dL_isStep_383 : decode cL_isStep 383 = .ok (.ireturn, 1) := by decide +kernel
theorem dL_isStep_384 : decode cL_isStep 384 = .ok (.iload 4, 2) := by decide +kernel
theorem dL_isStep_386 : decode cL_isStep 386 = .ok (.iload 5, 2) := by decide +kernel
theorem dL_isStep_388 : decode cL_isStep 388 = .ok (.iconst 1, 1) := by decide +kernel
theorem dL_isStep_389 : decode cL_isStep 389 = .ok (.iadd, 1) := by decide +kernel
theorem dL_isStep_390 : decode cL_isStep 390 = .ok (.invokestatic 15, 3) := by decide +kernel
theorem dL_isStep_393 : decode cL_isStep 393 = .ok (.istore 6, 2) := by decide +kernel
theorem dL_isStep_395 : decode cL_isStep 395 = .ok (.aload_n 0, 1) := by decide +kernel
theorem dL_isStep_396 : decode cL_isStep 396 = .ok (.iload 6, 2) := by decide +kernel
theorem dL_isStep_398 : decode cL_isStep 398 = .ok (.iconst 1, 1) := by decide +kernel
theorem dL_isStep_399 : decode cL_isStep 399 = .ok (.invokevirtual 31, 3) := by decide +kernel
theorem dL_isStep_402 : decode cL_isStep 402 = .ok (.istore 7, 2) := by decide +kernel
theorem dL_isStep_404 : decode cL_isStep 404 = .ok (.aload_n 0, 1) := by decide +kernel
theorem dL_isStep_405 : decode cL_isStep 405 = .ok (.iload 6, 2) := by decide +kernel
theorem dL_isStep_407 : decode cL_isStep 407 = .ok (.iconst 2, 1) := by decide +kernel
theorem dL_isStep_408 : decode cL_isStep 408 = .ok (.invokevirtual 31, 3) := by decide +kernel
theorem dL_isStep_411 : decode cL_isStep 411 = .ok (.istore 8, 2) := by decide +kernel
theorem dL_isStep_413 : decode cL_isStep 413 = .ok (.aload_n 0, 1) := by decide +kernel
theorem dL_isStep_414 : decode cL_isStep 414 = .ok (.iload 6, 2) := by decide +kernel
theorem dL_isStep_416 : decode cL_isStep 416 = .ok (.invokevirtual 34, 3) := by decide +kernel
theorem dL_isStep_419 : decode cL_isStep 419 = .ok (.istore 9, 2) := by decide +kernel
theorem dL_isStep_421 : decode cL_isStep 421 = .ok (.iload 9, 2) := by decide +kernel
theorem dL_isStep_423 : decode cL_isStep 423 = .ok (.aload_n 1, 1) := by decide +kernel
theorem dL_isStep_424 : decode cL_isStep 424 = .ok (.iload 6, 2) := by decide +kernel
theorem dL_isStep_426 : decode cL_isStep 426 = .ok (.invokevirtual 34, 3) := by decide +kernel
theorem dL_isStep_429 : decode cL_isStep 429 = .ok (.if_icmp .ne 38, 3) := by decide +kernel
theorem dL_isStep_432 : decode cL_isStep 432 = .ok (.iload 9, 2) := by decide +kernel
theorem dL_isStep_434 : decode cL_isStep 434 = .ok (.iload 6, 2) := by decide +kernel
theorem dL_isStep_436 : decode cL_isStep 436 = .ok (.iload 5, 2) := by decide +kernel
theorem dL_isStep_438 : decode cL_isStep 438 = .ok (.if_icmp .ne 7, 3) := by decide +kernel
theorem dL_isStep_441 : decode cL_isStep 441 = .ok (.iconst (-1), 1) := by decide +kernel
theorem dL_isStep_442 : decode cL_isStep 442 = .ok (.goto 18, 3) := by decide +kernel
