/-! DECODE ROWS of the law's methods -/
theorem dL_isWell_277 : decode cL_isWell 277 = .ok (.iload 10, 2) := by decide +kernel
theorem dL_isWell_279 : decode cL_isWell 279 = .ok (.aload_n 0, 1) := by decide +kernel
theorem dL_isWell_280 : decode cL_isWell 280 = .ok (.iconst 4, 1) := by decide +kernel
theorem dL_isWell_281 : decode cL_isWell 281 = .ok (.invokevirtual 9, 3) := by decide +kernel
theorem dL_isWell_284 : decode cL_isWell 284 = .ok (.if_icmp .ge 96, 3) := by decide +kernel
theorem dL_isWell_287 : decode cL_isWell 287 = .ok (.iload 9, 2) := by decide +kernel
theorem dL_isWell_289 : decode cL_isWell 289 = .ok (.aload_n 0, 1) := by decide +kernel
theorem dL_isWell_290 : decode cL_isWell 290 = .ok (.iload 10, 2) := by decide +kernel
theorem dL_isWell_292 : decode cL_isWell 292 = .ok (.iconst 3, 1) := by decide +kernel
theorem dL_isWell_293 : decode cL_isWell 293 = .ok (.invokevirtual 31, 3) := by decide +kernel
theorem dL_isWell_296 : decode cL_isWell 296 = .ok (.iload 7, 2) := by decide +kernel
theorem dL_isWell_298 : decode cL_isWell 298 = .ok (.if_icmp .ne 7, 3) := by decide +kernel
theorem dL_isWell_301 : decode cL_isWell 301 = .ok (.iconst 1, 1) := by decide +kernel
theorem dL_isWell_302 : decode cL_isWell 302 = .ok (.goto 4, 3) := by decide +kernel
theorem dL_isWell_305 : decode cL_isWell 305 = .ok (.iconst 0, 1) := by decide +kernel
theorem dL_isWell_306 : decode cL_isWell 306 = .ok (.iadd, 1) := by decide +kernel
theorem dL_isWell_307 : decode cL_isWell 307 = .ok (.istore 9, 2) := by decide +kernel
theorem dL_isWell_309 : decode cL_isWell 309 = .ok (.iload 6, 2) := by decide +kernel
theorem dL_isWell_311 : decode cL_isWell 311 = .ok (.ifCond .eq 60, 3) := by decide +kernel
theorem dL_isWell_314 : decode cL_isWell 314 = .ok (.aload_n 0, 1) := by decide +kernel
theorem dL_isWell_315 : decode cL_isWell 315 = .ok (.iload 10, 2) := by decide +kernel
theorem dL_isWell_317 : decode cL_isWell 317 = .ok (.iconst 3, 1) := by decide +kernel
theorem dL_isWell_318 : decode cL_isWell 318 = .ok (.invokevirtual 31, 3) := by decide +kernel
theorem dL_isWell_321 : decode cL_isWell 321 = .ok (.iload 7, 2) := by decide +kernel
theorem dL_isWell_323 : decode cL_isWell 323 = .ok (.if_icmp .ne 44, 3) := by decide +kernel
theorem dL_isWell_326 : decode cL_isWell 326 = .ok (.aload_n 0, 1) := by decide +kernel
theorem dL_isWell_327 : decode cL_isWell 327 = .ok (.iload 8, 2) := by decide +kernel
theorem dL_isWell_329 : decode cL_isWell 329 = .ok (.iconst 0, 1) := by decide +kernel
theorem dL_isWell_330 : decode cL_isWell 330 = .ok (.invokevirtual 31, 3) := by decide +kernel
theorem dL_isWell_333 : decode cL_isWell 333 = .ok (.aload_n 0, 1) := by decide +kernel
theorem dL_isWell_334 : decode cL_isWell 334 = .ok (.iload 10, 2) := by decide +kernel
theorem dL_isWell_336 : decode cL_isWell 336 = .ok (.iconst 0, 1) := by decide +kernel
theorem dL_isWell_337 : decode cL_isWell 337 = .ok (.invokevirtual 31, 3) := by decide +kernel
theorem dL_isWell_340 : decode cL_isWell 340 = .ok (.if_icmp .gt 27, 3) := by decide +kernel
theorem dL_isWell_343 : decode cL_isWell 343 = .ok (.aload_n 0, 1) := by decide +kernel
theorem dL_isWell_344 : decode cL_isWell 344 = .ok (.iload 8, 2) := by decide +kernel
theorem dL_isWell_346 : decode cL_isWell 346 = .ok (.iconst 0, 1) := by decide +kernel
theorem dL_isWell_347 : decode cL_isWell 347 = .ok (.invokevirtual 31, 3) := by decide +kernel
theorem dL_isWell_350 : decode cL_isWell 350 = .ok (.aload_n 0, 1) := by decide +kernel
theorem dL_isWell_351 : decode cL_isWell 351 = .ok (.iload 10, 2) := by decide +kernel
theorem dL_isWell_353 : decode cL_isWell 353 = .ok (.iconst 0, 1) := by decide +kernel
theorem dL_isWell_354 : decode cL_isWell 354 = .ok (.invokevirtual 31, 3) := by decide +kernel
theorem dL_isWell_357 : decode cL_isWell 357 = .ok (.if_icmp .ne 14, 3) := by decide +kernel
theorem dL_isWell_360 : decode cL_isWell 360 = .ok (.iload 8, 2) := by decide +kernel
theorem dL_isWell_362 : decode cL_isWell 362 = .ok (.iload 10, 2) := by decide +kernel
theorem dL_isWell_364 : decode cL_isWell 364 = .ok (.if_icmp .gt 7, 3) := by decide +kernel
theorem dL_isWell_367 : decode cL_isWell 367 = .ok (.iconst 1, 1) := by decide +kernel
theorem dL_isWell_368 : decode cL_isWell 368 = .ok (.goto 4, 3) := by decide +kernel
theorem dL_isWell_371 : decode cL_isWell 371 = .ok (.iconst 0, 1) := by decide +kernel
theorem dL_isWell_372 : decode cL_isWell 372 = .ok (.istore 6, 2) := by decide +kernel
theorem dL_isWell_374 : decode cL_isWell 374 = .ok (.iinc 10 1, 3) := by decide +kernel
theorem dL_isWell_377 : decode cL_isWell 377 = .ok (.goto (-100), 3) := by decide +kernel
theorem dL_isWell_380 : decode cL_isWell 380 = .ok (.iload 6, 2) := by decide +kernel
theorem dL_isWell_382 : decode cL_isWell 382 = .ok (.ifCond .eq 87, 3) := by decide +kernel
theorem dL_isWell_385 : decode cL_isWell 385 = .ok (.iload 9, 2) := by decide +kernel
theorem dL_isWell_387 : decode cL_isWell 387 = .ok (.aload_n 0, 1) := by decide +kernel
theorem dL_isWell_388 : decode cL_isWell 388 = .ok (.iload 7, 2) := by decide +kernel
theorem dL_isWell_390 : decode cL_isWell 390 = .ok (.iconst 1, 1) := by decide +kernel
theorem dL_isWell_391 : decode cL_isWell 391 = .ok (.invokevirtual 21, 3) := by decide +kernel
theorem dL_isWell_394 : decode cL_isWell 394 = .ok (.if_icmp .ne 75, 3) := by decide +kernel
theorem dL_isWell_397 : decode cL_isWell 397 = .ok (.aload_n 0, 1) := by decide +kernel
theorem dL_isWell_398 : decode cL_isWell 398 = .ok (.iload 7, 2) := by decide +kernel
theorem dL_isWell_400 : decode cL_isWell 400 = .ok (.iconst 2, 1) := by decide +kernel
theorem dL_isWell_401 : decode cL_isWell 401 = .ok (.invokevirtual 21, 3) := by decide +kernel
theorem dL_isWell_404 : decode cL_isWell 404 = .ok (.aload_n 0, 1) := by decide +kernel
theorem dL_isWell_405 : decode cL_isWell 405 = .ok (.iload 7, 2) := by decide +kernel
theorem dL_isWell_407 : decode cL_isWell 407 = .ok (.iconst 0, 1) := by decide +kernel
theorem dL_isWell_408 : decode cL_isWell 408 = .ok (.invokevirtual 21, 3) := by decide +kernel
theorem dL_isWell_411 : decode cL_isWell 411 = .ok (.iconst 1, 1) := by decide +kernel
theorem dL_isWell_412 : decode cL_isWell 412 = .ok (.if_icmp .ne 11, 3) := by decide +kernel
theorem dL_isWell_415 : decode cL_isWell 415 = .ok (.aload_n 0, 1) := by decide +kernel
theorem dL_isWell_416 : decode cL_isWell 416 = .ok (.iconst 0, 1) := by decide +kernel
theorem dL_isWell_417 : decode cL_isWell 417 = .ok (.invokevirtual 9, 3) := by decide +kernel
theorem dL_isWell_420 : decode cL_isWell 420 = .ok (.goto 4, 3) := by decide +kernel
theorem dL_isWell_423 : decode cL_isWell 423 = .ok (.iconst 1, 1) := by decide +kernel
theorem dL_isWell_424 : decode cL_isWell 424 = .ok (.iload 9, 2) := by decide +kernel
theorem dL_isWell_426 : decode cL_isWell 426 = .ok (.isub, 1) := by decide +kernel
theorem dL_isWell_427 : decode cL_isWell 427 = .ok (.if_icmp .ne 42, 3) := by decide +kernel
theorem dL_isWell_430 : decode cL_isWell 430 = .ok (.aload_n 0, 1) := by decide +kernel
theorem dL_isWell_431 : decode cL_isWell 431 = .ok (.iload 7, 2) := by decide +kernel
theorem dL_isWell_433 : decode cL_isWell 433 = .ok (.iconst 2, 1) := by decide +kernel
theorem dL_isWell_434 : decode cL_isWell 434 = .ok (.invokevirtual 21, 3) := by decide +kernel
theorem dL_isWell_437 : decode cL_isWell 437 = .ok (.ifCond .lt 32, 3) := by decide +kernel
theorem dL_isWell_440 : decode cL_isWell 440 = .ok (.iload 8, 2) := by decide +kernel
theorem dL_isWell_442 : decode cL_isWell 442 = .ok (.bipush (-6), 2) := by decide +kernel
theorem dL_isWell_444 : decode cL_isWell 444 = .ok (.if_icmp .ne 7, 3) := by decide +kernel
theorem dL_isWell_447 : decode cL_isWell 447 = .ok (.iconst 1, 1) := by decide +kernel
theorem dL_isWell_448 : decode cL_isWell 448 = .ok (.goto 4, 3) := by decide +kernel
theorem dL_isWell_451 : decode cL_isWell 451 = .ok (.iconst 0, 1) := by decide +kernel
theorem dL_isWell_452 : decode cL_isWell 452 = .ok (.iload 9, 2) := by decide +kernel
theorem dL_isWell_454 : decode cL_isWell 454 = .ok (.ifCond .ne 7, 3) := by decide +kernel
theorem dL_isWell_457 : decode cL_isWell 457 = .ok (.iconst 1, 1) := by decide +kernel
theorem dL_isWell_458 : decode cL_isWell 458 = .ok (.goto 4, 3) := by decide +kernel
theorem dL_isWell_461 : decode cL_isWell 461 = .ok (.iconst 0, 1) := by decide +kernel
theorem dL_isWell_462 : decode cL_isWell 462 = .ok (.if_icmp .ne 7, 3) := by decide +kernel
theorem dL_isWell_465 : decode cL_isWell 465 = .ok (.iconst 1, 1) := by decide +kernel
theorem dL_isWell_466 : decode cL_isWell 466 = .ok (.goto 4, 3) := by decide +kernel
theorem dL_isWell_469 : decode cL_isWell 469 = .ok (.iconst 0, 1) := by decide +kernel
theorem dL_isWell_470 : decode cL_isWell 470 = .ok (.istore 6, 2) := by decide +kernel
theorem dL_isWell_472 : decode cL_isWell 472 = .ok (.iinc 7 1, 3) := by decide +kernel
theorem dL_isWell_475 : decode cL_isWell 475 = .ok (.goto (-235), 3) := by decide +kernel
theorem dL_isWell_478 : decode cL_isWell 478 = .ok (.iconst 0, 1) := by decide +kernel
theorem dL_isWell_479 : decode cL_isWell 479 = .ok (.istore 7, 2) := by decide +kernel
theorem dL_isWell_481 : decode cL_isWell 481 = .ok (.iload 7, 2) := by decide +kernel
theorem dL_isWell_483 : decode cL_isWell 483 = .ok (.iconst 4, 1) := by decide +kernel
theorem dL_isWell_484 : decode cL_isWell 484 = .ok (.if_icmp .ge 37, 3) := by decide +kernel
theorem dL_isWell_487 : decode cL_isWell 487 = .ok (.iload 6, 2) := by decide +kernel
theorem dL_isWell_489 : decode cL_isWell 489 = .ok (.ifCond .eq 23, 3) := by decide +kernel
theorem dL_isWell_492 : decode cL_isWell 492 = .ok (.aload 4, 2) := by decide +kernel
theorem dL_isWell_494 : decode cL_isWell 494 = .ok (.iload 7, 2) := by decide +kernel
